section
/-! THE SMALL MACHINE (mv_): the decoded instructions run over locals as a list of pairs, a stack of values and a heap as a list of cells. Its pointer k stands for the address mv_ad .. k of the real machine; in its heap an array's class is the number of its type. -/
/-- a state: pc, locals, operand stack, heap, cells and slots that may still be made -/
abbrev mv_S : Type := Nat × List (Nat × Value) × List Value × List va_E × Nat × Nat
/-- what an instruction comes to: it goes on; it calls (method, arguments, the stack below them, its length); it returns; it throws -/
abbrev mv_R : Type := mv_S ⊕ ((Nat × List Value × List Value × Nat) ⊕ (Option Value ⊕ Nat))
/-- what a call comes to: it has thrown, or returned; the heap, what may still be made -/
abbrev mv_E : Type := (Nat ⊕ Option Value) × List va_E × Nat × Nat
/-- the tables: instructions; fields (class, place; by method and constant pool number); classes to make; types of arrays to make; calls (kind, method, how many arguments); constants; locals of a method; handlers; slots of a class's objects; first values of its fields; types of its fields; whether a field is final; constructors; types of arrays of ints, bytes, booleans; component types; the class that an array's type has; what a method returns; the class that a method's receiver has; the class that is thrown; the three types of a grid -/
abbrev mv_G : Type := (Nat → Nat → Option (Instr × Nat)) × (Nat → Nat → Option (Nat × Nat)) × (Nat → Nat → Option Nat) × (Nat → Nat → Option Nat) × (Nat → Nat → Option (Nat × Nat × Nat)) × (Nat → Nat → Option Value) × (Nat → Nat) × (Nat → List (Nat × Nat × Nat × Nat)) × (Nat → Nat) × (Nat → List Value) × (Nat → Nat → Option FieldType) × (Nat → Nat → Bool) × (Nat → Nat → Bool) × (Nat → Option FieldType) × (Nat → Option Nat) × (Nat → Option FieldType) × (Nat → Nat) × Nat × (Nat → Nat → Option (Nat × Nat × Nat)) × (Nat → Option (Nat × (Nat → Int32)))
def mv_gI (G : mv_G) : Nat → Nat → Option (Instr × Nat) := G.1
def mv_gF (G : mv_G) : Nat → Nat → Option (Nat × Nat) := G.2.1
def mv_gN (G : mv_G) : Nat → Nat → Option Nat := G.2.2.1
def mv_gA (G : mv_G) : Nat → Nat → Option Nat := G.2.2.2.1
def mv_gC (G : mv_G) : Nat → Nat → Option (Nat × Nat × Nat) := G.2.2.2.2.1
def mv_gK (G : mv_G) : Nat → Nat → Option Value := G.2.2.2.2.2.1
def mv_gL (G : mv_G) : Nat → Nat := G.2.2.2.2.2.2.1
def mv_gH (G : mv_G) : Nat → List (Nat × Nat × Nat × Nat) := G.2.2.2.2.2.2.2.1
def mv_gZ (G : mv_G) : Nat → Nat := G.2.2.2.2.2.2.2.2.1
def mv_gD (G : mv_G) : Nat → List Value := G.2.2.2.2.2.2.2.2.2.1
def mv_gT (G : mv_G) : Nat → Nat → Option FieldType := G.2.2.2.2.2.2.2.2.2.2.1
def mv_gP (G : mv_G) : Nat → Nat → Bool := G.2.2.2.2.2.2.2.2.2.2.2.1
def mv_gQ (G : mv_G) : Nat → Nat → Bool := G.2.2.2.2.2.2.2.2.2.2.2.2.1
def mv_gY (G : mv_G) : Nat → Option FieldType := G.2.2.2.2.2.2.2.2.2.2.2.2.2.1
def mv_gE (G : mv_G) : Nat → Option Nat := G.2.2.2.2.2.2.2.2.2.2.2.2.2.2.1
def mv_gR (G : mv_G) : Nat → Option FieldType := G.2.2.2.2.2.2.2.2.2.2.2.2.2.2.2.1
def mv_gW (G : mv_G) : Nat → Nat := G.2.2.2.2.2.2.2.2.2.2.2.2.2.2.2.2.1
def mv_gX (G : mv_G) : Nat := G.2.2.2.2.2.2.2.2.2.2.2.2.2.2.2.2.2.1
def mv_gM (G : mv_G) : Nat → Nat → Option (Nat × Nat × Nat) := G.2.2.2.2.2.2.2.2.2.2.2.2.2.2.2.2.2.2.1
/-- arrays of ints that were there before, by their pointers: length, what they hold -/
def mv_gS (G : mv_G) : Nat → Option (Nat × (Nat → Int32)) := G.2.2.2.2.2.2.2.2.2.2.2.2.2.2.2.2.2.2.2
/-- pointers from here on are constants of text -/
def mv_big : Nat := 1099511627776
def mv_tgt (pc : Nat) (off : Int) : Option Nat := if 0 ≤ (pc : Int) + off then some ((pc : Int) + off).toNat else none
theorem mv_tgt_eq {pc t : Nat} {off : Int} (h : mv_tgt pc off = some t) : (pc : Int) + off = (t : Int) := by
  unfold mv_tgt at h
  split at h
  · cases h
    omega
  · cases h
def mv_find (i : Nat) : List (Nat × Value) → Nat → Option (Nat × Value)
  | [], _ => none
  | q :: r, k => if q.1 = i then some (k, q.2) else mv_find i r (k + 1)
theorem mv_find_at {i : Nat} : ∀ (l : List (Nat × Value)) (k j : Nat) (v : Value), mv_find i l k = some (j, v) → k ≤ j ∧ l[j - k]? = some (i, v)
  | [], _, _, _, h => by cases h
  | q :: r, k, j, v, h => by
    unfold mv_find at h
    split at h
    · rename_i e
      cases h
      exact ⟨Nat.le_refl _, by simp [← e]⟩
    · obtain ⟨h1, h2⟩ := mv_find_at r (k + 1) j v h
      refine ⟨by omega, ?_⟩
      rw [show j - k = (j - (k + 1)) + 1 by omega, List.getElem?_cons_succ]
      exact h2
def mv_keep (i : Nat) (l : List (Nat × Value)) : List (Nat × Value) := l.filter (fun q => !(q.1 == i) && !(q.1 + 1 == i && q.2.category == 2))
def mv_int : Value → Bool
  | .int _ => true
  | _ => false
def mv_rfv : Value → Bool
  | .ref _ => true
  | .null => true
  | _ => false
def mv_one (b : Value → Bool) (v : Value) : Bool := b v
section
variable (G : mv_G) (y pc : Nat) (l : List (Nat × Value)) (st : List Value) (hp : List va_E) (cb sb : Nat)
def mv_load (i len : Nat) (b : Value → Bool) : Option mv_R := match mv_find i l 0 with
  | some (_, v) => if b v = true then some (.inl (pc + len, l, v :: st, hp, cb, sb)) else none
  | none => none
def mv_store (i len : Nat) (b : Value → Bool) : Option mv_R := match st with
  | v :: r => if b v = true ∧ i < mv_gL G y then some (.inl (pc + len, (i, v) :: mv_keep i l, r, hp, cb, sb)) else none
  | [] => none
def mv_inc (i : Nat) (n : Int) (len : Nat) : Option mv_R := match mv_find i l 0 with
  | some (_, .int x) => if i < mv_gL G y then some (.inl (pc + len, (i, .int (x + Int32.ofInt n)) :: mv_keep i l, st, hp, cb, sb)) else none
  | _ => none
def mv_bin (f : Int32 → Int32 → Int32) : Option mv_R := match st with
  | .int b :: .int a :: r => some (.inl (pc + 1, l, .int (f a b) :: r, hp, cb, sb))
  | _ => none
def mv_dvd (f : Int32 → Int32 → Int32) : Option mv_R := match st with
  | .int b :: .int a :: r => if b = 0 then none else some (.inl (pc + 1, l, .int (f a b) :: r, hp, cb, sb))
  | _ => none
def mv_un (f : Int32 → Int32) : Option mv_R := match st with
  | .int a :: r => some (.inl (pc + 1, l, .int (f a) :: r, hp, cb, sb))
  | _ => none
def mv_cond : Jvm.ClassFile.Cond → Int32 → Int32 → Bool
  | .eq, a, b => decide (a = b)
  | .ne, a, b => decide (¬ a = b)
  | .lt, a, b => decide (a < b)
  | .ge, a, b => decide (b ≤ a)
  | .gt, a, b => decide (b < a)
  | .le, a, b => decide (a ≤ b)
def mv_jump (off : Int) (c : Bool) (r : List Value) : Option mv_R := match mv_tgt pc off with
  | some t => some (.inl (if c = true then t else pc + 3, l, r, hp, cb, sb))
  | none => none
def mv_if (c : Jvm.ClassFile.Cond) (off : Int) : Option mv_R := match st with
  | .int a :: r => mv_jump pc l hp cb sb off (mv_cond c a 0) r
  | _ => none
def mv_icmp (c : Jvm.ClassFile.Cond) (off : Int) : Option mv_R := match st with
  | .int b :: .int a :: r => mv_jump pc l hp cb sb off (mv_cond c a b) r
  | _ => none
/-- a reference that is no constant of text, or null -/
def mv_ptr : Value → Option (Option Nat)
  | .null => some none
  | .ref a => if a < mv_big then some (some a) else none
  | _ => none
def mv_acmp (c : ACond) (off : Int) : Option mv_R := match st with
  | b :: a :: r => match mv_ptr a, mv_ptr b with
    | some x, some z => mv_jump pc l hp cb sb off (match c with | .eq => decide (x = z) | .ne => decide (¬ x = z)) r
    | _, _ => none
  | _ => none
def mv_ifn (n : Bool) (off : Int) : Option mv_R := match st with
  | .null :: r => mv_jump pc l hp cb sb off n r
  | .ref _ :: r => mv_jump pc l hp cb sb off (!n) r
  | _ => none
def mv_push (len : Nat) (v : Value) : Option mv_R := some (.inl (pc + len, l, v :: st, hp, cb, sb))
def mv_dup : Option mv_R := match st with
  | v :: r => if v.category = 1 then some (.inl (pc + 1, l, v :: v :: r, hp, cb, sb)) else none
  | _ => none
def mv_pop : Option mv_R := match st with
  | v :: r => if v.category = 1 then some (.inl (pc + 1, l, r, hp, cb, sb)) else none
  | _ => none
def mv_dupx : Option mv_R := match st with
  | v :: w :: r => if v.category = 1 ∧ w.category = 1 then some (.inl (pc + 1, l, v :: w :: v :: r, hp, cb, sb)) else none
  | _ => none
def mv_dup2 : Option mv_R := match st with
  | v :: w :: r => if v.category = 1 ∧ w.category = 1 then some (.inl (pc + 1, l, v :: w :: v :: w :: r, hp, cb, sb)) else none
  | _ => none
def mv_tsw (dflt lo hi : Int) (offs : Array Int) : Option mv_R := match st with
  | .int x :: r => if x.toInt < lo ∨ hi < x.toInt then match mv_tgt pc dflt with
      | some t => some (.inl (t, l, r, hp, cb, sb))
      | none => none
    else match offs[(x.toInt - lo).toNat]? with
      | some off => match mv_tgt pc off with
        | some t => some (.inl (t, l, r, hp, cb, sb))
        | none => none
      | none => none
  | _ => none
def mv_lsw (dflt : Int) (ps : Array (Int × Int)) : Option mv_R := match st with
  | .int x :: r => if (ps.toList.zip (ps.toList.drop 1)).all (fun (a, next) => a.1 < next.1) = true then match mv_tgt pc (Op.lookupswitch.offset ps.toList dflt x.toInt) with
      | some t => some (.inl (t, l, r, hp, cb, sb))
      | none => none
    else none
  | _ => none
end
def mv_f_iadd (a b : Int32) : Int32 := a + b
def mv_f_isub (a b : Int32) : Int32 := a - b
def mv_f_imul (a b : Int32) : Int32 := a * b
def mv_f_iand (a b : Int32) : Int32 := a &&& b
def mv_f_ior (a b : Int32) : Int32 := a ||| b
def mv_f_ixor (a b : Int32) : Int32 := a ^^^ b
def mv_f_ishl (a b : Int32) : Int32 := a <<< (b &&& 31)
def mv_f_ishr (a b : Int32) : Int32 := a >>> (b &&& 31)
def mv_f_iushr (a b : Int32) : Int32 := (a.toUInt32 >>> (b.toUInt32 &&& Int32.toUInt32 31)).toInt32
def mv_f_idiv (a b : Int32) : Int32 := a / b
def mv_f_irem (a b : Int32) : Int32 := a - a / b * b
def mv_f_ineg (a : Int32) : Int32 := -a
def mv_f_i2b (a : Int32) : Int32 := a.toInt8.toInt32
def mv_f_i2c (a : Int32) : Int32 := (a.toUInt32 % 65536).toInt32
end
section
/-! rows of the small machine over the real one: what it holds there, and the instructions that leave the heap alone -/
def mv_ad (base : Nat) (kt : Nat → Nat) (a : Nat) : Nat := if a < mv_big then base + a else kt (a - mv_big)
def mv_v (ad : Nat → Nat) : Value → Value
  | .ref a => .ref (ad a)
  | v => v
def mv_l (ad : Nat → Nat) (l : List (Nat × Value)) : List (Nat × Value) := l.map (fun q => (q.1, mv_v ad q.2))
def mv_e (ad dA : Nat → Nat) : va_E → va_E
  | .inl (t, n, .inl f) => .inl (dA t, n, .inl f)
  | .inl (t, n, .inr (.inl f)) => .inl (dA t, n, .inr (.inl f))
  | .inl (t, n, .inr (.inr (.inl f))) => .inl (dA t, n, .inr (.inr (.inl f)))
  | .inl (t, n, .inr (.inr (.inr (.inl f)))) => .inl (dA t, n, .inr (.inr (.inr (.inl f))))
  | .inl (t, n, .inr (.inr (.inr (.inr g)))) => .inl (dA t, n, .inr (.inr (.inr (.inr (fun i => (g i).map ad)))))
  | .inr (c, fs) => .inr (c, fs.map (mv_v ad))
def mv_w (ad dA : Nat → Nat) : Nat → List va_E → va_W
  | _, [] => []
  | k, e :: r => (ad k, mv_e ad dA e) :: mv_w ad dA (k + 1) r
theorem mv_v_cat (ad : Nat → Nat) (v : Value) : (mv_v ad v).category = v.category := by cases v <;> rfl
theorem mv_keep_l (ad : Nat → Nat) (i : Nat) : ∀ l : List (Nat × Value), mv_l ad (mv_keep i l) = mv_keep i (mv_l ad l)
  | [] => rfl
  | q :: r => by
    have ih := mv_keep_l ad i r
    unfold mv_l mv_keep at ih ⊢
    rw [List.filter_cons, List.map_cons, List.filter_cons]
    simp only [mv_v_cat]
    split
    · rw [List.map_cons, ih]
    · exact ih
theorem mv_l_at {ad : Nat → Nat} {l : List (Nat × Value)} {k i : Nat} {v : Value} (h : l[k]? = some (i, v)) : (mv_l ad l)[k]? = some (i, mv_v ad v) := by
  unfold mv_l
  rw [List.getElem?_map, h]
  rfl
theorem mv_w_at {ad dA : Nat → Nat} : ∀ (hp : List va_E) (n k : Nat) (e : va_E), hp[k]? = some e → (mv_w ad dA n hp)[k]? = some (ad (n + k), mv_e ad dA e)
  | [], _, _, _, h => by simp at h
  | _ :: _, n, 0, _, h => by
    cases h
    rfl
  | _ :: r, n, k + 1, e, h => by
    have := mv_w_at (ad := ad) (dA := dA) r (n + 1) k e h
    rw [show n + (k + 1) = n + 1 + k by omega]
    exact this
theorem mv_w_len (ad dA : Nat → Nat) : ∀ (hp : List va_E) (n : Nat), (mv_w ad dA n hp).length = hp.length
  | [], _ => rfl
  | _ :: r, n => congrArg (· + 1) (mv_w_len ad dA r (n + 1))
theorem mv_w_of {ad dA : Nat → Nat} {hp : List va_E} {n k : Nat} {q : Nat × va_E} (h : (mv_w ad dA n hp)[k]? = some q) : ∃ e, hp[k]? = some e ∧ q = (ad (n + k), mv_e ad dA e) := by
  have hk : k < hp.length := by
    rw [← mv_w_len ad dA hp n]
    exact (List.getElem?_eq_some_iff.mp h).1
  have h1 : hp[k]? = some hp[k] := List.getElem?_eq_getElem hk
  refine ⟨_, h1, ?_⟩
  rw [mv_w_at hp n k _ h1] at h
  exact (Option.some.inj h).symm
theorem mv_w_set {ad dA : Nat → Nat} : ∀ (hp : List va_E) (n k : Nat) (e : va_E), (mv_w ad dA n hp).set k (ad (n + k), mv_e ad dA e) = mv_w ad dA n (hp.set k e)
  | [], _, _, _ => rfl
  | _ :: _, n, 0, _ => rfl
  | _ :: r, n, k + 1, e => by
    have := mv_w_set (ad := ad) (dA := dA) r (n + 1) k e
    rw [show n + (k + 1) = n + 1 + k by omega]
    exact congrArg (List.cons _) this
theorem mv_w_app {ad dA : Nat → Nat} : ∀ (hp : List va_E) (n : Nat) (r : List va_E), mv_w ad dA n (hp ++ r) = mv_w ad dA n hp ++ mv_w ad dA (n + hp.length) r
  | [], _, _ => rfl
  | _ :: q, n, r => by
    have := mv_w_app (ad := ad) (dA := dA) q (n + 1) r
    rw [List.length_cons, show n + (q.length + 1) = n + 1 + q.length by omega]
    exact congrArg (List.cons _) this
/-- what holds where the small machine stands at S: base: the address of its pointer 0 -/
def mv_inv (base : Nat) (ad dA : Nat → Nat) (D : va_G) (cl : List vw_C) (nL : Nat) (R : Room) (s : State) (S : mv_S) (H : Heap) (ls : Array Slot) (locs : List Loc) (cells slots : Nat) : Prop :=
  lv_has ls nL (mv_l ad S.2.1) ∧ va_P D cl (mv_w ad dA 0 S.2.2.2.1) H ∧ H.size = base + S.2.2.2.1.length ∧ va_S (fun q => base ≤ q) s.heap H locs ∧ cells + S.2.2.2.2.1 ≤ R.cells ∧ slots + S.2.2.2.2.2 ≤ R.slots ∧ S.2.2.2.1.length + S.2.2.2.2.1 ≤ mv_big
/-- the real machine goes on well from every place at which the small one stands at S -/
def mv_K (base : Nat) (ad dA : Nat → Nat) (D : va_G) (cl : List vw_C) (nL : Nat) (p : Program) (l : Launch) (e : Env) (R : Room) (s : State) (m : MethodId) (args : Array Value) (below : List Frame) (meth : Method) (c : Code) (Q : State → Prop) (S : mv_S) : Prop :=
  ∀ (H : Heap) (ls : Array Slot) (locs : List Loc) (cells slots : Nat), mv_inv base ad dA D cl nL R s S H ls locs cells slots → W p l e R s m args below meth c H locs cells slots Q (F0 m S.1 ls (S.2.2.1.map (mv_v ad)))
theorem mv_inv_st {base : Nat} {ad dA : Nat → Nat} {D : va_G} {cl : List vw_C} {nL : Nat} {R : Room} {s : State} {pc pc' i cb sb : Nat} {lo : List (Nat × Value)} {st st' : List Value} {hp : List va_E} {H : Heap} {ls ls' : Array Slot} {locs : List Loc} {cells slots : Nat} {v w : Value} (hl : lv_has ls' nL ((i, w) :: mv_keep i (mv_l ad lo))) (I : mv_inv base ad dA D cl nL R s (pc, lo, st, hp, cb, sb) H ls locs cells slots) (hw : w = mv_v ad v := by rfl) : mv_inv base ad dA D cl nL R s (pc', (i, v) :: mv_keep i lo, st', hp, cb, sb) H ls' locs cells slots := by
  refine ⟨?_, I.2⟩
  show lv_has ls' nL ((i, mv_v ad v) :: mv_l ad (mv_keep i lo))
  rw [mv_keep_l, ← hw]
  exact hl
section MVR
variable {base : Nat} {ad dA : Nat → Nat} {D : va_G} {cl : List vw_C} {nL : Nat} {p : Program} {l : Launch} {e : Env} {R : Room} {s : State} {m : MethodId} {args : Array Value} {below : List Frame} {meth : Method} {c : Code} {Q : State → Prop} {cc : ByteArray} {G : mv_G} {y pc : Nat} {lo : List (Nat × Value)} {st : List Value} {hp : List va_E} {cb sb : Nat} {S : mv_S}
theorem mr_iload (hx : p.tables.exec = Jvm.exec) (hb : c.code = cc) {i : Nat} (hdg : decode cc pc = .ok (.iload i, 2)) (h : mv_load pc lo st hp cb sb i 2 mv_int = some (.inl S)) (k : mv_K base ad dA D cl nL p l e R s m args below meth c Q S) : mv_K base ad dA D cl nL p l e R s m args below meth c Q (pc, lo, st, hp, cb, sb) := by
  intro H ls locs cells slots I
  unfold mv_load at h
  split at h
  · rename_i j v hf
    split at h
    · rename_i hv
      cases h
      cases v <;> simp [mv_int] at hv
      obtain ⟨-, h2⟩ := mv_find_at _ _ _ _ hf
      exact lv_iload hx hb hdg (lv_at I.1 _ (mv_l_at h2)) (k H ls locs cells slots I)
    · cases h
  · cases h
theorem mr_iload_n (hx : p.tables.exec = Jvm.exec) (hb : c.code = cc) {i : Fin 4} (hdg : decode cc pc = .ok (.iload_n i, 1)) (h : mv_load pc lo st hp cb sb i 1 mv_int = some (.inl S)) (k : mv_K base ad dA D cl nL p l e R s m args below meth c Q S) : mv_K base ad dA D cl nL p l e R s m args below meth c Q (pc, lo, st, hp, cb, sb) := by
  intro H ls locs cells slots I
  unfold mv_load at h
  split at h
  · rename_i j v hf
    split at h
    · rename_i hv
      cases h
      cases v <;> simp [mv_int] at hv
      obtain ⟨-, h2⟩ := mv_find_at _ _ _ _ hf
      exact lv_iload_n hx hb hdg rfl (lv_at I.1 _ (mv_l_at h2)) (k H ls locs cells slots I)
    · cases h
  · cases h
theorem mr_aload (hx : p.tables.exec = Jvm.exec) (hb : c.code = cc) {i : Nat} (hdg : decode cc pc = .ok (.aload i, 2)) (h : mv_load pc lo st hp cb sb i 2 mv_rfv = some (.inl S)) (k : mv_K base ad dA D cl nL p l e R s m args below meth c Q S) : mv_K base ad dA D cl nL p l e R s m args below meth c Q (pc, lo, st, hp, cb, sb) := by
  intro H ls locs cells slots I
  unfold mv_load at h
  split at h
  · rename_i j v hf
    split at h
    · rename_i hv
      cases h
      obtain ⟨-, h2⟩ := mv_find_at _ _ _ _ hf
      cases v <;> simp [mv_rfv] at hv
      · exact lv_aloadN hx hb hdg (lv_at I.1 _ (mv_l_at h2)) (k H ls locs cells slots I)
      · exact lv_aload hx hb hdg (lv_at I.1 _ (mv_l_at h2)) (k H ls locs cells slots I)
    · cases h
  · cases h
theorem mr_aload_n (hx : p.tables.exec = Jvm.exec) (hb : c.code = cc) {i : Fin 4} (hdg : decode cc pc = .ok (.aload_n i, 1)) (h : mv_load pc lo st hp cb sb i 1 mv_rfv = some (.inl S)) (k : mv_K base ad dA D cl nL p l e R s m args below meth c Q S) : mv_K base ad dA D cl nL p l e R s m args below meth c Q (pc, lo, st, hp, cb, sb) := by
  intro H ls locs cells slots I
  unfold mv_load at h
  split at h
  · rename_i j v hf
    split at h
    · rename_i hv
      cases h
      obtain ⟨-, h2⟩ := mv_find_at _ _ _ _ hf
      cases v <;> simp [mv_rfv] at hv
      · exact lv_aload_nN hx hb hdg rfl (lv_at I.1 _ (mv_l_at h2)) (k H ls locs cells slots I)
      · exact lv_aload_n hx hb hdg rfl (lv_at I.1 _ (mv_l_at h2)) (k H ls locs cells slots I)
    · cases h
  · cases h
theorem mr_istore (hx : p.tables.exec = Jvm.exec) (hb : c.code = cc) (hn : mv_gL G y = nL) {i : Nat} (hdg : decode cc pc = .ok (.istore i, 2)) (h : mv_store G y pc lo st hp cb sb i 2 mv_int = some (.inl S)) (k : mv_K base ad dA D cl nL p l e R s m args below meth c Q S) : mv_K base ad dA D cl nL p l e R s m args below meth c Q (pc, lo, st, hp, cb, sb) := by
  intro H ls locs cells slots I
  unfold mv_store at h
  split at h
  · rename_i v r
    split at h
    · rename_i hv
      cases h
      cases v <;> simp [mv_int] at hv
      exact lv_istore hx hb hdg I.1 (by omega) rfl (fun ls' hl' => k H ls' locs cells slots (mv_inv_st hl' I))
    · cases h
  · cases h
theorem mr_istore_n (hx : p.tables.exec = Jvm.exec) (hb : c.code = cc) (hn : mv_gL G y = nL) {i : Fin 4} (hdg : decode cc pc = .ok (.istore_n i, 1)) (h : mv_store G y pc lo st hp cb sb i 1 mv_int = some (.inl S)) (k : mv_K base ad dA D cl nL p l e R s m args below meth c Q S) : mv_K base ad dA D cl nL p l e R s m args below meth c Q (pc, lo, st, hp, cb, sb) := by
  intro H ls locs cells slots I
  unfold mv_store at h
  split at h
  · rename_i v r
    split at h
    · rename_i hv
      cases h
      cases v <;> simp [mv_int] at hv
      exact lv_istore_n hx hb hdg rfl I.1 (by omega) rfl (fun ls' hl' => k H ls' locs cells slots (mv_inv_st hl' I))
    · cases h
  · cases h
theorem mr_astore (hx : p.tables.exec = Jvm.exec) (hb : c.code = cc) (hn : mv_gL G y = nL) {i : Nat} (hdg : decode cc pc = .ok (.astore i, 2)) (h : mv_store G y pc lo st hp cb sb i 2 mv_rfv = some (.inl S)) (k : mv_K base ad dA D cl nL p l e R s m args below meth c Q S) : mv_K base ad dA D cl nL p l e R s m args below meth c Q (pc, lo, st, hp, cb, sb) := by
  intro H ls locs cells slots I
  unfold mv_store at h
  split at h
  · rename_i v r
    split at h
    · rename_i hv
      cases h
      cases v <;> simp [mv_rfv] at hv
      · exact lv_astoreN hx hb hdg I.1 (by omega) rfl (fun ls' hl' => k H ls' locs cells slots (mv_inv_st hl' I))
      · exact lv_astore hx hb hdg I.1 (by omega) rfl (fun ls' hl' => k H ls' locs cells slots (mv_inv_st hl' I))
    · cases h
  · cases h
theorem mr_astore_n (hx : p.tables.exec = Jvm.exec) (hb : c.code = cc) (hn : mv_gL G y = nL) {i : Fin 4} (hdg : decode cc pc = .ok (.astore_n i, 1)) (h : mv_store G y pc lo st hp cb sb i 1 mv_rfv = some (.inl S)) (k : mv_K base ad dA D cl nL p l e R s m args below meth c Q S) : mv_K base ad dA D cl nL p l e R s m args below meth c Q (pc, lo, st, hp, cb, sb) := by
  intro H ls locs cells slots I
  unfold mv_store at h
  split at h
  · rename_i v r
    split at h
    · rename_i hv
      cases h
      cases v <;> simp [mv_rfv] at hv
      · exact lv_astore_nN hx hb hdg rfl I.1 (by omega) rfl (fun ls' hl' => k H ls' locs cells slots (mv_inv_st hl' I))
      · exact lv_astore_n hx hb hdg rfl I.1 (by omega) rfl (fun ls' hl' => k H ls' locs cells slots (mv_inv_st hl' I))
    · cases h
  · cases h
theorem mr_inc (hx : p.tables.exec = Jvm.exec) (hb : c.code = cc) (hn : mv_gL G y = nL) {i : Nat} {n : Int} (hdg : decode cc pc = .ok (.iinc i n, 3)) (h : mv_inc G y pc lo st hp cb sb i n 3 = some (.inl S)) (k : mv_K base ad dA D cl nL p l e R s m args below meth c Q S) : mv_K base ad dA D cl nL p l e R s m args below meth c Q (pc, lo, st, hp, cb, sb) := by
  intro H ls locs cells slots I
  unfold mv_inc at h
  split at h
  · rename_i j x hf
    split at h
    · rename_i hv
      cases h
      obtain ⟨-, h2⟩ := mv_find_at _ _ _ _ hf
      exact lv_iinc hx hb hdg I.1 (mv_l_at h2) rfl (by omega) rfl (fun ls' hl' => k H ls' locs cells slots (mv_inv_st hl' I))
    · cases h
  · cases h
theorem mr_incW (hx : p.tables.exec = Jvm.exec) (hb : c.code = cc) (hn : mv_gL G y = nL) {i : Nat} {n : Int} (hdg : decode cc pc = .ok (.iinc i n, 6)) (h : mv_inc G y pc lo st hp cb sb i n 6 = some (.inl S)) (k : mv_K base ad dA D cl nL p l e R s m args below meth c Q S) : mv_K base ad dA D cl nL p l e R s m args below meth c Q (pc, lo, st, hp, cb, sb) := by
  intro H ls locs cells slots I
  unfold mv_inc at h
  split at h
  · rename_i j x hf
    split at h
    · rename_i hv
      cases h
      obtain ⟨-, h2⟩ := mv_find_at _ _ _ _ hf
      exact lv_iincW hx hb hdg I.1 (mv_l_at h2) rfl (by omega) rfl (fun ls' hl' => k H ls' locs cells slots (mv_inv_st hl' I))
    · cases h
  · cases h
end MVR
end
section
/-! rows of the small machine: numbers, the stack, jumps -/
section MVN
variable {base : Nat} {ad dA : Nat → Nat} {D : va_G} {cl : List vw_C} {nL : Nat} {p : Program} {l : Launch} {e : Env} {R : Room} {s : State} {m : MethodId} {args : Array Value} {below : List Frame} {meth : Method} {c : Code} {Q : State → Prop} {cc : ByteArray} {G : mv_G} {y pc : Nat} {lo : List (Nat × Value)} {st : List Value} {hp : List va_E} {cb sb : Nat} {S : mv_S}
theorem mr_iadd (hx : p.tables.exec = Jvm.exec) (hb : c.code = cc) (hdg : decode cc pc = .ok (.iadd, 1)) (h : mv_bin pc lo st hp cb sb mv_f_iadd = some (.inl S)) (k : mv_K base ad dA D cl nL p l e R s m args below meth c Q S) : mv_K base ad dA D cl nL p l e R s m args below meth c Q (pc, lo, st, hp, cb, sb) := by
  intro H ls locs cells slots I
  unfold mv_bin at h
  split at h
  · cases h
    exact lv_iadd hx hb hdg (k H ls locs cells slots I)
  · cases h
theorem mr_isub (hx : p.tables.exec = Jvm.exec) (hb : c.code = cc) (hdg : decode cc pc = .ok (.isub, 1)) (h : mv_bin pc lo st hp cb sb mv_f_isub = some (.inl S)) (k : mv_K base ad dA D cl nL p l e R s m args below meth c Q S) : mv_K base ad dA D cl nL p l e R s m args below meth c Q (pc, lo, st, hp, cb, sb) := by
  intro H ls locs cells slots I
  unfold mv_bin at h
  split at h
  · cases h
    exact lv_isub hx hb hdg (k H ls locs cells slots I)
  · cases h
theorem mr_imul (hx : p.tables.exec = Jvm.exec) (hb : c.code = cc) (hdg : decode cc pc = .ok (.imul, 1)) (h : mv_bin pc lo st hp cb sb mv_f_imul = some (.inl S)) (k : mv_K base ad dA D cl nL p l e R s m args below meth c Q S) : mv_K base ad dA D cl nL p l e R s m args below meth c Q (pc, lo, st, hp, cb, sb) := by
  intro H ls locs cells slots I
  unfold mv_bin at h
  split at h
  · cases h
    exact lv_imul hx hb hdg (k H ls locs cells slots I)
  · cases h
theorem mr_iand (hx : p.tables.exec = Jvm.exec) (hb : c.code = cc) (hdg : decode cc pc = .ok (.iand, 1)) (h : mv_bin pc lo st hp cb sb mv_f_iand = some (.inl S)) (k : mv_K base ad dA D cl nL p l e R s m args below meth c Q S) : mv_K base ad dA D cl nL p l e R s m args below meth c Q (pc, lo, st, hp, cb, sb) := by
  intro H ls locs cells slots I
  unfold mv_bin at h
  split at h
  · cases h
    exact lv_iand hx hb hdg (k H ls locs cells slots I)
  · cases h
theorem mr_ior (hx : p.tables.exec = Jvm.exec) (hb : c.code = cc) (hdg : decode cc pc = .ok (.ior, 1)) (h : mv_bin pc lo st hp cb sb mv_f_ior = some (.inl S)) (k : mv_K base ad dA D cl nL p l e R s m args below meth c Q S) : mv_K base ad dA D cl nL p l e R s m args below meth c Q (pc, lo, st, hp, cb, sb) := by
  intro H ls locs cells slots I
  unfold mv_bin at h
  split at h
  · cases h
    exact lv_ior hx hb hdg (k H ls locs cells slots I)
  · cases h
theorem mr_ixor (hx : p.tables.exec = Jvm.exec) (hb : c.code = cc) (hdg : decode cc pc = .ok (.ixor, 1)) (h : mv_bin pc lo st hp cb sb mv_f_ixor = some (.inl S)) (k : mv_K base ad dA D cl nL p l e R s m args below meth c Q S) : mv_K base ad dA D cl nL p l e R s m args below meth c Q (pc, lo, st, hp, cb, sb) := by
  intro H ls locs cells slots I
  unfold mv_bin at h
  split at h
  · cases h
    exact lv_ixor hx hb hdg (k H ls locs cells slots I)
  · cases h
theorem mr_ishl (hx : p.tables.exec = Jvm.exec) (hb : c.code = cc) (hdg : decode cc pc = .ok (.ishl, 1)) (h : mv_bin pc lo st hp cb sb mv_f_ishl = some (.inl S)) (k : mv_K base ad dA D cl nL p l e R s m args below meth c Q S) : mv_K base ad dA D cl nL p l e R s m args below meth c Q (pc, lo, st, hp, cb, sb) := by
  intro H ls locs cells slots I
  unfold mv_bin at h
  split at h
  · cases h
    exact lv_ishl hx hb hdg (k H ls locs cells slots I)
  · cases h
theorem mr_ishr (hx : p.tables.exec = Jvm.exec) (hb : c.code = cc) (hdg : decode cc pc = .ok (.ishr, 1)) (h : mv_bin pc lo st hp cb sb mv_f_ishr = some (.inl S)) (k : mv_K base ad dA D cl nL p l e R s m args below meth c Q S) : mv_K base ad dA D cl nL p l e R s m args below meth c Q (pc, lo, st, hp, cb, sb) := by
  intro H ls locs cells slots I
  unfold mv_bin at h
  split at h
  · cases h
    exact lv_ishr hx hb hdg (k H ls locs cells slots I)
  · cases h
theorem mr_iushr (hx : p.tables.exec = Jvm.exec) (hb : c.code = cc) (hdg : decode cc pc = .ok (.iushr, 1)) (h : mv_bin pc lo st hp cb sb mv_f_iushr = some (.inl S)) (k : mv_K base ad dA D cl nL p l e R s m args below meth c Q S) : mv_K base ad dA D cl nL p l e R s m args below meth c Q (pc, lo, st, hp, cb, sb) := by
  intro H ls locs cells slots I
  unfold mv_bin at h
  split at h
  · cases h
    exact lv_iushr hx hb hdg rfl (k H ls locs cells slots I)
  · cases h
theorem mr_idiv (hx : p.tables.exec = Jvm.exec) (hb : c.code = cc) (hdg : decode cc pc = .ok (.idiv, 1)) (h : mv_dvd pc lo st hp cb sb mv_f_idiv = some (.inl S)) (k : mv_K base ad dA D cl nL p l e R s m args below meth c Q S) : mv_K base ad dA D cl nL p l e R s m args below meth c Q (pc, lo, st, hp, cb, sb) := by
  intro H ls locs cells slots I
  unfold mv_dvd at h
  split at h
  · split at h
    · cases h
    · rename_i hne
      cases h
      exact lv_idiv hx hb hdg hne (k H ls locs cells slots I)
  · cases h
theorem mr_irem (hx : p.tables.exec = Jvm.exec) (hb : c.code = cc) (hdg : decode cc pc = .ok (.irem, 1)) (h : mv_dvd pc lo st hp cb sb mv_f_irem = some (.inl S)) (k : mv_K base ad dA D cl nL p l e R s m args below meth c Q S) : mv_K base ad dA D cl nL p l e R s m args below meth c Q (pc, lo, st, hp, cb, sb) := by
  intro H ls locs cells slots I
  unfold mv_dvd at h
  split at h
  · split at h
    · cases h
    · rename_i hne
      cases h
      exact lv_irem hx hb hdg hne (k H ls locs cells slots I)
  · cases h
theorem mr_ineg (hx : p.tables.exec = Jvm.exec) (hb : c.code = cc) (hdg : decode cc pc = .ok (.ineg, 1)) (h : mv_un pc lo st hp cb sb mv_f_ineg = some (.inl S)) (k : mv_K base ad dA D cl nL p l e R s m args below meth c Q S) : mv_K base ad dA D cl nL p l e R s m args below meth c Q (pc, lo, st, hp, cb, sb) := by
  intro H ls locs cells slots I
  unfold mv_un at h
  split at h
  · cases h
    exact lv_ineg hx hb hdg (k H ls locs cells slots I)
  · cases h
theorem mr_i2b (hx : p.tables.exec = Jvm.exec) (hb : c.code = cc) (hdg : decode cc pc = .ok (.i2b, 1)) (h : mv_un pc lo st hp cb sb mv_f_i2b = some (.inl S)) (k : mv_K base ad dA D cl nL p l e R s m args below meth c Q S) : mv_K base ad dA D cl nL p l e R s m args below meth c Q (pc, lo, st, hp, cb, sb) := by
  intro H ls locs cells slots I
  unfold mv_un at h
  split at h
  · cases h
    exact lv_i2b hx hb hdg rfl (k H ls locs cells slots I)
  · cases h
theorem mr_i2c (hx : p.tables.exec = Jvm.exec) (hb : c.code = cc) (hdg : decode cc pc = .ok (.i2c, 1)) (h : mv_un pc lo st hp cb sb mv_f_i2c = some (.inl S)) (k : mv_K base ad dA D cl nL p l e R s m args below meth c Q S) : mv_K base ad dA D cl nL p l e R s m args below meth c Q (pc, lo, st, hp, cb, sb) := by
  intro H ls locs cells slots I
  unfold mv_un at h
  split at h
  · cases h
    exact lv_i2c hx hb hdg rfl (k H ls locs cells slots I)
  · cases h
theorem mr_iconst (hx : p.tables.exec = Jvm.exec) (hb : c.code = cc) {n : Int} (hdg : decode cc pc = .ok (.iconst n, 1)) (h : mv_push pc lo st hp cb sb 1 (.int (Int32.ofInt n)) = some (.inl S)) (k : mv_K base ad dA D cl nL p l e R s m args below meth c Q S) : mv_K base ad dA D cl nL p l e R s m args below meth c Q (pc, lo, st, hp, cb, sb) := by
  intro H ls locs cells slots I
  cases h
  exact lv_iconst hx hb hdg rfl (k H ls locs cells slots I)
theorem mr_bipush (hx : p.tables.exec = Jvm.exec) (hb : c.code = cc) {n : Int} (hdg : decode cc pc = .ok (.bipush n, 2)) (h : mv_push pc lo st hp cb sb 2 (.int ((Int8.ofInt n).toInt32)) = some (.inl S)) (k : mv_K base ad dA D cl nL p l e R s m args below meth c Q S) : mv_K base ad dA D cl nL p l e R s m args below meth c Q (pc, lo, st, hp, cb, sb) := by
  intro H ls locs cells slots I
  cases h
  exact lv_bipush hx hb hdg rfl (k H ls locs cells slots I)
theorem mr_sipush (hx : p.tables.exec = Jvm.exec) (hb : c.code = cc) {n : Int} (hdg : decode cc pc = .ok (.sipush n, 3)) (h : mv_push pc lo st hp cb sb 3 (.int ((Int16.ofInt n).toInt32)) = some (.inl S)) (k : mv_K base ad dA D cl nL p l e R s m args below meth c Q S) : mv_K base ad dA D cl nL p l e R s m args below meth c Q (pc, lo, st, hp, cb, sb) := by
  intro H ls locs cells slots I
  cases h
  exact lv_sipush hx hb hdg rfl (k H ls locs cells slots I)
theorem mr_null (hx : p.tables.exec = Jvm.exec) (hb : c.code = cc) (hdg : decode cc pc = .ok (.aconst_null, 1)) (h : mv_push pc lo st hp cb sb 1 .null = some (.inl S)) (k : mv_K base ad dA D cl nL p l e R s m args below meth c Q S) : mv_K base ad dA D cl nL p l e R s m args below meth c Q (pc, lo, st, hp, cb, sb) := by
  intro H ls locs cells slots I
  cases h
  exact lv_null hx hb hdg (k H ls locs cells slots I)
theorem mr_dup (hx : p.tables.exec = Jvm.exec) (hb : c.code = cc) (hdg : decode cc pc = .ok (.dup, 1)) (h : mv_dup pc lo st hp cb sb = some (.inl S)) (k : mv_K base ad dA D cl nL p l e R s m args below meth c Q S) : mv_K base ad dA D cl nL p l e R s m args below meth c Q (pc, lo, st, hp, cb, sb) := by
  intro H ls locs cells slots I
  unfold mv_dup at h
  split at h
  · split at h
    · rename_i hv
      cases h
      exact lv_dup hx hb hdg (by rw [mv_v_cat]; exact hv) (k H ls locs cells slots I)
    · cases h
  · cases h
theorem mr_pop (hx : p.tables.exec = Jvm.exec) (hb : c.code = cc) (hdg : decode cc pc = .ok (.pop, 1)) (h : mv_pop pc lo st hp cb sb = some (.inl S)) (k : mv_K base ad dA D cl nL p l e R s m args below meth c Q S) : mv_K base ad dA D cl nL p l e R s m args below meth c Q (pc, lo, st, hp, cb, sb) := by
  intro H ls locs cells slots I
  unfold mv_pop at h
  split at h
  · split at h
    · rename_i hv
      cases h
      exact lv_pop hx hb hdg (by rw [mv_v_cat]; exact hv) (k H ls locs cells slots I)
    · cases h
  · cases h
theorem mr_dup_x1 (hx : p.tables.exec = Jvm.exec) (hb : c.code = cc) (hdg : decode cc pc = .ok (.dup_x1, 1)) (h : mv_dupx pc lo st hp cb sb = some (.inl S)) (k : mv_K base ad dA D cl nL p l e R s m args below meth c Q S) : mv_K base ad dA D cl nL p l e R s m args below meth c Q (pc, lo, st, hp, cb, sb) := by
  intro H ls locs cells slots I
  unfold mv_dupx at h
  split at h
  · split at h
    · rename_i hv
      cases h
      exact lv_dup_x1 hx hb hdg (by rw [mv_v_cat]; exact hv.1) (by rw [mv_v_cat]; exact hv.2) (k H ls locs cells slots I)
    · cases h
  · cases h
theorem mr_dup2 (hx : p.tables.exec = Jvm.exec) (hb : c.code = cc) (hdg : decode cc pc = .ok (.dup2, 1)) (h : mv_dup2 pc lo st hp cb sb = some (.inl S)) (k : mv_K base ad dA D cl nL p l e R s m args below meth c Q S) : mv_K base ad dA D cl nL p l e R s m args below meth c Q (pc, lo, st, hp, cb, sb) := by
  intro H ls locs cells slots I
  unfold mv_dup2 at h
  split at h
  · split at h
    · rename_i hv
      cases h
      exact lv_dup2_11 hx hb hdg (by rw [mv_v_cat]; exact hv.1) (by rw [mv_v_cat]; exact hv.2) (k H ls locs cells slots I)
    · cases h
  · cases h
theorem mv_jump_s {off : Int} {r : List Value} {b : Bool} (h : mv_jump pc lo hp cb sb off b r = some (.inl S)) : ∃ t : Nat, (pc : Int) + off = (t : Int) ∧ (b = true → S = (t, lo, r, hp, cb, sb)) ∧ (b = false → S = (pc + 3, lo, r, hp, cb, sb)) := by
  unfold mv_jump at h
  split at h
  · rename_i t ht
    cases h
    exact ⟨t, mv_tgt_eq ht, fun e => by rw [e]; rfl, fun e => by rw [e]; rfl⟩
  · cases h
theorem mr_goto (hx : p.tables.exec = Jvm.exec) (hb : c.code = cc) {off : Int} (hdg : decode cc pc = .ok (.goto off, 3)) (h : mv_jump pc lo hp cb sb off true st = some (.inl S)) (k : mv_K base ad dA D cl nL p l e R s m args below meth c Q S) : mv_K base ad dA D cl nL p l e R s m args below meth c Q (pc, lo, st, hp, cb, sb) := by
  intro H ls locs cells slots I
  obtain ⟨t, ht, h1, -⟩ := mv_jump_s h
  obtain rfl := h1 rfl
  exact lv_goto hx hb hdg ht (k H ls locs cells slots I)
theorem mr_if_eq (hx : p.tables.exec = Jvm.exec) (hb : c.code = cc) {off : Int} (hdg : decode cc pc = .ok (.ifCond .eq off, 3)) (h : mv_if pc lo st hp cb sb .eq off = some (.inl S)) (k : mv_K base ad dA D cl nL p l e R s m args below meth c Q S) : mv_K base ad dA D cl nL p l e R s m args below meth c Q (pc, lo, st, hp, cb, sb) := by
  intro H ls locs cells slots I
  unfold mv_if at h
  split at h
  · rename_i a r
    obtain ⟨t, ht, h1, h2⟩ := mv_jump_s h
    exact lv_if_eq hx hb hdg ht (fun hP => by obtain rfl := h1 (by simp [mv_cond, hP]); exact k H ls locs cells slots I) (fun hP => by obtain rfl := h2 (by simp [mv_cond, hP]); exact k H ls locs cells slots I)
  · cases h
theorem mr_icmp_eq (hx : p.tables.exec = Jvm.exec) (hb : c.code = cc) {off : Int} (hdg : decode cc pc = .ok (.if_icmp .eq off, 3)) (h : mv_icmp pc lo st hp cb sb .eq off = some (.inl S)) (k : mv_K base ad dA D cl nL p l e R s m args below meth c Q S) : mv_K base ad dA D cl nL p l e R s m args below meth c Q (pc, lo, st, hp, cb, sb) := by
  intro H ls locs cells slots I
  unfold mv_icmp at h
  split at h
  · rename_i b a r
    obtain ⟨t, ht, h1, h2⟩ := mv_jump_s h
    exact lv_icmp_eq hx hb hdg ht (fun hP => by obtain rfl := h1 (by simp [mv_cond, hP]); exact k H ls locs cells slots I) (fun hP => by obtain rfl := h2 (by simp [mv_cond, hP]); exact k H ls locs cells slots I)
  · cases h
theorem mr_if_ne (hx : p.tables.exec = Jvm.exec) (hb : c.code = cc) {off : Int} (hdg : decode cc pc = .ok (.ifCond .ne off, 3)) (h : mv_if pc lo st hp cb sb .ne off = some (.inl S)) (k : mv_K base ad dA D cl nL p l e R s m args below meth c Q S) : mv_K base ad dA D cl nL p l e R s m args below meth c Q (pc, lo, st, hp, cb, sb) := by
  intro H ls locs cells slots I
  unfold mv_if at h
  split at h
  · rename_i a r
    obtain ⟨t, ht, h1, h2⟩ := mv_jump_s h
    exact lv_if_ne hx hb hdg ht (fun hP => by obtain rfl := h1 (by simp [mv_cond, hP]); exact k H ls locs cells slots I) (fun hP => by obtain rfl := h2 (by simp [mv_cond, hP]); exact k H ls locs cells slots I)
  · cases h
theorem mr_icmp_ne (hx : p.tables.exec = Jvm.exec) (hb : c.code = cc) {off : Int} (hdg : decode cc pc = .ok (.if_icmp .ne off, 3)) (h : mv_icmp pc lo st hp cb sb .ne off = some (.inl S)) (k : mv_K base ad dA D cl nL p l e R s m args below meth c Q S) : mv_K base ad dA D cl nL p l e R s m args below meth c Q (pc, lo, st, hp, cb, sb) := by
  intro H ls locs cells slots I
  unfold mv_icmp at h
  split at h
  · rename_i b a r
    obtain ⟨t, ht, h1, h2⟩ := mv_jump_s h
    exact lv_icmp_ne hx hb hdg ht (fun hP => by obtain rfl := h1 (by simp [mv_cond, hP]); exact k H ls locs cells slots I) (fun hP => by obtain rfl := h2 (by simp [mv_cond, hP]); exact k H ls locs cells slots I)
  · cases h
theorem mr_if_lt (hx : p.tables.exec = Jvm.exec) (hb : c.code = cc) {off : Int} (hdg : decode cc pc = .ok (.ifCond .lt off, 3)) (h : mv_if pc lo st hp cb sb .lt off = some (.inl S)) (k : mv_K base ad dA D cl nL p l e R s m args below meth c Q S) : mv_K base ad dA D cl nL p l e R s m args below meth c Q (pc, lo, st, hp, cb, sb) := by
  intro H ls locs cells slots I
  unfold mv_if at h
  split at h
  · rename_i a r
    obtain ⟨t, ht, h1, h2⟩ := mv_jump_s h
    exact lv_if_lt hx hb hdg ht (fun hP => by obtain rfl := h1 (by simp [mv_cond, hP]); exact k H ls locs cells slots I) (fun hP => by obtain rfl := h2 (by simp [mv_cond, hP]); exact k H ls locs cells slots I)
  · cases h
theorem mr_icmp_lt (hx : p.tables.exec = Jvm.exec) (hb : c.code = cc) {off : Int} (hdg : decode cc pc = .ok (.if_icmp .lt off, 3)) (h : mv_icmp pc lo st hp cb sb .lt off = some (.inl S)) (k : mv_K base ad dA D cl nL p l e R s m args below meth c Q S) : mv_K base ad dA D cl nL p l e R s m args below meth c Q (pc, lo, st, hp, cb, sb) := by
  intro H ls locs cells slots I
  unfold mv_icmp at h
  split at h
  · rename_i b a r
    obtain ⟨t, ht, h1, h2⟩ := mv_jump_s h
    exact lv_icmp_lt hx hb hdg ht (fun hP => by obtain rfl := h1 (by simp [mv_cond, hP]); exact k H ls locs cells slots I) (fun hP => by obtain rfl := h2 (by simp [mv_cond, hP]); exact k H ls locs cells slots I)
  · cases h
theorem mr_if_ge (hx : p.tables.exec = Jvm.exec) (hb : c.code = cc) {off : Int} (hdg : decode cc pc = .ok (.ifCond .ge off, 3)) (h : mv_if pc lo st hp cb sb .ge off = some (.inl S)) (k : mv_K base ad dA D cl nL p l e R s m args below meth c Q S) : mv_K base ad dA D cl nL p l e R s m args below meth c Q (pc, lo, st, hp, cb, sb) := by
  intro H ls locs cells slots I
  unfold mv_if at h
  split at h
  · rename_i a r
    obtain ⟨t, ht, h1, h2⟩ := mv_jump_s h
    exact lv_if_ge hx hb hdg ht (fun hP => by obtain rfl := h1 (by simp [mv_cond, hP]); exact k H ls locs cells slots I) (fun hP => by obtain rfl := h2 (by simp [mv_cond, hP]); exact k H ls locs cells slots I)
  · cases h
theorem mr_icmp_ge (hx : p.tables.exec = Jvm.exec) (hb : c.code = cc) {off : Int} (hdg : decode cc pc = .ok (.if_icmp .ge off, 3)) (h : mv_icmp pc lo st hp cb sb .ge off = some (.inl S)) (k : mv_K base ad dA D cl nL p l e R s m args below meth c Q S) : mv_K base ad dA D cl nL p l e R s m args below meth c Q (pc, lo, st, hp, cb, sb) := by
  intro H ls locs cells slots I
  unfold mv_icmp at h
  split at h
  · rename_i b a r
    obtain ⟨t, ht, h1, h2⟩ := mv_jump_s h
    exact lv_icmp_ge hx hb hdg ht (fun hP => by obtain rfl := h1 (by simp [mv_cond, hP]); exact k H ls locs cells slots I) (fun hP => by obtain rfl := h2 (by simp [mv_cond, hP]); exact k H ls locs cells slots I)
  · cases h
theorem mr_if_gt (hx : p.tables.exec = Jvm.exec) (hb : c.code = cc) {off : Int} (hdg : decode cc pc = .ok (.ifCond .gt off, 3)) (h : mv_if pc lo st hp cb sb .gt off = some (.inl S)) (k : mv_K base ad dA D cl nL p l e R s m args below meth c Q S) : mv_K base ad dA D cl nL p l e R s m args below meth c Q (pc, lo, st, hp, cb, sb) := by
  intro H ls locs cells slots I
  unfold mv_if at h
  split at h
  · rename_i a r
    obtain ⟨t, ht, h1, h2⟩ := mv_jump_s h
    exact lv_if_gt hx hb hdg ht (fun hP => by obtain rfl := h1 (by simp [mv_cond, hP]); exact k H ls locs cells slots I) (fun hP => by obtain rfl := h2 (by simp [mv_cond, hP]); exact k H ls locs cells slots I)
  · cases h
theorem mr_icmp_gt (hx : p.tables.exec = Jvm.exec) (hb : c.code = cc) {off : Int} (hdg : decode cc pc = .ok (.if_icmp .gt off, 3)) (h : mv_icmp pc lo st hp cb sb .gt off = some (.inl S)) (k : mv_K base ad dA D cl nL p l e R s m args below meth c Q S) : mv_K base ad dA D cl nL p l e R s m args below meth c Q (pc, lo, st, hp, cb, sb) := by
  intro H ls locs cells slots I
  unfold mv_icmp at h
  split at h
  · rename_i b a r
    obtain ⟨t, ht, h1, h2⟩ := mv_jump_s h
    exact lv_icmp_gt hx hb hdg ht (fun hP => by obtain rfl := h1 (by simp [mv_cond, hP]); exact k H ls locs cells slots I) (fun hP => by obtain rfl := h2 (by simp [mv_cond, hP]); exact k H ls locs cells slots I)
  · cases h
theorem mr_if_le (hx : p.tables.exec = Jvm.exec) (hb : c.code = cc) {off : Int} (hdg : decode cc pc = .ok (.ifCond .le off, 3)) (h : mv_if pc lo st hp cb sb .le off = some (.inl S)) (k : mv_K base ad dA D cl nL p l e R s m args below meth c Q S) : mv_K base ad dA D cl nL p l e R s m args below meth c Q (pc, lo, st, hp, cb, sb) := by
  intro H ls locs cells slots I
  unfold mv_if at h
  split at h
  · rename_i a r
    obtain ⟨t, ht, h1, h2⟩ := mv_jump_s h
    exact lv_if_le hx hb hdg ht (fun hP => by obtain rfl := h1 (by simp [mv_cond, hP]); exact k H ls locs cells slots I) (fun hP => by obtain rfl := h2 (by simp [mv_cond, hP]); exact k H ls locs cells slots I)
  · cases h
theorem mr_icmp_le (hx : p.tables.exec = Jvm.exec) (hb : c.code = cc) {off : Int} (hdg : decode cc pc = .ok (.if_icmp .le off, 3)) (h : mv_icmp pc lo st hp cb sb .le off = some (.inl S)) (k : mv_K base ad dA D cl nL p l e R s m args below meth c Q S) : mv_K base ad dA D cl nL p l e R s m args below meth c Q (pc, lo, st, hp, cb, sb) := by
  intro H ls locs cells slots I
  unfold mv_icmp at h
  split at h
  · rename_i b a r
    obtain ⟨t, ht, h1, h2⟩ := mv_jump_s h
    exact lv_icmp_le hx hb hdg ht (fun hP => by obtain rfl := h1 (by simp [mv_cond, hP]); exact k H ls locs cells slots I) (fun hP => by obtain rfl := h2 (by simp [mv_cond, hP]); exact k H ls locs cells slots I)
  · cases h
theorem mv_ptr_rf {v : Value} {o : Option Nat} (h : mv_ptr v = some o) : mv_v ad v = va_rf (o.map ad) ∧ ∀ a, o = some a → a < mv_big := by
  unfold mv_ptr at h
  split at h
  · cases h
    exact ⟨rfl, fun a q => by cases q⟩
  · split at h
    · rename_i hlt
      cases h
      exact ⟨rfl, fun a q => by cases q; exact hlt⟩
    · cases h
  · cases h
theorem mv_ptr_eq {x z : Option Nat} (hi : ∀ i j, i < mv_big → j < mv_big → ad i = ad j → i = j) (h1 : ∀ a, x = some a → a < mv_big) (h2 : ∀ a, z = some a → a < mv_big) : x.map ad = z.map ad ↔ x = z := by
  constructor
  · intro q
    cases x with
    | none => cases z with
      | none => rfl
      | some b => cases q
    | some a => cases z with
      | none => cases q
      | some b =>
        have := hi a b (h1 a rfl) (h2 b rfl) (Option.some.inj q)
        rw [this]
  · intro q
    rw [q]
theorem mr_acmp_eq (hx : p.tables.exec = Jvm.exec) (hb : c.code = cc) (hi : ∀ i j, i < mv_big → j < mv_big → ad i = ad j → i = j) {off : Int} (hdg : decode cc pc = .ok (.if_acmp .eq off, 3)) (h : mv_acmp pc lo st hp cb sb .eq off = some (.inl S)) (k : mv_K base ad dA D cl nL p l e R s m args below meth c Q S) : mv_K base ad dA D cl nL p l e R s m args below meth c Q (pc, lo, st, hp, cb, sb) := by
  intro H ls locs cells slots I
  unfold mv_acmp at h
  split at h
  · rename_i b a r
    split at h
    · rename_i x z e1 e2
      obtain ⟨t, ht, h1, h2⟩ := mv_jump_s h
      obtain ⟨f1, g1⟩ := mv_ptr_rf (ad := ad) e1
      obtain ⟨f2, g2⟩ := mv_ptr_rf (ad := ad) e2
      have hq := mv_ptr_eq hi g1 g2
      show W p l e R s m args below meth c H locs cells slots Q (F0 m pc ls (mv_v ad b :: mv_v ad a :: r.map (mv_v ad)))
      rw [f1, f2]
      exact lv_acmp_eq hx hb hdg ht (fun hP => by rw [hq] at hP; obtain rfl := h1 (by simp [hP]); exact k H ls locs cells slots I) (fun hP => by rw [hq] at hP; obtain rfl := h2 (by simp [hP]); exact k H ls locs cells slots I)
    · cases h
  · cases h
theorem mr_acmp_ne (hx : p.tables.exec = Jvm.exec) (hb : c.code = cc) (hi : ∀ i j, i < mv_big → j < mv_big → ad i = ad j → i = j) {off : Int} (hdg : decode cc pc = .ok (.if_acmp .ne off, 3)) (h : mv_acmp pc lo st hp cb sb .ne off = some (.inl S)) (k : mv_K base ad dA D cl nL p l e R s m args below meth c Q S) : mv_K base ad dA D cl nL p l e R s m args below meth c Q (pc, lo, st, hp, cb, sb) := by
  intro H ls locs cells slots I
  unfold mv_acmp at h
  split at h
  · rename_i b a r
    split at h
    · rename_i x z e1 e2
      obtain ⟨t, ht, h1, h2⟩ := mv_jump_s h
      obtain ⟨f1, g1⟩ := mv_ptr_rf (ad := ad) e1
      obtain ⟨f2, g2⟩ := mv_ptr_rf (ad := ad) e2
      have hq := mv_ptr_eq hi g1 g2
      show W p l e R s m args below meth c H locs cells slots Q (F0 m pc ls (mv_v ad b :: mv_v ad a :: r.map (mv_v ad)))
      rw [f1, f2]
      exact lv_acmp_ne hx hb hdg ht (fun hP => by rw [hq] at hP; obtain rfl := h1 (by simp [hP]); exact k H ls locs cells slots I) (fun hP => by rw [hq] at hP; obtain rfl := h2 (by simp [hP]); exact k H ls locs cells slots I)
    · cases h
  · cases h
theorem mr_ifnull (hx : p.tables.exec = Jvm.exec) (hb : c.code = cc) {off : Int} (hdg : decode cc pc = .ok (.ifnull off, 3)) (h : mv_ifn pc lo st hp cb sb true off = some (.inl S)) (k : mv_K base ad dA D cl nL p l e R s m args below meth c Q S) : mv_K base ad dA D cl nL p l e R s m args below meth c Q (pc, lo, st, hp, cb, sb) := by
  intro H ls locs cells slots I
  unfold mv_ifn at h
  split at h
  · obtain ⟨t, ht, h1, -⟩ := mv_jump_s h
    obtain rfl := h1 rfl
    exact lv_ifnullN hx hb hdg ht (k H ls locs cells slots I)
  · obtain ⟨t, ht, -, h2⟩ := mv_jump_s h
    obtain rfl := h2 rfl
    exact lv_ifnull hx hb hdg (k H ls locs cells slots I)
  · cases h
theorem mr_ifnonnull (hx : p.tables.exec = Jvm.exec) (hb : c.code = cc) {off : Int} (hdg : decode cc pc = .ok (.ifnonnull off, 3)) (h : mv_ifn pc lo st hp cb sb false off = some (.inl S)) (k : mv_K base ad dA D cl nL p l e R s m args below meth c Q S) : mv_K base ad dA D cl nL p l e R s m args below meth c Q (pc, lo, st, hp, cb, sb) := by
  intro H ls locs cells slots I
  unfold mv_ifn at h
  split at h
  · obtain ⟨t, ht, -, h2⟩ := mv_jump_s h
    obtain rfl := h2 rfl
    exact lv_ifnonnullN hx hb hdg (k H ls locs cells slots I)
  · obtain ⟨t, ht, h1, -⟩ := mv_jump_s h
    obtain rfl := h1 rfl
    exact lv_ifnonnull hx hb hdg ht (k H ls locs cells slots I)
  · cases h
theorem mr_tsw (hx : p.tables.exec = Jvm.exec) (hb : c.code = cc) {d lw hg : Int} {offs : Array Int} {len : Nat} (hdg : decode cc pc = .ok (.tableswitch d lw hg offs, len)) (h : mv_tsw pc lo st hp cb sb d lw hg offs = some (.inl S)) (k : mv_K base ad dA D cl nL p l e R s m args below meth c Q S) : mv_K base ad dA D cl nL p l e R s m args below meth c Q (pc, lo, st, hp, cb, sb) := by
  intro H ls locs cells slots I
  unfold mv_tsw at h
  split at h
  · rename_i x r
    split at h
    · rename_i hq
      split at h
      · rename_i t ht
        cases h
        exact lv_tableOut hx hb hdg hq (mv_tgt_eq ht) (k H ls locs cells slots I)
      · cases h
    · rename_i hq
      split at h
      · rename_i off ho
        split at h
        · rename_i t ht
          cases h
          exact lv_tableIn hx hb hdg (fun q => hq (Or.inl q)) (fun q => hq (Or.inr q)) ho (mv_tgt_eq ht) (k H ls locs cells slots I)
        · cases h
      · cases h
  · cases h
theorem mr_lsw (hx : p.tables.exec = Jvm.exec) (hb : c.code = cc) {d : Int} {ps : Array (Int × Int)} {len : Nat} (hdg : decode cc pc = .ok (.lookupswitch d ps, len)) (h : mv_lsw pc lo st hp cb sb d ps = some (.inl S)) (k : mv_K base ad dA D cl nL p l e R s m args below meth c Q S) : mv_K base ad dA D cl nL p l e R s m args below meth c Q (pc, lo, st, hp, cb, sb) := by
  intro H ls locs cells slots I
  unfold mv_lsw at h
  split at h
  · rename_i x r
    split at h
    · rename_i hq
      split at h
      · rename_i t ht
        cases h
        exact lv_lookup hx hb hdg hq rfl (mv_tgt_eq ht) (k H ls locs cells slots I)
      · cases h
    · cases h
  · cases h
end MVN
end
section
/-! the small machine: fields and arrays -/
section
variable (G : mv_G) (y pc : Nat) (l : List (Nat × Value)) (st : List Value) (hp : List va_E) (cb sb : Nat)
def mv_get (idx : Nat) : Option mv_R := match st with
  | .ref a :: r => match hp[a]?, mv_gF G y idx with
    | some (.inr (ci, fs)), some (cj, k) => if ci = cj then match fs[k]? with
        | some v => some (.inl (pc + 3, l, v :: r, hp, cb, sb))
        | none => none
      else none
    | _, _ => none
  | _ => none
def mv_put (idx : Nat) : Option mv_R := match st with
  | v :: .ref a :: r => match hp[a]?, mv_gF G y idx with
    | some (.inr (ci, fs)), some (cj, k) => match mv_gT G cj k with
      | some ty => if ci = cj ∧ narrow ty v = v ∧ fits ty v = true ∧ k < fs.length ∧ (mv_gP G cj k = true → mv_gQ G y cj = true) then some (.inl (pc + 3, l, r, hp.set a (.inr (ci, fs.set k v)), cb, sb)) else none
      | none => none
    | _, _ => none
  | _ => none
def mv_new (idx : Nat) : Option mv_R := match mv_gN G y idx with
  | some ci => if 1 ≤ cb ∧ mv_gZ G ci ≤ sb then some (.inl (pc + 3, l, .ref hp.length :: st, hp ++ [.inr (ci, mv_gD G ci)], cb - 1, sb - mv_gZ G ci)) else none
  | none => none
def mv_prim : ArrayType → Option Nat
  | .int => some 0
  | .byte => some 1
  | .boolean => some 2
  | _ => none
def mv_newa (at_ : ArrayType) : Option mv_R := match st with
  | .int n :: r => match mv_prim at_ with
    | some t => if ¬ n < 0 ∧ n.toNatClampNeg ≤ 134217728 ∧ 1 ≤ cb ∧ n.toNatClampNeg ≤ sb then some (.inl (pc + 2, l, .ref hp.length :: r, hp ++ [.inl (t, n.toNatClampNeg, .inl (fun _ => 0))], cb - 1, sb - n.toNatClampNeg)) else none
    | none => none
  | _ => none
def mv_anew (idx : Nat) : Option mv_R := match st with
  | .int n :: r => match mv_gA G y idx with
    | some t => if ¬ n < 0 ∧ n.toNatClampNeg ≤ 134217728 ∧ 1 ≤ cb ∧ n.toNatClampNeg ≤ sb then some (.inl (pc + 3, l, .ref hp.length :: r, hp ++ [.inl (t, n.toNatClampNeg, .inr (.inr (.inr (.inr (fun _ => none)))))], cb - 1, sb - n.toNatClampNeg)) else none
    | none => none
  | _ => none
def mv_out (i : Int32) (n : Nat) : Bool := decide (i < 0 ∨ n ≤ i.toNatClampNeg)
def mv_iald : Option mv_R := match st with
  | .int i :: .ref a :: r => match hp[a]? with
    | some (.inl (0, n, .inl f)) => if mv_out i n = true then none else some (.inl (pc + 1, l, .int (f i.toNatClampNeg) :: r, hp, cb, sb))
    | _ => none
  | _ => none
def mv_bald : Option mv_R := match st with
  | .int i :: .ref a :: r => match hp[a]? with
    | some (.inl (t, n, .inl f)) => if (t = 1 ∨ t = 2) ∧ mv_out i n = false then some (.inl (pc + 1, l, .int (f i.toNatClampNeg) :: r, hp, cb, sb)) else none
    | _ => none
  | _ => none
def mv_aald : Option mv_R := match st with
  | .int i :: .ref a :: r => match hp[a]? with
    | some (.inl (t, n, .inr (.inr (.inr (.inr g))))) => match mv_gY G t with
      | some ty => if ty.isReference = true ∧ mv_out i n = false then some (.inl (pc + 1, l, va_rf (g i.toNatClampNeg) :: r, hp, cb, sb)) else none
      | none => none
    | _ => none
  | _ => none
def mv_iast : Option mv_R := match st with
  | .int x :: .int i :: .ref a :: r => match hp[a]? with
    | some (.inl (0, n, .inl f)) => if mv_out i n = true then none else some (.inl (pc + 1, l, r, hp.set a (.inl (0, n, .inl (upd f i.toNatClampNeg x))), cb, sb))
    | _ => none
  | _ => none
def mv_bast : Option mv_R := match st with
  | .int x :: .int i :: .ref a :: r => match hp[a]? with
    | some (.inl (t, n, .inl f)) => if mv_out i n = false then
        if t = 1 then some (.inl (pc + 1, l, r, hp.set a (.inl (t, n, .inl (upd f i.toNatClampNeg (vp_nar .byte x)))), cb, sb))
        else if t = 2 then some (.inl (pc + 1, l, r, hp.set a (.inl (t, n, .inl (upd f i.toNatClampNeg (vp_nar .boolean x)))), cb, sb)) else none
      else none
    | _ => none
  | _ => none
def mv_alen : Option mv_R := match st with
  | .ref a :: r => match hp[a]? with
    | some (.inl (t, n, _)) => match mv_gY G t with
      | some _ => some (.inl (pc + 1, l, .int (Int32.ofNat n) :: r, hp, cb, sb))
      | none => none
    | _ => none
  | _ => none
end
/-! rows of it -/
def mv_tys (dA : Nat → Nat) (L : List FieldType) : List (ClassId × FieldType) := (List.range L.length).filterMap (fun t => (L[t]?).map (fun ty => (dA t, ty)))
theorem mv_tys_mem {dA : Nat → Nat} {L : List FieldType} {t : Nat} {ty : FieldType} (h : L[t]? = some ty) : ∃ k : Nat, (mv_tys dA L)[k]? = some (dA t, ty) := by
  have : (dA t, ty) ∈ mv_tys dA L := List.mem_filterMap.mpr ⟨t, List.mem_range.mpr (List.getElem?_eq_some_iff.mp h).1, by rw [h]; rfl⟩
  exact List.mem_iff_getElem?.mp this
theorem mv_D {base : Nat} {kt dA : Nat → Nat} {hp : List va_E} (h : hp.length ≤ mv_big) : va_D (fun q => base ≤ q) (mv_w (mv_ad base kt) dA 0 hp) := by
  have key : ∀ (i : Nat) (q : Nat × va_E), (mv_w (mv_ad base kt) dA 0 hp)[i]? = some q → q.1 = base + i := by
    intro i q hq
    obtain ⟨e, he, rfl⟩ := mv_w_of hq
    have hi : i < hp.length := (List.getElem?_eq_some_iff.mp he).1
    show mv_ad base kt (0 + i) = base + i
    rw [Nat.zero_add, mv_ad, if_pos (by omega)]
  refine ⟨fun i j a b hi hj hab => ?_, fun k q hk => ?_⟩
  · have h1 := key i a hi
    have h2 := key j b hj
    omega
  · have h1 := key k q hk
    show base ≤ q.1
    omega
section MVH
variable {base : Nat} {kt dA : Nat → Nat} {D : va_G} {cl : List vw_C} {nL : Nat} {p : Program} {l : Launch} {e : Env} {R : Room} {s : State} {m : MethodId} {args : Array Value} {below : List Frame} {meth : Method} {c : Code} {Q : State → Prop} {cc : ByteArray} {G : mv_G} {y pc : Nat} {lo : List (Nat × Value)} {st : List Value} {hp : List va_E} {cb sb : Nat} {S : mv_S}
theorem mv_inv_at {H : Heap} {ls : Array Slot} {locs : List Loc} {cells slots : Nat} (I : mv_inv base (mv_ad base kt) dA D cl nL R s (pc, lo, st, hp, cb, sb) H ls locs cells slots) {a : Nat} {e0 : va_E} (h : hp[a]? = some e0) : va_at D cl (mv_ad base kt a, mv_e (mv_ad base kt) dA e0) H ∧ mv_ad base kt a = base + a ∧ a < hp.length := by
  have h1 := I.2.1 a _ (mv_w_at (ad := mv_ad base kt) (dA := dA) hp 0 a e0 h)
  rw [Nat.zero_add] at h1
  have hl : a < hp.length := (List.getElem?_eq_some_iff.mp h).1
  have h7 : hp.length + cb ≤ mv_big := I.2.2.2.2.2.2
  refine ⟨h1, ?_, hl⟩
  rw [mv_ad, if_pos (by omega)]
theorem mv_inv_put {H H1 : Heap} {ls : Array Slot} {locs : List Loc} {cells slots pc' : Nat} {st' : List Value} (I : mv_inv base (mv_ad base kt) dA D cl nL R s (pc, lo, st, hp, cb, sb) H ls locs cells slots) {a k : Nat} {e0 e1 : va_E} (h : hp[a]? = some e0)
    (he : va_at D cl (mv_ad base kt a, mv_e (mv_ad base kt) dA e1) H1) (z : H1.size = H.size) (oq : ∀ q : Nat, q ≠ mv_ad base kt a → H1[q]? = H[q]?) : mv_inv base (mv_ad base kt) dA D cl nL R s (pc', lo, st', hp.set a e1, cb, sb) H1 ls (locs ++ [⟨mv_ad base kt a, k⟩]) cells slots := by
  obtain ⟨-, ha, hal⟩ := mv_inv_at I h
  obtain ⟨i1, i2, i3, i4, i5, i6, i7⟩ := I
  dsimp only at i1 i2 i3 i4 i5 i6 i7
  have hD := mv_D (base := base) (kt := kt) (dA := dA) (hp := hp) (by omega)
  have hw := mv_w_at (ad := mv_ad base kt) (dA := dA) hp 0 a e0 h
  refine ⟨i1, ?_, ?_, ?_, i5, i6, ?_⟩
  · show va_P D cl (mv_w (mv_ad base kt) dA 0 (hp.set a e1)) H1
    rw [← mv_w_set]
    rw [Nat.zero_add] at hw ⊢
    exact i2.set hD hw he oq
  · show H1.size = base + (hp.set a e1).length
    rw [List.length_set, z, i3]
  · exact i4.put z oq (by show base ≤ _; rw [ha]; omega)
  · show (hp.set a e1).length + cb ≤ mv_big
    rw [List.length_set]
    exact i7
theorem mv_inv_new {H H1 : Heap} {ls : Array Slot} {locs : List Loc} {cells slots pc' n : Nat} {st' : List Value} (I : mv_inv base (mv_ad base kt) dA D cl nL R s (pc, lo, st, hp, cb, sb) H ls locs cells slots) {e1 : va_E} (hc : 1 ≤ cb) (hs : n ≤ sb)
    (he : va_at D cl (H.size, mv_e (mv_ad base kt) dA e1) H1) (z : H1.size = H.size + 1) (oq : ∀ q : Nat, q < H.size → H1[q]? = H[q]?) : mv_inv base (mv_ad base kt) dA D cl nL R s (pc', lo, st', hp ++ [e1], cb - 1, sb - n) H1 ls locs (cells + 1) (slots + n) ∧ mv_ad base kt hp.length = H.size := by
  obtain ⟨i1, i2, i3, i4, i5, i6, i7⟩ := I
  dsimp only at i1 i2 i3 i4 i5 i6 i7
  have hz : mv_ad base kt hp.length = H.size := by
    rw [mv_ad, if_pos (by omega), i3]
  refine ⟨⟨i1, ?_, ?_, ⟨?_, ?_, i4.2.2⟩, ?_, ?_, ?_⟩, hz⟩
  · show va_P D cl (mv_w (mv_ad base kt) dA 0 (hp ++ [e1])) H1
    rw [mv_w_app]
    refine (i2.kept (fun k q hk => oq q.1 ((i2 k q hk).lt))).app (fun k q hk => ?_)
    have hz0 : k < 1 := (List.getElem?_eq_some_iff.mp hk).1
    rw [show k = 0 by omega] at hk
    cases hk
    show va_at D cl (mv_ad base kt (0 + hp.length), _) H1
    rw [Nat.zero_add, hz]
    exact he
  · show H1.size = base + (hp ++ [e1]).length
    rw [z, i3, List.length_append]
    rfl
  · have := i4.1
    omega
  · intro q h1 h2
    exact (oq q (Nat.lt_of_lt_of_le h1 i4.1)).trans (i4.2.1 q h1 h2)
  · show cells + 1 + (cb - 1) ≤ R.cells
    omega
  · show slots + n + (sb - n) ≤ R.slots
    omega
  · show (hp ++ [e1]).length + (cb - 1) ≤ mv_big
    rw [List.length_append]
    show hp.length + 1 + _ ≤ _
    omega
/-- what a field's constant pool number means -/
def mv_okF (cl : List vw_C) (Ts : List Cond) (own : String) (idx ci k : Nat) : Prop := ∃ (C : String) (T : u_T) (N : Nat), cl[ci]? = some (C, T, N) ∧ k < N ∧ (∀ w ∈ u_ws C T N, w ∈ Ts) ∧ (Cond.fieldLink own idx (T k).1 (T k).2.1 (T k).2.2.1 ∈ Ts ∨ ∃ host : String, Cond.fieldLinkNest own idx (T k).1 (T k).2.1 (T k).2.2.1 host ∈ Ts)
theorem mr_get (hx : p.tables.exec = Jvm.exec) (hb : c.code = cc) {Ts : List Cond} (hts : ∀ w ∈ Ts, w.before args s = true) {own : String} (hown : s.vm.findClass own = some m.cls) {tys : List (ClassId × FieldType)} (hK : va_K D cl tys s) {idx : Nat} (hdg : decode cc pc = .ok (.getfield idx, 3)) (hok : ∀ ci k, mv_gF G y idx = some (ci, k) → mv_okF cl Ts own idx ci k)
    (h : mv_get G y pc lo st hp cb sb idx = some (.inl S)) (k : mv_K base (mv_ad base kt) dA D cl nL p l e R s m args below meth c Q S) : mv_K base (mv_ad base kt) dA D cl nL p l e R s m args below meth c Q (pc, lo, st, hp, cb, sb) := by
  intro H ls locs cells slots I
  unfold mv_get at h
  split at h
  · rename_i a r
    split at h
    · rename_i ci fs cj k0 he hf
      split at h
      · rename_i hc
        subst hc
        split at h
        · rename_i v hv
          cases h
          obtain ⟨C, T, N, h1, h2, h3, h4⟩ := hok _ _ hf
          have hw := mv_w_at (ad := mv_ad base kt) (dA := dA) hp 0 a _ he
          rw [Nat.zero_add] at hw
          have hv' : (fs.map (mv_v (mv_ad base kt)))[k0]? = some (mv_v (mv_ad base kt) v) := by rw [List.getElem?_map, hv]; rfl
          rcases h4 with h4 | ⟨host, h4⟩
          · exact va_get hx hb hts h3 hown hK I.2.1 a hw h1 k0 h2 (hts _ h4) (fun _ h => h) hv' hdg (k H ls locs cells slots I)
          · exact va_getN hx hb hts h3 hown hK I.2.1 a hw h1 k0 h2 (hts _ h4) (fun _ h => h) hv' hdg (k H ls locs cells slots I)
        · cases h
      · cases h
    · cases h
  · cases h
theorem mr_iald (hx : p.tables.exec = Jvm.exec) (hb : c.code = cc) {L : List FieldType} (hK : va_K D cl (mv_tys dA L) s) (h0 : L[0]? = some .int) (hdg : decode cc pc = .ok (.iaload, 1))
    (h : mv_iald pc lo st hp cb sb = some (.inl S)) (k : mv_K base (mv_ad base kt) dA D cl nL p l e R s m args below meth c Q S) : mv_K base (mv_ad base kt) dA D cl nL p l e R s m args below meth c Q (pc, lo, st, hp, cb, sb) := by
  intro H ls locs cells slots I
  unfold mv_iald at h
  split at h
  · rename_i i a r
    split at h
    · rename_i n f he
      split at h
      · cases h
      · rename_i ho
        cases h
        have hw := mv_w_at (ad := mv_ad base kt) (dA := dA) hp 0 a _ he
        rw [Nat.zero_add] at hw
        obtain ⟨t0, ht0⟩ := mv_tys_mem (dA := dA) h0
        exact va_iald hx hb hK I.2.1 a t0 hw ht0 (fun q => ho (decide_eq_true q)) hdg (k H ls locs cells slots I)
    · cases h
  · cases h
theorem mr_bald (hx : p.tables.exec = Jvm.exec) (hb : c.code = cc) {L : List FieldType} (hK : va_K D cl (mv_tys dA L) s) (h1 : L[1]? = some .byte) (h2 : L[2]? = some .boolean) (hdg : decode cc pc = .ok (.baload, 1))
    (h : mv_bald pc lo st hp cb sb = some (.inl S)) (k : mv_K base (mv_ad base kt) dA D cl nL p l e R s m args below meth c Q S) : mv_K base (mv_ad base kt) dA D cl nL p l e R s m args below meth c Q (pc, lo, st, hp, cb, sb) := by
  intro H ls locs cells slots I
  unfold mv_bald at h
  split at h
  · rename_i i a r
    split at h
    · rename_i t n f he
      split at h
      · rename_i ho
        cases h
        have hw := mv_w_at (ad := mv_ad base kt) (dA := dA) hp 0 a _ he
        rw [Nat.zero_add] at hw
        obtain ⟨hq, ho⟩ := ho
        rcases hq with rfl | rfl
        · obtain ⟨t0, ht0⟩ := mv_tys_mem (dA := dA) h1
          exact va_bald hx hb hK I.2.1 a t0 hw ht0 (fun q => of_decide_eq_false ho q) hdg (k H ls locs cells slots I)
        · obtain ⟨t0, ht0⟩ := mv_tys_mem (dA := dA) h2
          exact va_zald hx hb hK I.2.1 a t0 hw ht0 (fun q => of_decide_eq_false ho q) hdg (k H ls locs cells slots I)
      · cases h
    · cases h
  · cases h
theorem mv_v_rf (ad : Nat → Nat) (o : Option Nat) : mv_v ad (va_rf o) = va_rf (o.map ad) := by cases o <;> rfl
theorem mr_aald (hx : p.tables.exec = Jvm.exec) (hb : c.code = cc) {L : List FieldType} (hK : va_K D cl (mv_tys dA L) s) (hY : ∀ t ty, mv_gY G t = some ty → L[t]? = some ty) (hdg : decode cc pc = .ok (.aaload, 1))
    (h : mv_aald G pc lo st hp cb sb = some (.inl S)) (k : mv_K base (mv_ad base kt) dA D cl nL p l e R s m args below meth c Q S) : mv_K base (mv_ad base kt) dA D cl nL p l e R s m args below meth c Q (pc, lo, st, hp, cb, sb) := by
  intro H ls locs cells slots I
  unfold mv_aald at h
  split at h
  · rename_i i a r
    split at h
    · rename_i t n g he
      split at h
      · rename_i ty hty
        split at h
        · rename_i ho
          cases h
          obtain ⟨hr, ho⟩ := ho
          have hin := of_decide_eq_false ho
          obtain ⟨t0, ht0⟩ := mv_tys_mem (dA := dA) (hY _ _ hty)
          obtain ⟨hat, -, -⟩ := mv_inv_at I he
          have hlt : i.toNatClampNeg < n := Nat.not_le.mp fun q => hin (Or.inr q)
          have hk := k H ls locs cells slots I
          refine W.aald (v := va_rf ((g i.toNatClampNeg).map (mv_ad base kt))) (ty := ty) hx hb hat ((hK.2 t0 _ ht0).1 n (fun j => va_rf ((g j).map (mv_ad base kt)))) hr (fun q => by cases q) (by show ¬ (i < 0 ∨ (arrV _ _ _).slots.size ≤ _); rw [arrV_size]; exact hin) (by show (arrV _ _ _).slots[_]? = _; rw [arrV_read _ _ hlt]) rfl rfl hdg ?_
          have e1 : (va_rf (g i.toNatClampNeg) :: r).map (mv_v (mv_ad base kt)) = va_rf ((g i.toNatClampNeg).map (mv_ad base kt)) :: r.map (mv_v (mv_ad base kt)) := by rw [List.map_cons, mv_v_rf]
          dsimp only at hk
          rw [e1] at hk
          exact hk
        · cases h
      · cases h
    · cases h
  · cases h
theorem mr_alen (hx : p.tables.exec = Jvm.exec) (hb : c.code = cc) {L : List FieldType} (hK : va_K D cl (mv_tys dA L) s) (hY : ∀ t ty, mv_gY G t = some ty → L[t]? = some ty) (hdg : decode cc pc = .ok (.arraylength, 1))
    (h : mv_alen G pc lo st hp cb sb = some (.inl S)) (k : mv_K base (mv_ad base kt) dA D cl nL p l e R s m args below meth c Q S) : mv_K base (mv_ad base kt) dA D cl nL p l e R s m args below meth c Q (pc, lo, st, hp, cb, sb) := by
  intro H ls locs cells slots I
  unfold mv_alen at h
  split at h
  · rename_i a r
    split at h
    · rename_i t n z he
      split at h
      · rename_i ty hty
        cases h
        obtain ⟨t0, ht0⟩ := mv_tys_mem (dA := dA) (hY _ _ hty)
        have hw := mv_w_at (ad := mv_ad base kt) (dA := dA) hp 0 a _ he
        rw [Nat.zero_add] at hw
        rcases z with z | z | z | z | z <;> exact va_alen hx hb hK I.2.1 a t0 hw ht0 rfl hdg (k H ls locs cells slots I)
      · cases h
    · cases h
  · cases h
end MVH
end
section
/-! the small machine: stores, and what makes cells -/
theorem mv_nar {ad : Nat → Nat} {ty : FieldType} {v : Value} (h : narrow ty v = v) : narrow ty (mv_v ad v) = mv_v ad v := by
  cases v with
  | ref a => cases ty <;> rfl
  | _ => exact h
theorem mv_fit {ad : Nat → Nat} {ty : FieldType} {v : Value} (h : fits ty v = true) : fits ty (mv_v ad v) = true := by
  cases v with
  | ref a => cases ty <;> first | rfl | cases h
  | _ => exact h
/-- what is to be known of a class -/
def mv_okC (cl : List vw_C) (Ts : List Cond) (G : mv_G) (ci : Nat) : Prop := ∃ (C : String) (T : u_T) (N : Nat) (ty0 : Nat → FieldType), cl[ci]? = some (C, T, N) ∧ (∀ w ∈ u_ws C T N, w ∈ Ts) ∧ (∀ k, k < N → parseFieldDescriptor (T k).2.2.1 = some (ty0 k)) ∧ (∀ a, a < N → ∀ b, b < N → a ≠ b → (T a).2.1 ≠ (T b).2.1) ∧ (∀ k, k < N → mv_gT G ci k = some (ty0 k)) ∧ (∀ k, k < N → mv_gP G ci k = (T k).2.2.2) ∧ (∀ j, j < N → defaultValue (ty0 j) = vp_V (mv_gD G ci) j) ∧ ∀ ad : Nat → Nat, (mv_gD G ci).map (mv_v ad) = mv_gD G ci
/-- a final field's put, in a constructor of its own class -/
def mv_okP (cl : List vw_C) (Ts : List Cond) (meth : Method) (own : String) (idx ci k : Nat) : Prop := ∃ (C : String) (T : u_T) (N : Nat), cl[ci]? = some (C, T, N) ∧ (T k).1 = own ∧ Cond.fieldLink own idx (T k).1 (T k).2.1 (T k).2.2.1 ∈ Ts ∧ meth.name = "<init>"
section MVH2
variable {base : Nat} {kt dA : Nat → Nat} {D : va_G} {cl : List vw_C} {nL : Nat} {p : Program} {l : Launch} {e : Env} {R : Room} {s : State} {m : MethodId} {args : Array Value} {below : List Frame} {meth : Method} {c : Code} {Q : State → Prop} {cc : ByteArray} {G : mv_G} {y pc : Nat} {lo : List (Nat × Value)} {st : List Value} {hp : List va_E} {cb sb : Nat} {S : mv_S}
theorem mr_put (hx : p.tables.exec = Jvm.exec) (hb : c.code = cc) {Ts : List Cond} (hts : ∀ w ∈ Ts, w.before args s = true) {own : String} (hown : s.vm.findClass own = some m.cls) {tys : List (ClassId × FieldType)} (hK : va_K D cl tys s) {idx : Nat} (hdg : decode cc pc = .ok (.putfield idx, 3)) (hok : ∀ ci k, mv_gF G y idx = some (ci, k) → mv_okF cl Ts own idx ci k) (hokC : ∀ ci k, mv_gF G y idx = some (ci, k) → mv_okC cl Ts G ci) (hokP : ∀ ci k, mv_gF G y idx = some (ci, k) → mv_gP G ci k = true → mv_gQ G y ci = true → mv_okP cl Ts meth own idx ci k)
    (h : mv_put G y pc lo st hp cb sb idx = some (.inl S)) (k : mv_K base (mv_ad base kt) dA D cl nL p l e R s m args below meth c Q S) : mv_K base (mv_ad base kt) dA D cl nL p l e R s m args below meth c Q (pc, lo, st, hp, cb, sb) := by
  intro H ls locs cells slots I
  unfold mv_put at h
  split at h
  · rename_i v a r
    split at h
    · rename_i ci fs cj k0 he hf
      split at h
      · rename_i ty hty
        split at h
        · rename_i hc
          obtain ⟨rfl, hnar, hfit, hlen, hfinal⟩ := hc
          cases h
          obtain ⟨C, T, N, h1, h2, h3, h4⟩ := hok _ _ hf
          obtain ⟨C', T', N', ty0, g1, -, g3, g4, g5, g6, -, -⟩ := hokC _ _ hf
          cases h1.symm.trans g1
          have hty0 : ty = ty0 k0 := by
            have := g5 k0 h2
            rw [hty] at this
            exact Option.some.inj this
          obtain ⟨hat, -, -⟩ := mv_inv_at I he
          have hap := va_apart (own := own) hts h3 ty0 g3 g4 hK h1
          obtain ⟨rr, r1, cell, q1, q2, q3, q4⟩ := hat
          have hr : rr = (C, T, N) := Option.some.inj (r1.symm.trans h1)
          subst hr
          obtain ⟨hS, hfc, kC, hkC, hkind⟩ := hK.1 ci _ h1
          obtain ⟨cf, kf, fi, f, hi, hsl⟩ := hS k0 h2
          have hst := (u_facts hfc hkC (u_lays hts h3 h2) hi).1
          have hd : parseFieldDescriptor (T k0).2.2.1 = some ty := by rw [hty0]; exact g3 k0 h2
          have hlen' : k0 < (fs.map (mv_v (mv_ad base kt))).length := by rw [List.length_map]; exact hlen
          have fin : ∀ (H1 : Heap) (x : Cell), H1[mv_ad base kt a]? = some (cell.setSlot (D.2 ci k0) (mv_v (mv_ad base kt) v)) → H1.size = H.size → (∀ q : Nat, q ≠ mv_ad base kt a → H1[q]? = H[q]?) → ∀ i9 : Nat, mv_inv base (mv_ad base kt) dA D cl nL R s (pc + 3, lo, r, hp.set a (.inr (ci, fs.set k0 v)), cb, sb) H1 ls (locs ++ [⟨mv_ad base kt a, i9⟩]) cells slots := by
            intro H1 x e1 z oq i9
            refine mv_inv_put I he ?_ z oq
            show va_at D cl (mv_ad base kt a, .inr (ci, (fs.set k0 v).map (mv_v (mv_ad base kt)))) H1
            rw [List.map_set]
            exact ⟨_, h1, t_OB.to (V := updV (vp_V (fs.map (mv_v (mv_ad base kt)))) k0 (mv_v (mv_ad base kt) v)) ⟨_, e1, q2, q3, t_set q4 hap h2 _⟩ (fun j _ => vp_updV_set hlen' _ j)⟩
          have hlay := hts _ (h3 _ (u_in_lay h2))
          unfold u_lay at hlay
          by_cases hfin : (T k0).2.2.2 = true
          · obtain ⟨C2, T2, N2, p1, p2, p3, p4⟩ := hokP _ _ hf (by rw [g6 k0 h2]; exact hfin) (hfinal (by rw [g6 k0 h2]; exact hfin))
            cases h1.symm.trans p1
            rw [if_pos hfin] at hlay
            have hcf : m.cls = cf := by
              obtain ⟨_, _, c', _, _, _, -, -, hf', -, -, -, hown2, -⟩ := Cond.laysFinal_spec hlay
              have e1 : c' = cf := by have := hi.symm.trans hf'; simp at this; exact this.1.symm
              rw [p2] at hown2
              rw [← e1]; exact Option.some.inj (hown.symm.trans hown2)
            have h6 := u_fits hfc hkC hkind (Or.inr hlay) hi hd (mv_nar hnar) (mv_fit (ad := mv_ad base kt) hfit)
            refine W.putFinK hx hb hown (hts _ p3) hi hst hcf p4 (by rw [q2]; exact h6) q1 q3 (by rw [hsl]; exact k2_hasslot (q4 k0 h2)) rfl rfl hdg fun H' e1 e2 e3 => ?_
            rw [hsl] at e1 ⊢
            exact k H' ls _ cells slots (fin H' cell e1 e2 e3 _)
          · rw [if_neg hfin] at hlay
            have h6 := u_store hfc hkC hkind hlay hi hd (mv_nar hnar) (mv_fit (ad := mv_ad base kt) hfit)
            rcases h4 with h4 | ⟨host, h4⟩
            · refine W.putK hx hb (f := f) ⟨hown, hts _ h4, ⟨_, _, _, hi⟩, hst⟩ (by rw [q2]; exact h6) q1 q3 (by rw [hsl]; exact k2_hasslot (q4 k0 h2)) rfl rfl hdg fun H' e1 e2 e3 => ?_
              rw [hsl] at e1 ⊢
              exact k H' ls _ cells slots (fin H' cell e1 e2 e3 _)
            · refine va_WputK hx hb (f := f) hown (hts _ h4) hi hst (by rw [q2]; exact h6) q1 q3 (by rw [hsl]; exact k2_hasslot (q4 k0 h2)) rfl rfl hdg fun H' e1 e2 e3 => ?_
              rw [hsl] at e1 ⊢
              exact k H' ls _ cells slots (fin H' cell e1 e2 e3 _)
        · cases h
      · cases h
    · cases h
  · cases h
theorem mr_iast (hx : p.tables.exec = Jvm.exec) (hb : c.code = cc) {L : List FieldType} (hK : va_K D cl (mv_tys dA L) s) (h0 : L[0]? = some .int) (hdg : decode cc pc = .ok (.iastore, 1))
    (h : mv_iast pc lo st hp cb sb = some (.inl S)) (k : mv_K base (mv_ad base kt) dA D cl nL p l e R s m args below meth c Q S) : mv_K base (mv_ad base kt) dA D cl nL p l e R s m args below meth c Q (pc, lo, st, hp, cb, sb) := by
  intro H ls locs cells slots I
  unfold mv_iast at h
  split at h
  · rename_i x i a r
    split at h
    · rename_i n f he
      split at h
      · cases h
      · rename_i ho
        cases h
        obtain ⟨t0, ht0⟩ := mv_tys_mem (dA := dA) h0
        obtain ⟨hat, -, -⟩ := mv_inv_at I he
        have hin : vp_in i n := fun q => ho (decide_eq_true q)
        refine W.iast hx hb hat ((hK.2 t0 _ ht0).1 n (fun j => .int (f j))) (fun q => by cases q) (by show ¬ (i < 0 ∨ (arrV _ _ _).slots.size ≤ _); rw [arrV_size]; exact hin) rfl rfl hdg fun H1 e1 z oq => k H1 ls _ cells slots (mv_inv_put I he ?_ z oq)
        show H1[mv_ad base kt a]? = some (vp_cell (dA 0) (n, .inl (upd f i.toNatClampNeg x)))
        rw [e1]
        show some ((vp_cell (dA 0) (n, .inl f)).setSlot _ _) = _
        rw [vp_cell_i, vp_cell_i, arrV_store]
        congr 2
        funext q
        by_cases hq : q = i.toNatClampNeg
        · subst hq
          simp [updV, upd]
        · simp [updV, upd, hq]
    · cases h
  · cases h
theorem mr_bast (hx : p.tables.exec = Jvm.exec) (hb : c.code = cc) {L : List FieldType} (hK : va_K D cl (mv_tys dA L) s) (h1 : L[1]? = some .byte) (h2 : L[2]? = some .boolean) (hdg : decode cc pc = .ok (.bastore, 1))
    (h : mv_bast pc lo st hp cb sb = some (.inl S)) (k : mv_K base (mv_ad base kt) dA D cl nL p l e R s m args below meth c Q S) : mv_K base (mv_ad base kt) dA D cl nL p l e R s m args below meth c Q (pc, lo, st, hp, cb, sb) := by
  intro H ls locs cells slots I
  unfold mv_bast at h
  split at h
  · rename_i x i a r
    split at h
    · rename_i t n f he
      split at h
      · rename_i ho
        have hin : vp_in i n := fun q => of_decide_eq_false ho q
        obtain ⟨hat, -, -⟩ := mv_inv_at I he
        split at h
        · rename_i hq
          subst hq
          cases h
          obtain ⟨t0, ht0⟩ := mv_tys_mem (dA := dA) h1
          refine W.bast hx hb hat ((hK.2 t0 _ ht0).1 n (fun j => .int (f j))) (fun q => by cases q) (by show ¬ (i < 0 ∨ (arrV _ _ _).slots.size ≤ _); rw [arrV_size]; exact hin) rfl rfl hdg fun H1 e1 z oq => k H1 ls _ cells slots (mv_inv_put I he ?_ z oq)
          show H1[mv_ad base kt a]? = some (vp_cell (dA 1) (n, .inl (upd f i.toNatClampNeg (vp_nar .byte x))))
          rw [e1]
          show some ((vp_cell (dA 1) (n, .inl f)).setSlot _ _) = _
          rw [vp_cell_i, vp_cell_i, arrV_store]
          congr 2
          funext q
          by_cases hq : q = i.toNatClampNeg
          · subst hq
            simp [updV, upd, vp_nar]
            try rfl
          · simp [updV, upd, hq]
        · split at h
          · rename_i hq
            subst hq
            cases h
            obtain ⟨t0, ht0⟩ := mv_tys_mem (dA := dA) h2
            refine W.zast hx hb hat ((hK.2 t0 _ ht0).1 n (fun j => .int (f j))) (fun q => by cases q) (by show ¬ (i < 0 ∨ (arrV _ _ _).slots.size ≤ _); rw [arrV_size]; exact hin) rfl rfl hdg fun H1 e1 z oq => k H1 ls _ cells slots (mv_inv_put I he ?_ z oq)
            show H1[mv_ad base kt a]? = some (vp_cell (dA 2) (n, .inl (upd f i.toNatClampNeg (vp_nar .boolean x))))
            rw [e1]
            show some ((vp_cell (dA 2) (n, .inl f)).setSlot _ _) = _
            rw [vp_cell_i, vp_cell_i, arrV_store]
            congr 2
            funext q
            by_cases hq : q = i.toNatClampNeg
            · subst hq
              simp [updV, upd, vp_nar]
              try rfl
            · simp [updV, upd, hq]
          · cases h
      · cases h
    · cases h
  · cases h
theorem mv_new_eq {H : Heap} {ls : Array Slot} {locs : List Loc} {cells slots : Nat} {r : List Value} (hz : mv_ad base kt hp.length = H.size) {pc' cb' sb' : Nat} {hp' : List va_E} {H1 : Heap} (k : mv_K base (mv_ad base kt) dA D cl nL p l e R s m args below meth c Q (pc', lo, .ref hp.length :: r, hp', cb', sb')) (I : mv_inv base (mv_ad base kt) dA D cl nL R s (pc', lo, .ref hp.length :: r, hp', cb', sb') H1 ls locs cells slots) : W p l e R s m args below meth c H1 locs cells slots Q (F0 m pc' ls (.ref H.size :: r.map (mv_v (mv_ad base kt)))) := by
  have h := k H1 ls locs cells slots I
  have e1 : (Value.ref hp.length :: r).map (mv_v (mv_ad base kt)) = .ref H.size :: r.map (mv_v (mv_ad base kt)) := by
    rw [List.map_cons]
    show Value.ref (mv_ad base kt hp.length) :: _ = _
    rw [hz]
  dsimp only at h
  rw [e1] at h
  exact h
theorem mr_new (hx : p.tables.exec = Jvm.exec) (hb : c.code = cc) {Ts : List Cond} (hts : ∀ w ∈ Ts, w.before args s = true) {own : String} (hown : s.vm.findClass own = some m.cls) {tys : List (ClassId × FieldType)} (hK : va_K D cl tys s) {idx : Nat} (hdg : decode cc pc = .ok (.new idx, 3)) (hokC : ∀ ci, mv_gN G y idx = some ci → mv_okC cl Ts G ci) (hokN : ∀ ci C T N, mv_gN G y idx = some ci → cl[ci]? = some (C, T, N) → Cond.classLink own idx C ∈ Ts ∧ Cond.instantiable C (mv_gZ G ci) ∈ Ts ∧ Cond.initialized C ∈ Ts)
    (h : mv_new G y pc lo st hp cb sb idx = some (.inl S)) (k : mv_K base (mv_ad base kt) dA D cl nL p l e R s m args below meth c Q S) : mv_K base (mv_ad base kt) dA D cl nL p l e R s m args below meth c Q (pc, lo, st, hp, cb, sb) := by
  intro H ls locs cells slots I
  unfold mv_new at h
  split at h
  · rename_i ci hci
    split at h
    · rename_i hc
      cases h
      obtain ⟨C, T, N, ty0, g1, g2, g3, g4, g5, g6, g7, g8⟩ := hokC _ hci
      obtain ⟨n1, n2, n3⟩ := hokN _ _ _ _ hci g1
      have hKn := hK.1 ci _ g1
      have I5 : cells + cb ≤ R.cells := I.2.2.2.2.1
      have I6 : slots + sb ≤ R.slots := I.2.2.2.2.2.1
      refine W.newcK hx hb hown (hts _ n1) (hts _ n2) (hts _ n3) rfl hdg (by omega) (by omega) hKn.2.1 rfl fun H1 kC hkC e1 z1 o1 => ?_
      obtain ⟨I', hz⟩ := mv_inv_new (pc' := pc + 3) (st' := .ref hp.length :: st) (H1 := H1) I (e1 := .inr (ci, mv_gD G ci)) hc.1 hc.2 (by
        show va_at D cl (H.size, .inr (ci, (mv_gD G ci).map (mv_v (mv_ad base kt)))) H1
        rw [g8]
        exact ⟨_, g1, (u_born ty0 hts g2 hKn hkC e1 g3).to g7⟩) z1 o1
      exact mv_new_eq hz k I'
    · cases h
  · cases h
theorem mv_RAof {ty : FieldType} {cA cB : ClassId} (h : va_RA s cA ty) (h2 : s.vm.findClass ("[" ++ ty.toString) = some cB) : cB = cA := by
  cases ty with
  | object C =>
    obtain ⟨_, _, _, _, _, h4⟩ := h
    exact Option.some.inj (h2.symm.trans h4)
  | _ => exact Option.some.inj (h2.symm.trans h)
theorem mr_newa (hx : p.tables.exec = Jvm.exec) (hb : c.code = cc) {Ts : List Cond} (hts : ∀ w ∈ Ts, w.before args s = true) {L : List FieldType} (hK : va_K D cl (mv_tys dA L) s) (h0 : L[0]? = some .int) (h1 : L[1]? = some .byte) (h2 : L[2]? = some .boolean) (a0 : Cond.arrayClass .int ∈ Ts) (a1 : Cond.arrayClass .byte ∈ Ts) (a2 : Cond.arrayClass .boolean ∈ Ts) {at_ : ArrayType} (hdg : decode cc pc = .ok (.newarray at_, 2))
    (h : mv_newa pc lo st hp cb sb at_ = some (.inl S)) (k : mv_K base (mv_ad base kt) dA D cl nL p l e R s m args below meth c Q S) : mv_K base (mv_ad base kt) dA D cl nL p l e R s m args below meth c Q (pc, lo, st, hp, cb, sb) := by
  intro H ls locs cells slots I
  unfold mv_newa at h
  split at h
  · rename_i n r
    split at h
    · rename_i t ht
      split at h
      · rename_i hc
        obtain ⟨hn, hm, hc1, hc2⟩ := hc
        cases h
        have I5 : cells + cb ≤ R.cells := I.2.2.2.2.1
        have I6 : slots + sb ≤ R.slots := I.2.2.2.2.2.1
        have fin : ∀ (ty : FieldType), L[t]? = some ty → defaultValue ty = .int 0 → newarray.typeOf at_ = ty → (Cond.arrayClass ty).before args s = true → componentBytes ty ≤ 4 → W p l e R s m args below meth c H locs cells slots Q (F0 m pc ls (.int n :: r.map (mv_v (mv_ad base kt)))) := by
          intro ty hL hdef hty har hcb
          obtain ⟨t0, ht0⟩ := mv_tys_mem (dA := dA) hL
          have hbytes : n.toNatClampNeg * componentBytes ty ≤ 536870912 := Nat.le_trans (Nat.mul_le_mul hm hcb) (by decide)
          subst hty
          refine va_newaK hx hb har rfl hdg rfl hn rfl hbytes (by omega) (by omega) rfl fun H1 cA e1 z1 o1 _ hfc => ?_
          have hcA := mv_RAof (hK.2 t0 _ ht0).2 hfc
          subst hcA
          obtain ⟨I', hz⟩ := mv_inv_new (pc' := pc + 2) (st' := .ref hp.length :: r) (H1 := H1) I (e1 := .inl (t, n.toNatClampNeg, .inl (fun _ => 0))) hc1 hc2 (by
            show H1[H.size]? = some (vp_cell (dA t) (n.toNatClampNeg, .inl (fun _ => 0)))
            rw [e1, hdef, vp_cell_i]) z1 o1
          exact mv_new_eq hz k I'
        cases at_ <;> simp [mv_prim] at ht
        · subst ht
          exact fin .boolean h2 rfl rfl (hts _ a2) (by decide)
        · subst ht
          exact fin .byte h1 rfl rfl (hts _ a1) (by decide)
        · subst ht
          exact fin .int h0 rfl rfl (hts _ a0) (by decide)
      · cases h
    · cases h
  · cases h
theorem mr_anew (hx : p.tables.exec = Jvm.exec) (hb : c.code = cc) {Ts : List Cond} (hts : ∀ w ∈ Ts, w.before args s = true) {own : String} (hown : s.vm.findClass own = some m.cls) {L : List FieldType} (hK : va_K D cl (mv_tys dA L) s) {idx : Nat} (hdg : decode cc pc = .ok (.anewarray idx, 3)) (hokA : ∀ t, mv_gA G y idx = some t → (∃ C : String, L[t]? = some (.object C) ∧ Cond.classLink own idx C ∈ Ts ∧ Cond.arrayOver (.object C) ∈ Ts) ∨ ∃ ty : FieldType, L[t]? = some (.array ty) ∧ Cond.classLink own idx (FieldType.array ty).toString ∈ Ts ∧ Cond.arrayOver (.array ty) ∈ Ts)
    (h : mv_anew G y pc lo st hp cb sb idx = some (.inl S)) (k : mv_K base (mv_ad base kt) dA D cl nL p l e R s m args below meth c Q S) : mv_K base (mv_ad base kt) dA D cl nL p l e R s m args below meth c Q (pc, lo, st, hp, cb, sb) := by
  intro H ls locs cells slots I
  unfold mv_anew at h
  split at h
  · rename_i n r
    split at h
    · rename_i t ht
      split at h
      · rename_i hc
        obtain ⟨hn, hm, hc1, hc2⟩ := hc
        cases h
        have I5 : cells + cb ≤ R.cells := I.2.2.2.2.1
        have I6 : slots + sb ≤ R.slots := I.2.2.2.2.2.1
        have fin : ∀ (ty : FieldType) (cA : ClassId), L[t]? = some ty → s.vm.findClass ("[" ++ ty.toString) = some cA → W p l e R s m args below meth c (H.push ({ cls := cA, slots := Array.replicate n.toNatClampNeg .null, vm := .none } : Cell)) locs (cells + 1) (slots + n.toNatClampNeg) Q (F0 m (pc + 3) ls (.ref H.size :: r.map (mv_v (mv_ad base kt)))) := by
          intro ty cA hL hfc
          obtain ⟨t0, ht0⟩ := mv_tys_mem (dA := dA) hL
          have hcA := mv_RAof (hK.2 t0 _ ht0).2 hfc
          subst hcA
          generalize hH1 : H.push ({ cls := dA t, slots := Array.replicate n.toNatClampNeg .null, vm := .none } : Cell) = H1
          obtain ⟨I', hz⟩ := mv_inv_new (pc' := pc + 3) (st' := .ref hp.length :: r) (H1 := H1) I (e1 := .inl (t, n.toNatClampNeg, .inr (.inr (.inr (.inr (fun _ => none)))))) hc1 hc2 (by
            show H1[H.size]? = some (vp_cell (dA t) (n.toNatClampNeg, .inr (.inr (.inr (.inr (fun _ => none))))))
            rw [← hH1, Array.getElem?_push_size, arrV_new, vp_cell_q]
            rfl) (by rw [← hH1, Array.size_push]) (fun q hq => by rw [← hH1, Array.getElem?_push, if_neg (Nat.ne_of_lt hq)])
          exact mv_new_eq hz k I'
        rcases hokA _ ht with ⟨C, hL, k1, k2⟩ | ⟨ty, hL, k1, k2⟩
        · exact W.anew hx hb hown (hts _ k1) (hts _ k2) rfl hdg rfl hn (by omega) (by omega) (by omega) fun cA _ _ f1 _ _ _ => fin _ cA hL f1
        · exact W.anewA hx hb hown (hts _ k1) (hts _ k2) rfl hdg rfl hn (by omega) (by omega) (by omega) fun cA _ _ f1 _ _ _ => fin _ cA hL f1
      · cases h
    · cases h
  · cases h
end MVH2
end
section
/-! the small machine: how a call ends -/
section
variable (G : mv_G) (y pc : Nat) (st : List Value)
def mv_iret : Option mv_R := match st with
  | [.int v] => match mv_gR G y with
    | some ty => if narrow ty (.int v) = .int v then some (.inr (.inr (.inl (some (.int v))))) else none
    | none => none
  | _ => none
def mv_aret : Option mv_R := match st with
  | [v] => match mv_gR G y with
    | some ty => if ty.isReference = true ∧ mv_rfv v = true then some (.inr (.inr (.inl (some v)))) else none
    | none => none
  | _ => none
def mv_vret : Option mv_R := match st with
  | [] => match mv_gR G y with
    | none => some (.inr (.inr (.inl none)))
    | some _ => none
  | _ => none
def mv_throw : Option mv_R := match st with
  | .ref a :: _ => some (.inr (.inr (.inr a)))
  | _ => none
end
def mv_o (ad : Nat → Nat) : Nat ⊕ Option Value → Outcome
  | .inl a => .threw (ad a)
  | .inr v => .returned (v.map (mv_v ad))
/-- the end of a call, E, in the real machine: s behind its beginning, t at its end -/
def mv_end (base : Nat) (ad dA : Nat → Nat) (D : va_G) (cl : List vw_C) (R : Room) (s : State) (E : mv_E) (o : Outcome) (t : State) : Prop :=
  o = mv_o ad E.1 ∧ va_P D cl (mv_w ad dA 0 E.2.1) t.heap ∧ t.heap.size = base + E.2.1.length ∧ (∀ q : Nat, q < base → t.heap[q]? = s.heap[q]?) ∧ s.WarmedH t.vm ∧ (∃ (L : List Loc) (k n : Nat), k + E.2.2.1 ≤ R.cells ∧ n + E.2.2.2 ≤ R.slots ∧ s.sameButNew ({ t with vm := s.vm } : State) L k n ∧ ∀ q ∈ L, base ≤ q.base) ∧ E.2.1.length + E.2.2.1 ≤ mv_big
def mv_Z (base : Nat) (ad dA : Nat → Nat) (D : va_G) (cl : List vw_C) (R : Room) (s : State) (below : List Frame) (E : mv_E) : State → Prop := fun t => ∃ o, t.status = .running ∧ Ended t below o ∧ mv_end base ad dA D cl R s E o t
/-- the real machine goes on well where, standing at S, a has been thrown -/
def mv_KT (base : Nat) (ad dA : Nat → Nat) (D : va_G) (cl : List vw_C) (nL : Nat) (p : Program) (l : Launch) (e : Env) (R : Room) (s : State) (m : MethodId) (args : Array Value) (below : List Frame) (meth : Method) (c : Code) (Q : State → Prop) (S : mv_S) (a : Nat) : Prop :=
  ∀ (H : Heap) (ls : Array Slot) (locs : List Loc) (cells slots : Nat) (st : List Value), mv_inv base ad dA D cl nL R s S H ls locs cells slots → ∀ T : State, T.heap = H → Stand p l e R s m args below meth c T locs cells slots → ∃ t, Steps p.tables e below ((T.setTop (F0 m S.1 ls st)).pushFrame (.throwing (ad a))) t ∧ Q t
abbrev mv_MQ (base : Nat) (ad : Nat → Nat) (below : List Frame) (args : Array Value) (s : State) (cells slots : Nat) (H : Heap) (v : Option Value) : State → Prop := MQ below (fun _ _ o t => o = .returned (v.map (mv_v ad)) ∧ t.heap = H) args s cells slots (fun q => base ≤ q)
section MVE
variable {base : Nat} {kt dA : Nat → Nat} {D : va_G} {cl : List vw_C} {nL : Nat} {p : Program} {l : Launch} {e : Env} {R : Room} {s : State} {m : MethodId} {args : Array Value} {below : List Frame} {meth : Method} {c : Code} {Q : State → Prop} {cc : ByteArray} {G : mv_G} {y pc : Nat} {lo : List (Nat × Value)} {st : List Value} {hp : List va_E} {cb sb : Nat} {S : mv_S}
theorem mv_mono {H : Heap} {locs : List Loc} {cells slots : Nat} {Q' : State → Prop} {g : JFrame} (h : ∀ t, Q t → Q' t) (k : W p l e R s m args below meth c H locs cells slots Q g) : W p l e R s m args below meth c H locs cells slots Q' g := fun T hT X => by
  obtain ⟨t, a, b⟩ := k T hT X
  exact ⟨t, a, h t b⟩
theorem mv_end_ret {H : Heap} {ls : Array Slot} {locs : List Loc} {cells slots : Nat} {v : Option Value} (hbase : base ≤ s.heap.size) (I : mv_inv base (mv_ad base kt) dA D cl nL R s (pc, lo, st, hp, cb, sb) H ls locs cells slots) {t : State} (h : mv_MQ base (mv_ad base kt) below args s cells slots H v t) : mv_Z base (mv_ad base kt) dA D cl R s below (.inr v, hp, cb, sb) t := by
  obtain ⟨o, h1, h2, ⟨h3, h4⟩, L, ⟨h5, h6, h7⟩, h8⟩ := h
  obtain ⟨i1, i2, i3, i4, i5, i6, i7⟩ := I
  refine ⟨o, h1, h2, h3, by rw [h4]; exact i2, by rw [h4]; exact i3, fun q hq => ?_, h6, ⟨L, cells, slots, i5, i6, h7, h8⟩, i7⟩
  rw [h4]
  exact i4.2.1 q (by omega) (by omega)
theorem mr_iret (hx : p.tables.exec = Jvm.exec) (hb : c.code = cc) (hlocks : meth.locks = false) (hr : meth.sig.returnType = mv_gR G y) (hbase : base ≤ s.heap.size) (hdg : decode cc pc = .ok (.ireturn, 1)) {v : Option Value} (h : mv_iret G y st = some (.inr (.inr (.inl v)))) : mv_K base (mv_ad base kt) dA D cl nL p l e R s m args below meth c (mv_Z base (mv_ad base kt) dA D cl R s below (.inr v, hp, cb, sb)) (pc, lo, st, hp, cb, sb) := by
  intro H ls locs cells slots I
  unfold mv_iret at h
  split at h
  · rename_i x
    split at h
    · rename_i ty hty
      split at h
      · rename_i hn
        cases h
        refine mv_mono (Q := mv_MQ base (mv_ad base kt) below args s cells slots H _) (fun t => mv_end_ret hbase I) ?_
        exact W.zret (ty := ty) hx hb (hr.trans hty) hn (fun t ht _ => ⟨rfl, ht⟩) I.2.2.2.1.2.2 hdg
      · cases h
    · cases h
  · cases h
theorem mr_aret (hx : p.tables.exec = Jvm.exec) (hb : c.code = cc) (hlocks : meth.locks = false) (hr : meth.sig.returnType = mv_gR G y) (hbase : base ≤ s.heap.size) (hdg : decode cc pc = .ok (.areturn, 1)) {v : Option Value} (h : mv_aret G y st = some (.inr (.inr (.inl v)))) : mv_K base (mv_ad base kt) dA D cl nL p l e R s m args below meth c (mv_Z base (mv_ad base kt) dA D cl R s below (.inr v, hp, cb, sb)) (pc, lo, st, hp, cb, sb) := by
  intro H ls locs cells slots I
  unfold mv_aret at h
  split at h
  · rename_i x
    split at h
    · rename_i ty hty
      split at h
      · rename_i hn
        cases h
        refine mv_mono (Q := mv_MQ base (mv_ad base kt) below args s cells slots H _) (fun t => mv_end_ret hbase I) ?_
        have hrt : (∃ n, ty = .object n) ∨ ∃ t, ty = .array t := by
          cases ty <;> first | exact Or.inl ⟨_, rfl⟩ | exact Or.inr ⟨_, rfl⟩ | exact absurd hn.1 (by decide)
        have hv : mv_v (mv_ad base kt) x = .null ∨ ∃ a, mv_v (mv_ad base kt) x = .ref a := by
          cases x <;> first | exact Or.inl rfl | exact Or.inr ⟨_, rfl⟩ | exact absurd hn.2 (by simp [mv_rfv])
        exact W.aret (rt := ty) hx hb (hr.trans hty) hrt hv (fun t ht _ => ⟨rfl, ht⟩) I.2.2.2.1.2.2 hdg
      · cases h
    · cases h
  · cases h
theorem mr_vret (hx : p.tables.exec = Jvm.exec) (hb : c.code = cc) (hlocks : meth.locks = false) (hr : meth.sig.returnType = mv_gR G y) (hbase : base ≤ s.heap.size) (hdg : decode cc pc = .ok (.return_, 1)) {v : Option Value} (h : mv_vret G y st = some (.inr (.inr (.inl v)))) : mv_K base (mv_ad base kt) dA D cl nL p l e R s m args below meth c (mv_Z base (mv_ad base kt) dA D cl R s below (.inr v, hp, cb, sb)) (pc, lo, st, hp, cb, sb) := by
  intro H ls locs cells slots I
  unfold mv_vret at h
  split at h
  · split at h
    · rename_i hty
      cases h
      refine mv_mono (Q := mv_MQ base (mv_ad base kt) below args s cells slots H _) (fun t => mv_end_ret hbase I) ?_
      exact W.vret hx hb (hr.trans hty) (fun t ht _ => ⟨rfl, ht⟩) I.2.2.2.1.2.2 hdg
    · cases h
  · cases h
/-- an object is thrown by the instruction -/
theorem mr_throw (hx : p.tables.exec = Jvm.exec) (hb : c.code = cc) (hdg : decode cc pc = .ok (.athrow, 1)) {a : Nat} (h : mv_throw st = some (.inr (.inr (.inr a)))) (k : mv_KT base (mv_ad base kt) dA D cl nL p l e R s m args below meth c Q (pc, lo, st, hp, cb, sb) a) : mv_K base (mv_ad base kt) dA D cl nL p l e R s m args below meth c Q (pc, lo, st, hp, cb, sb) := by
  intro H ls locs cells slots I
  unfold mv_throw at h
  split at h
  · rename_i b r
    cases h
    intro T hT X
    obtain ⟨t, h1, h2⟩ := k H ls locs cells slots (r.map (mv_v (mv_ad base kt))) I T hT X
    refine ⟨t, ?_, h2⟩
    show Steps p.tables e below (T.setTop (F0 m pc ls (.ref (mv_ad base kt a) :: r.map (mv_v (mv_ad base kt))))) t
    jvm_step X.here [X.here.top, hx, hb, hdg, athrow.wp_sem]
    exact h1
  · cases h
/-- nothing in the method takes it -/
theorem mr_out (hlocks : meth.locks = false) (hbase : base ≤ s.heap.size) (hout : ∀ x ∈ c.exceptionTable.toList, covers x pc = false) (a : Nat) : mv_KT base (mv_ad base kt) dA D cl nL p l e R s m args below meth c (mv_Z base (mv_ad base kt) dA D cl R s below (.inl a, hp, cb, sb)) (pc, lo, st, hp, cb, sb) a := by
  intro H ls locs cells slots st9 I T hT X
  obtain ⟨h1, h2, h3, h4, h5⟩ := X.leaveThrown (mv_ad base kt a) (g := F0 m pc ls st9) rfl rfl rfl hout
  obtain ⟨i1, i2, i3, i4, i5, i6, i7⟩ := I
  have hh : (T.setFrames (.throwing (mv_ad base kt a) :: below)).heap = H := hT
  refine ⟨_, h1, _, h2, h3, rfl, by rw [hh]; exact i2, by rw [hh]; exact i3, fun q hq => ?_, h4, ⟨locs, cells, slots, i5, i6, h5, i4.2.2⟩, i7⟩
  rw [hh]
  exact i4.2.1 q (by omega) (by omega)
end MVE
/-! a handler, cold or warm -/
theorem mv_go_cold {Et : CtlPost} {e : Env} {d : Bool} {acts : List Action} {s : State} {f : JFrame} {a : Addr} {Q : Handler → Pre} {x : ExceptionTableEntry} {t : List ExceptionTableEntry} {c : ClassId} {vm' : Vm} {cell : Cell} (hx : covers x f.pc = true) (h0 : x.catchType ≠ 0)
    (hg : (Jvm.resolveClass f.method.cls x.catchType).Gives e.toSetting s.vm (.ok c) vm') (hsz : vm'.classes.size ≤ s.vm.classes.size) (hcell : s.heap[a]? = some cell) (hobj : ∀ k, cell.vm ≠ .statics k)
    (hk : ∃ k, vm'.classes[cell.cls]? = some k) (hc : ∃ k, vm'.classes[c]? = some k) (hfit : vm'.assignable cell.cls c = true) :
    wp (findHandler.go f a (x :: t)) Q Et e d acts s ↔ Q (.found x.handlerPc) d acts (s.setVm vm') := by
  simp only [covers] at hx
  obtain ⟨ha, ht⟩ := hg.op (op := VmOp.resolveClass f.method.cls x.catchType) rfl
  simp [findHandler.go, hx, h0, ha, ht, hsz, hcell, hobj, hk, hc, hfit, VmOp.dirties, VmOp.acts]
end
section
/-! the small machine: handlers -/
def mv_hand : List (Nat × Nat × Nat × Nat) → Nat → Option (Nat × Nat)
  | [], _ => none
  | (a, b, h, ct) :: r, pc => if a ≤ pc ∧ pc < b then some (h, ct) else mv_hand r pc
abbrev mv_proj (h : ExceptionTableEntry) : Nat × Nat × Nat × Nat := (h.startPc, h.endPc, h.handlerPc, h.catchType)
theorem mv_hand_none {pc : Nat} : ∀ (L : List ExceptionTableEntry), mv_hand (L.map mv_proj) pc = none → ∀ x ∈ L, covers x pc = false
  | [], _, x, hx => by cases hx
  | z :: r, h, x, hx => by
    rw [List.map_cons] at h
    unfold mv_hand at h
    split at h
    · cases h
    · rename_i hn
      rcases List.mem_cons.mp hx with rfl | hx
      · show (decide (x.startPc ≤ pc) && decide (pc < x.endPc)) = false
        simp only [Bool.and_eq_false_iff, decide_eq_false_iff_not]
        by_cases h1 : x.startPc ≤ pc
        · exact Or.inr (fun h2 => hn ⟨h1, h2⟩)
        · exact Or.inl h1
      · exact mv_hand_none r h x hx
theorem mv_hand_some {pc h ct : Nat} : ∀ (L : List ExceptionTableEntry), mv_hand (L.map mv_proj) pc = some (h, ct) → ∃ (pre : List ExceptionTableEntry) (x : ExceptionTableEntry) (rest : List ExceptionTableEntry), L = pre ++ x :: rest ∧ (∀ z ∈ pre, covers z pc = false) ∧ covers x pc = true ∧ x.handlerPc = h ∧ x.catchType = ct
  | [], q => by cases q
  | z :: r, q => by
    rw [List.map_cons] at q
    unfold mv_hand at q
    split at q
    · rename_i hc
      cases q
      refine ⟨[], z, r, rfl, (fun w hw => absurd hw List.not_mem_nil), ?_, rfl, rfl⟩
      show (decide (z.startPc ≤ pc) && decide (pc < z.endPc)) = true
      simp only [Bool.and_eq_true, decide_eq_true_eq]
      exact hc
    · rename_i hn
      obtain ⟨pre, x, rest, h1, h2, h3, h4, h5⟩ := mv_hand_some r q
      refine ⟨z :: pre, x, rest, by rw [h1]; rfl, fun w hw => ?_, h3, h4, h5⟩
      rcases List.mem_cons.mp hw with rfl | hw
      · show (decide (w.startPc ≤ pc) && decide (pc < w.endPc)) = false
        simp only [Bool.and_eq_false_iff, decide_eq_false_iff_not]
        by_cases g1 : w.startPc ≤ pc
        · exact Or.inr (fun g2 => hn ⟨g1, g2⟩)
        · exact Or.inl g1
      · exact h2 w hw
theorem mv_stepCatch {e : Env} {s : State} {a : Addr} {f : JFrame} {r : List Frame} {pc : Nat} {vm' : Vm} (hfind : ∀ (Q : Handler → Pre) (Et : CtlPost) (d : Bool) (acts : List Action), wp (findHandler f a) Q Et e d acts s ↔ Q (.found pc) d acts (s.setVm vm')) :
    (stepThrowing e s a (.java f :: r)).1 = (s.setVm vm').setFrames (.java { f with pc := pc, stack := [.ref a] } :: r) := by
  simp only [stepThrowing, searchFrame, vmDo]
  generalize hr : Sem.go _ e false [] s = res
  obtain ⟨as, rfl, ha⟩ := Sem.eq_ok_of hr (a := Handler.found pc) (s' := s.setVm vm') (acts' := []) (by simp [hfind _ _ _ _])
  rfl
theorem mv_stepsCatch {tb : Tables} {e : Env} {s target : State} {g : JFrame} {c : Code} {below : List Frame} {a : Addr} (h : At s g.method c below) {pc : Nat} {vm' : Vm} (hfind : ∀ (Q : Handler → Pre) (Et : CtlPost) (d : Bool) (acts : List Action), wp (findHandler g a) Q Et e d acts ((s.setTop g).pushFrame (.throwing a)) ↔ Q (.found pc) d acts (((s.setTop g).pushFrame (.throwing a)).setVm vm'))
    (hrest : Steps tb e below ((s.setVm vm').setTop { g with pc := pc, stack := [.ref a] }) target) : Steps tb e below ((s.setTop g).pushFrame (.throwing a)) target := by
  obtain ⟨hgo, hw⟩ := h.throwing a
  refine Steps.head hgo hw ?_
  rw [stepThread_throwing (frames_entered h.top _), mv_stepCatch (s := (s.setTop g).pushFrame (.throwing a)) hfind]
  obtain ⟨g₀, hg⟩ := Option.isSome_iff_exists.mp h.top
  obtain ⟨r, hr⟩ := State.topJava?_eq_some.mp hg
  have hr2 : (s.setVm vm').frames = .java g₀ :: r := hr
  rw [State.setTop_of_frames _ hr2] at hrest
  have e1 : (((s.setTop g).pushFrame (.throwing a)).setVm vm').setFrames (.java { g with pc := pc, stack := [.ref a] } :: s.frames.tail) = (s.setVm vm').setFrames (.java { g with pc := pc, stack := [.ref a] } :: r) := by
    rw [State.pushFrame, State.setTop_of_frames _ hr, hr]
    show (((s.setFrames _).setFrames _).setVm vm').setFrames _ = _
    rw [State.setFrames_setFrames]
    show ((s.setFrames _).setFrames _).setVm vm' = _
    rw [State.setFrames_setFrames]
    rfl
  rw [e1]
  exact hrest
section MVC
variable {base : Nat} {kt dA : Nat → Nat} {D : va_G} {cl : List vw_C} {nL : Nat} {p : Program} {l : Launch} {e : Env} {R : Room} {s : State} {m : MethodId} {args : Array Value} {below : List Frame} {meth : Method} {c : Code} {Q : State → Prop} {cc : ByteArray} {G : mv_G} {y pc : Nat} {lo : List (Nat × Value)} {st : List Value} {hp : List va_E} {cb sb : Nat} {S : mv_S}
/-- a handler of the method takes it -/
theorem mr_catch {Ts : List Cond} (hts : ∀ w ∈ Ts, w.before args s = true) {own : String} (hown : s.vm.findClass own = some m.cls) {tys : List (ClassId × FieldType)} (hK : va_K D cl tys s) {hh : List (Nat × Nat × Nat × Nat)} (hh1 : c.exceptionTable.toList.map mv_proj = hh) {h ct a ci : Nat} {fs : List Value} (hf : mv_hand hh pc = some (h, ct)) (ho : hp[a]? = some (.inr (ci, fs))) {C : String} {T0 : u_T} {N : Nat} (hC : cl[ci]? = some (C, T0, N)) (hct : ct ≠ 0) (hlink : Cond.classLink own ct C ∈ Ts)
    (k : mv_K base (mv_ad base kt) dA D cl nL p l e R s m args below meth c Q (h, lo, [.ref a], hp, cb, sb)) : mv_KT base (mv_ad base kt) dA D cl nL p l e R s m args below meth c Q (pc, lo, st, hp, cb, sb) a := by
  intro H ls locs cells slots st9 I T hT X
  rw [← hh1] at hf
  obtain ⟨pre, x, rest, h1, h2, h3, h4, h5⟩ := mv_hand_some _ hf
  have hpl : e.platform.magicAccessors = ({} : Platform).magicAccessors := by rw [X.admits.platform]
  obtain ⟨cc9, hfcc, hcl⟩ := Cond.classLink_spec hown (hts _ hlink) e.platform hpl
  obtain ⟨hg₁, hwarm₁, hready₁⟩ := State.classEntry (e := e) X.warmed hcl
  obtain ⟨hS, hfc, kC, hkC, hkind⟩ := hK.1 ci _ hC
  cases hfc.symm.trans hfcc
  obtain ⟨hat, -, -⟩ := mv_inv_at I ho
  obtain ⟨rr, r1, cell, q1, q2, q3, q4⟩ := hat
  have hsz : (T.vm.noted m.cls ct (.cls (D.1 ci))).classes.size ≤ T.vm.classes.size := Nat.le_of_eq (Vm.size_noted _ _ _ _)
  obtain ⟨k1, hk1, -⟩ := hwarm₁.alike.2.2 _ _ hkC
  generalize hvm : T.vm.noted m.cls ct (.cls (D.1 ci)) = vm₁ at hg₁ hwarm₁ hready₁ hsz hk1
  have hmt : T.vm.method? m = some meth := X.method'
  have X₁ := X.noted hwarm₁
  obtain ⟨t, a1, b1⟩ := k H ls locs cells slots I (T.setVm vm₁) hT X₁
  refine ⟨t, mv_stepsCatch (g := F0 m pc ls st9) X.here (pc := h) (vm' := vm₁) (fun Q9 Et d acts => ?_) a1, b1⟩
  have e1 : ((T.setTop (F0 m pc ls st9)).pushFrame (.throwing (mv_ad base kt a))).vm = T.vm := Stand.throwing_vm T _ _
  have e2 : ((T.setTop (F0 m pc ls st9)).pushFrame (.throwing (mv_ad base kt a))).heap = T.heap := Stand.throwing_heap T _ _
  rw [W.findHandler_eq (meth := meth) (code := c) (by rw [e1]; exact hmt) X.code, h1]
  clear h1
  induction pre with
  | nil =>
    subst h4
    rw [List.nil_append]
    exact mv_go_cold (c := D.1 ci) (cell := cell) h3 (by rw [h5]; exact hct) (by rw [h5, e1]; exact hg₁) (by rw [e1]; exact hsz) (by rw [e2, hT]; exact q1) (fun z => by rw [q3]; exact fun q => by cases q) ⟨k1, by rw [q2]; exact hk1⟩ ⟨k1, hk1⟩ (by rw [q2]; exact va_asg _ _)
  | cons z r ih =>
    rw [List.cons_append, W.findHandler_go_skip (h2 z List.mem_cons_self)]
    exact ih (fun w hw => h2 w (List.mem_cons_of_mem _ hw))
end MVC
end
section
/-! the small machine: calls -/
section
variable (G : mv_G) (y pc : Nat) (l : List (Nat × Value)) (st : List Value) (hp : List va_E) (cb sb : Nat)
def mv_callS (idx : Nat) : Option mv_R := match mv_gC G y idx with
  | some (kd, z, n) => if (kd = 0 ∨ kd = 1) ∧ n ≤ st.length then some (.inr (.inl (z, (st.take n).reverse, st.drop n, 3))) else none
  | none => none
def mv_callV (idx : Nat) : Option mv_R := match mv_gC G y idx with
  | some (kd, z, n) => match st.drop n with
    | .ref a :: r => match hp[a]? with
      | some (.inr (ci, _)) => if (kd = 2 ∨ kd = 3) ∧ ci = mv_gW G z then some (.inr (.inl (z, .ref a :: (st.take n).reverse, r, 3))) else none
      | _ => none
    | _ => none
  | none => none
def mv_callI (idx : Nat) : Option mv_R := match mv_gC G y idx with
  | some (kd, z, n) => match st.drop n with
    | .ref a :: r => if kd = 4 ∨ kd = 5 then some (.inr (.inl (z, .ref a :: (st.take n).reverse, r, 3))) else none
    | _ => none
  | none => none
end
/-- a method's code is in the tables -/
def mv_okM (Nm : Nat → MethodName) (Cd : Nat → ByteArray) (Ts : List Cond) (G : mv_G) (z : Nat) : Prop := ((Cond.code (Nm z) (Cd z) (mv_gL G z) (mv_gR G z) ∈ Ts ∧ mv_gH G z = []) ∨ Cond.codeWith (Nm z) (Cd z) (mv_gL G z) (mv_gR G z) (mv_gH G z) ∈ Ts) ∧ plainFor (Nm z) = true ∧ ((Nm z).cls ≠ "java/lang/invoke/MethodHandle" ∧ (Nm z).cls ≠ "java/lang/invoke/VarHandle")
def mv_okK (Ts : List Cond) (own : String) (idx : Nat) (x : MethodName) : Prop := Cond.methodLink own idx x ∈ Ts ∨ ∃ host : String, Cond.methodLinkNest own idx x host ∈ Ts
def mv_okN (x : MethodName) (n : Nat) : Prop := ∀ sig, parseMethodDescriptor x.desc = some sig → n = sig.parameters.length
def mv_okS (Nm : Nat → MethodName) (Ts : List Cond) (own : String) (idx z n : Nat) : Prop := mv_okK Ts own idx (Nm z) ∧ Cond.static (Nm z) ∈ Ts ∧ Cond.initialized (Nm z).cls ∈ Ts ∧ mv_okN (Nm z) n
def mv_okV (Nm : Nat → MethodName) (cl : List vw_C) (Ts : List Cond) (G : mv_G) (own : String) (idx z n : Nat) : Prop := mv_okK Ts own idx (Nm z) ∧ Cond.instanceMethod (Nm z) ∈ Ts ∧ Cond.selects (Nm z).cls (Nm z) (Nm z) ∈ Ts ∧ (∃ (T : u_T) (N : Nat), cl[mv_gW G z]? = some ((Nm z).cls, T, N)) ∧ mv_okN (Nm z) n
def mv_okI (Nm : Nat → MethodName) (Cd : Nat → ByteArray) (Ts : List Cond) (G : mv_G) (own : String) (idx z n : Nat) : Prop := mv_okK Ts own idx (Nm z) ∧ Cond.instanceMethod (Nm z) ∈ Ts ∧ (Nm z).name = "<init>" ∧ Cond.code (Nm z) (Cd z) (mv_gL G z) none ∈ Ts ∧ mv_okN (Nm z) n
/-- a method's code in a state whose tables hold its word -/
theorem mv_meth {Nm : Nat → MethodName} {Cd : Nat → ByteArray} {Ts : List Cond} {G : mv_G} {z : Nat} {s : State} {args : Array Value} (hok : mv_okM Nm Cd Ts G z) (hts : ∀ w ∈ Ts, w.before args s = true) : ∃ (mk : MethodId) (methk : Method) (ck : Code), s.methodNamed? (Nm z) = some mk ∧ s.vm.method? mk = some methk ∧ methk.code = some ck ∧ ck.code = Cd z ∧ ck.maxLocals = mv_gL G z ∧ methk.sig.returnType = mv_gR G z ∧ methk.locks = false ∧ ck.exceptionTable.toList.map mv_proj = mv_gH G z ∧ parseMethodDescriptor (Nm z).desc = some methk.sig := by
  obtain ⟨h | h, -⟩ := hok
  · obtain ⟨mk, hn⟩ := Cond.code_named (hts _ h.1)
    obtain ⟨methk, ck, h1, h2, h3, h4, h5, h6, h7, h8⟩ := Cond.code_spec hn (hts _ h.1)
    refine ⟨mk, methk, ck, hn, h1, h2, h3, h4, h5, h6, ?_, h8⟩
    have h0 : ck.exceptionTable.size = 0 := by simpa [Array.isEmpty] using h7
    have h9 : ck.exceptionTable.toList = [] := List.eq_nil_of_length_eq_zero (by simpa using h0)
    rw [h9, h.2]
    rfl
  · obtain ⟨mk, methk, ck, hn, h1, h2, h3, h4, h5, h6, h7, h8⟩ := Cond.codeWith_spec (hts _ h)
    exact ⟨mk, methk, ck, hn, h1, h2, h3, h4, h6, h7, h5, h8⟩
section MVA
variable {base : Nat} {ad dA : Nat → Nat} {D : va_G} {cl : List vw_C} {p : Program} {l : Launch} {e : Env} {R : Room} {s : State} {m : MethodId} {args : Array Value} {below : List Frame} {meth : Method} {c : Code} {cc : ByteArray} {G : mv_G} {y pc : Nat} {st : List Value} {T : State} {locs : List Loc} {cells slots : Nat} {ls : Array Slot} {Nm : Nat → MethodName} {Cd : Nat → ByteArray} {Ts : List Cond} {own : String} {idx z n : Nat}
/-- the real machine comes to the invocation of z with these arguments, r on the stack below them -/
def mv_Arr (p : Program) (l : Launch) (e : Env) (R : Room) (s : State) (m : MethodId) (args : Array Value) (below : List Frame) (meth : Method) (c : Code) (T : State) (locs : List Loc) (cells slots : Nat) (x : MethodName) (pc : Nat) (ls : Array Slot) (stk : List Value) (as r : List Value) : Prop :=
  ∃ (mk : MethodId) (vm₁ : Vm), Stand p l e R s m args below meth c (T.setVm vm₁) locs cells slots ∧ s.methodNamed? x = some mk ∧ ∀ target, Steps p.tables e below (doInvoke e ((T.setVm vm₁).setTop (F0 m pc ls r)) [] mk as.toArray).1 target → Steps p.tables e below (T.setTop (F0 m pc ls stk)) target
theorem mv_split (ad : Nat → Nat) (st : List Value) (n : Nat) : st.map (mv_v ad) = ((st.take n).reverse.map (mv_v ad)).reverse ++ (st.drop n).map (mv_v ad) := by
  rw [List.map_reverse, List.reverse_reverse, ← List.map_append, List.take_append_drop]
theorem mv_arrS (X : Stand p l e R s m args below meth c T locs cells slots) (hx : p.tables.exec = Jvm.exec) (hb : c.code = cc) (hown : s.vm.findClass own = some m.cls) (hts : ∀ w ∈ Ts, w.before args s = true) (hM : mv_okM Nm Cd Ts G z) (hok : mv_okS Nm Ts own idx z n) (hn : n ≤ st.length) (hdg : decode cc pc = .ok (.invokestatic idx, 3)) :
    mv_Arr p l e R s m args below meth c T locs cells slots (Nm z) pc ls (st.map (mv_v ad)) ((st.take n).reverse.map (mv_v ad)) ((st.drop n).map (mv_v ad)) := by
  obtain ⟨mk, methk, ck, hnm, h1, h2, h3, h4, h5, h6, h7, h8⟩ := mv_meth hM hts
  obtain ⟨hl, o1, o2, o3⟩ := hok
  have hstatic : methk.isStatic = true := Cond.static_spec hnm h1 (hts _ o1)
  obtain ⟨kP, hkP, -⟩ := className_of_methodNamed hnm
  have hinitP : kP.init = .initialized := Cond.initialized_spec (findClass_of_methodNamed hnm) hkP (hts _ o2)
  have hlen : ((st.take n).reverse.map (mv_v ad)).length = methk.sig.parameters.length := by
    rw [List.length_map, List.length_reverse, List.length_take, Nat.min_eq_left hn]
    exact o3 _ h8
  rcases hl with hl | ⟨host, hl⟩
  · obtain ⟨vm₁, X₁, st₁⟩ := X.invokestatic hx hown (hts _ hl) hnm h1 hstatic hkP hinitP hM.2.2 (g := F0 m pc ls (st.map (mv_v ad))) rfl hlen (mv_split ad st n) (by rw [hb]; exact hdg)
    exact ⟨mk, vm₁, X₁, hnm, fun target h => st₁ target fun acts => by rw [doInvoke_state]; exact h⟩
  · obtain ⟨vm₁, X₁, st₁⟩ := X.invokestaticNest hx hown (hts _ hl) hnm h1 hstatic hkP hinitP hM.2.2 (g := F0 m pc ls (st.map (mv_v ad))) rfl hlen (mv_split ad st n) (by rw [hb]; exact hdg)
    exact ⟨mk, vm₁, X₁, hnm, fun target h => st₁ target fun acts => by rw [doInvoke_state]; exact h⟩
theorem mv_split1 {ad : Nat → Nat} {st : List Value} {n a : Nat} {r : List Value} (h : st.drop n = .ref a :: r) : st.map (mv_v ad) = ((st.take n).reverse.map (mv_v ad)).reverse ++ .ref (ad a) :: r.map (mv_v ad) ∧ n ≤ st.length := by
  refine ⟨?_, ?_⟩
  · rw [mv_split ad st n, h]
    rfl
  · rcases Nat.le_total n st.length with q | q
    · exact q
    · rw [List.drop_eq_nil_of_le q] at h
      cases h
theorem mv_arrV (X : Stand p l e R s m args below meth c T locs cells slots) (hx : p.tables.exec = Jvm.exec) (hb : c.code = cc) (hown : s.vm.findClass own = some m.cls) (hts : ∀ w ∈ Ts, w.before args s = true) (hM : mv_okM Nm Cd Ts G z) (hok : mv_okV Nm cl Ts G own idx z n) {tys : List (ClassId × FieldType)} (hK : va_K D cl tys s) {a : Nat} {fs r : List Value} (hst : st.drop n = .ref a :: r) (hat : va_at D cl (ad a, .inr (mv_gW G z, fs)) T.heap) (hdg : decode cc pc = .ok (.invokevirtual idx, 3)) :
    mv_Arr p l e R s m args below meth c T locs cells slots (Nm z) pc ls (st.map (mv_v ad)) (.ref (ad a) :: (st.take n).reverse.map (mv_v ad)) (r.map (mv_v ad)) := by
  obtain ⟨mk, methk, ck, hnm, h1, h2, h3, h4, h5, h6, h7, h8⟩ := mv_meth hM hts
  obtain ⟨hl, o1, o2, ⟨T0, N0, o3⟩, o4⟩ := hok
  obtain ⟨mk', methM, hnamed, hmethM, hstM, habM⟩ := Cond.instanceMethod_spec (hts _ o1)
  cases hnm.symm.trans hnamed
  cases h1.symm.trans hmethM
  obtain ⟨hS, hfc, kC, hkC, hkind⟩ := hK.1 _ _ o3
  obtain ⟨rr, r1, cell, q1, q2, q3, q4⟩ := hat
  obtain ⟨c2, r2, m2, g1, g2, g3, g4, kP, hkP, hkPi⟩ := Cond.selects_spec (hts _ o2)
  cases hfc.symm.trans g1
  cases (State.methodFound?_of_named hnm hM.2.2).symm.trans g2
  cases hnm.symm.trans g3
  have hselP : selectMethod e.platform s.vm cell.cls mk = .method mk := by rw [Launch.admits_selectMethod X.admits, q2]; exact g4
  obtain ⟨hs1, hs2⟩ := mv_split1 (ad := ad) hst
  have hlen : ((st.take n).reverse.map (mv_v ad)).length = methk.sig.parameters.length := by
    rw [List.length_map, List.length_reverse, List.length_take, Nat.min_eq_left hs2]
    exact o4 _ h8
  rcases hl with hl | ⟨host, hl⟩
  · obtain ⟨vm₁, X₁, st₁⟩ := X.invokevirtual hx hown (hts _ hl) hnm h1 hstM hkP hkPi hM.2.2 (a := ad a) (cell := cell) q1 (fun q h => by rw [q3] at h; cases h) hselP h1 habM hkP hkPi (g := F0 m pc ls (st.map (mv_v ad))) rfl hlen hs1 (by rw [hb]; exact hdg)
    exact ⟨mk, vm₁, X₁, hnm, fun target h => st₁ target fun acts => by rw [doInvoke_state]; exact h⟩
  · obtain ⟨vm₁, X₁, st₁⟩ := X.invokevirtualNest hx hown (hts _ hl) hnm h1 hstM hkP hkPi hM.2.2 (a := ad a) (cell := cell) q1 (fun q h => by rw [q3] at h; cases h) hselP h1 habM hkP hkPi (g := F0 m pc ls (st.map (mv_v ad))) rfl hlen hs1 (by rw [hb]; exact hdg)
    exact ⟨mk, vm₁, X₁, hnm, fun target h => st₁ target fun acts => by rw [doInvoke_state]; exact h⟩
theorem mv_arrI (X : Stand p l e R s m args below meth c T locs cells slots) (hx : p.tables.exec = Jvm.exec) (hb : c.code = cc) (hown : s.vm.findClass own = some m.cls) (hts : ∀ w ∈ Ts, w.before args s = true) (hM : mv_okM Nm Cd Ts G z) (hok : mv_okI Nm Cd Ts G own idx z n) {a : Nat} {r : List Value} (hst : st.drop n = .ref a :: r) (hdg : decode cc pc = .ok (.invokespecial idx, 3)) :
    mv_Arr p l e R s m args below meth c T locs cells slots (Nm z) pc ls (st.map (mv_v ad)) (.ref (ad a) :: (st.take n).reverse.map (mv_v ad)) (r.map (mv_v ad)) := by
  obtain ⟨hl, o1, o2, o3, o4⟩ := hok
  obtain ⟨hs1, hs2⟩ := mv_split1 (ad := ad) hst
  have hlen : ∀ sig, parseMethodDescriptor (Nm z).desc = some sig → ((st.take n).reverse.map (mv_v ad)).length = sig.parameters.length := fun sig h => by
    rw [List.length_map, List.length_reverse, List.length_take, Nat.min_eq_left hs2]
    exact o4 _ h
  have hpl : e.platform.magicAccessors = ({} : Platform).magicAccessors := by rw [X.admits.platform]
  rcases hl with hl | ⟨host, hl⟩
  · obtain ⟨mk, methM, cM, kP, vm₁, hnamed, -, -, -, -, -, -, -, hW₁, st₁⟩ := Steps.initColdArgs (tb := p.tables) (e := e) X.here hx X.warmed hpl hown o2 hM.2.2 (hts _ hl) (hts _ o1) (hts _ o3) (f := F0 m pc ls (st.map (mv_v ad))) rfl hlen hs1 (by rw [hb]; exact hdg)
    exact ⟨mk, vm₁, X.noted hW₁, hnamed, fun target h => st₁ target fun acts => by rw [doInvoke_state]; exact h⟩
  · obtain ⟨mk, methM, cM, kP, vm₁, hnamed, -, -, -, -, -, -, -, hW₁, st₁⟩ := Steps.initColdArgsNest (tb := p.tables) (e := e) X.here hx X.warmed hpl hown o2 hM.2.2 (hts _ hl) (hts _ o1) (hts _ o3) (f := F0 m pc ls (st.map (mv_v ad))) rfl hlen hs1 (by rw [hb]; exact hdg)
    exact ⟨mk, vm₁, X.noted hW₁, hnamed, fun target h => st₁ target fun acts => by rw [doInvoke_state]; exact h⟩
end MVA
end
section
/-! the small machine: constants; stores of references; the premises on the tables -/
section
variable (G : mv_G) (y pc : Nat) (l : List (Nat × Value)) (st : List Value) (hp : List va_E) (cb sb : Nat)
def mv_ldc (idx len : Nat) : Option mv_R := match mv_gK G y idx with
  | some (.int v) => some (.inl (pc + len, l, .int v :: st, hp, cb, sb))
  | some (.ref a) => some (.inl (pc + len, l, .ref a :: st, hp, cb, sb))
  | _ => none
def mv_aast : Option mv_R := match st with
  | v :: .int i :: .ref a :: r => match hp[a]? with
    | some (.inl (t, n, .inr (.inr (.inr (.inr g))))) => match mv_gE G t with
      | some ci => if mv_out i n = false then match v with
          | .null => some (.inl (pc + 1, l, r, hp.set a (.inl (t, n, .inr (.inr (.inr (.inr (va_up g i.toNatClampNeg none)))))), cb, sb))
          | .ref b => match hp[b]? with
            | some (.inr (cj, _)) => if cj = ci then some (.inl (pc + 1, l, r, hp.set a (.inl (t, n, .inr (.inr (.inr (.inr (va_up g i.toNatClampNeg (some b))))))), cb, sb)) else none
            | _ => none
          | _ => none
        else none
      | none => none
    | _ => none
  | _ => none
end
/-- the types of arrays -/
def mv_okL (L : List FieldType) (Ts : List Cond) (G : mv_G) : Prop := L[0]? = some .int ∧ L[1]? = some .byte ∧ L[2]? = some .boolean ∧ Cond.arrayClass .int ∈ Ts ∧ Cond.arrayClass .byte ∈ Ts ∧ Cond.arrayClass .boolean ∈ Ts ∧ ∀ t ty, mv_gY G t = some ty → L[t]? = some ty
/-- the class of the places of an array of objects -/
def mv_okE (cl : List vw_C) (L : List FieldType) (G : mv_G) : Prop := ∀ t ci, mv_gE G t = some ci → ∃ (C : String) (T : u_T) (N : Nat), cl[ci]? = some (C, T, N) ∧ L[t]? = some (.object C)
/-- constants of text, as a state has them -/
def mv_okT (Nm : Nat → MethodName) (G : mv_G) (kt : Nat → Nat) (s : State) (y : Nat) : Prop := ∀ idx a, mv_gK G y idx = some (.ref a) → mv_big ≤ a ∧ ∃ tx : String, vk_R (Nm y).cls idx tx (kt (a - mv_big)) s
def mv_okQ (Nm : Nat → MethodName) (cl : List vw_C) (Ts : List Cond) (y idx ci k : Nat) : Prop := ∃ (C : String) (T : u_T) (N : Nat), cl[ci]? = some (C, T, N) ∧ (T k).1 = (Nm y).cls ∧ Cond.fieldLink (Nm y).cls idx (T k).1 (T k).2.1 (T k).2.2.1 ∈ Ts ∧ (Nm y).name = "<init>"
theorem mv_okP_of {Nm : Nat → MethodName} {cl : List vw_C} {Ts : List Cond} {y idx ci k : Nat} {meth : Method} (hname : meth.name = (Nm y).name) (h : mv_okQ Nm cl Ts y idx ci k) : mv_okP cl Ts meth (Nm y).cls idx ci k := by
  obtain ⟨C, T, N, h1, h2, h3, h4⟩ := h
  exact ⟨C, T, N, h1, h2, h3, hname.trans h4⟩
/-- a constant pool number of arrays of arrays: of two dimensions (types t, t1), or of three -/
def mv_okGr (L : List FieldType) (Ts : List Cond) (own : String) (idx t t1 t2 : Nat) : Prop := ∃ ty : FieldType, (ty = .int ∨ ty = .byte) ∧ Cond.arrayClass ty ∈ Ts ∧ ((t2 = 0 ∧ L[t]? = some (.array ty) ∧ L[t1]? = some ty ∧ Cond.arrayOver (.array ty) ∈ Ts ∧ Cond.classLink own idx ("[" ++ (FieldType.array ty).toString) ∈ Ts) ∨ (0 < t2 ∧ L[t]? = some (.array (.array ty)) ∧ L[t1]? = some (.array ty) ∧ L[t2]? = some ty ∧ Cond.arrayOver (.array (.array ty)) ∈ Ts ∧ Cond.arrayOver (.array ty) ∈ Ts ∧ Cond.classLink own idx ("[" ++ (FieldType.array (.array ty)).toString) ∈ Ts))
/-- the tables are right: instructions; fields; new; new arrays; constants; arrays of arrays; calls; handlers -/
def mv_okG (Nm : Nat → MethodName) (Cd : Nat → ByteArray) (cl : List vw_C) (L : List FieldType) (Ts : List Cond) (G : mv_G) : Prop :=
  (∀ y pc i n, mv_gI G y pc = some (i, n) → decode (Cd y) pc = .ok (i, n)) ∧
  (∀ y idx ci k, mv_gF G y idx = some (ci, k) → mv_okF cl Ts (Nm y).cls idx ci k ∧ mv_okC cl Ts G ci ∧ (mv_gP G ci k = true → mv_gQ G y ci = true → mv_okQ Nm cl Ts y idx ci k)) ∧
  (∀ y idx ci, mv_gN G y idx = some ci → mv_okC cl Ts G ci ∧ ∀ (C : String) (T : u_T) (N : Nat), cl[ci]? = some (C, T, N) → Cond.classLink (Nm y).cls idx C ∈ Ts ∧ Cond.instantiable C (mv_gZ G ci) ∈ Ts ∧ Cond.initialized C ∈ Ts) ∧
  (∀ y idx t, mv_gA G y idx = some t → (∃ C : String, L[t]? = some (.object C) ∧ Cond.classLink (Nm y).cls idx C ∈ Ts ∧ Cond.arrayOver (.object C) ∈ Ts) ∨ ∃ ty : FieldType, L[t]? = some (.array ty) ∧ Cond.classLink (Nm y).cls idx (FieldType.array ty).toString ∈ Ts ∧ Cond.arrayOver (.array ty) ∈ Ts) ∧
  (∀ y idx v, mv_gK G y idx = some (.int v) → Cond.constant (Nm y).cls idx v ∈ Ts) ∧
  (∀ y idx t t1 t2, mv_gM G y idx = some (t, t1, t2) → mv_okGr L Ts (Nm y).cls idx t t1 t2) ∧
  (∀ y idx kd z n, mv_gC G y idx = some (kd, z, n) → (kd = 0 ∨ kd = 1 → mv_okM Nm Cd Ts G z ∧ mv_okS Nm Ts (Nm y).cls idx z n) ∧ (kd = 2 ∨ kd = 3 → mv_okM Nm Cd Ts G z ∧ mv_okV Nm cl Ts G (Nm y).cls idx z n) ∧ (kd = 4 ∨ kd = 5 → mv_okM Nm Cd Ts G z ∧ mv_okI Nm Cd Ts G (Nm y).cls idx z n)) ∧
  (∀ y pc h ct, mv_hand (mv_gH G y) pc = some (h, ct) → ct ≠ 0 ∧ ∃ (C : String) (T : u_T) (N : Nat), cl[mv_gX G]? = some (C, T, N) ∧ Cond.classLink (Nm y).cls ct C ∈ Ts)
section MVL
variable {base : Nat} {kt dA : Nat → Nat} {D : va_G} {cl : List vw_C} {nL : Nat} {p : Program} {l : Launch} {e : Env} {R : Room} {s : State} {m : MethodId} {args : Array Value} {below : List Frame} {meth : Method} {c : Code} {Q : State → Prop} {cc : ByteArray} {G : mv_G} {y pc : Nat} {lo : List (Nat × Value)} {st : List Value} {hp : List va_E} {cb sb : Nat} {S : mv_S} {Nm : Nat → MethodName} {Ts : List Cond} {L : List FieldType}
theorem mv_ldcwS {H : Heap} {locs : List Loc} {cells slots : Nat} {ls : Array Slot} {rest : List Value} (hx : p.tables.exec = Jvm.exec) (hb : c.code = cc) {own tx : String} {index q : Nat} (hown : s.vm.findClass own = some m.cls) (hZ : vk_R own index tx q s) (hdg : decode cc pc = .ok (.ldc_w index, 3))
    (k : W p l e R s m args below meth c H locs cells slots Q (F0 m (pc + 3) ls (.ref q :: rest))) : W p l e R s m args below meth c H locs cells slots Q (F0 m pc ls rest) := by
  intro T hT X
  obtain ⟨t, a1, b1⟩ := k T hT X
  obtain ⟨kk, cf, i, a', hk, hcf, hcp, -, hr, hev'⟩ := Cond.stringRef_spec hown hZ.1
  cases hZ.2.symm.trans hev'
  obtain ⟨k', hk', he⟩ := X.warmed.alike.2.2 _ _ hk
  have hr' : k'.resolved[index]? = some (some (.string q)) := by
    rcases X.warmed.entry hk hk' index with h | ⟨h, -⟩
    · rw [h]; exact hr
    · rw [hr] at h; cases h
  refine ⟨t, ?_, b1⟩
  jvm_step X.here [X.here.top, hx, hb, hdg, ldc_w.wp_string (e := e) (s := T) (f := F0 m pc ls rest) X.here.top hk' (by rw [he]; exact hcf) hcp hr']
  exact a1
theorem mv_ldc_v {idx len : Nat} (hok : ∀ v, mv_gK G y idx = some (.int v) → Cond.constant (Nm y).cls idx v ∈ Ts) (hT : ∀ a, mv_gK G y idx = some (.ref a) → mv_big ≤ a ∧ ∃ tx : String, vk_R (Nm y).cls idx tx (kt (a - mv_big)) s) (h : mv_ldc G y pc lo st hp cb sb idx len = some (.inl S)) : (∃ v, S = (pc + len, lo, .int v :: st, hp, cb, sb) ∧ Cond.constant (Nm y).cls idx v ∈ Ts) ∨ ∃ (a : Nat) (tx : String), S = (pc + len, lo, .ref a :: st, hp, cb, sb) ∧ mv_ad base kt a = kt (a - mv_big) ∧ vk_R (Nm y).cls idx tx (kt (a - mv_big)) s := by
  unfold mv_ldc at h
  split at h
  · rename_i v hv
    cases h
    exact Or.inl ⟨v, rfl, hok _ hv⟩
  · rename_i a hv
    cases h
    obtain ⟨h1, tx, h2⟩ := hT _ hv
    exact Or.inr ⟨a, tx, rfl, by rw [mv_ad, if_neg (by omega)], h2⟩
  · cases h
theorem mr_ldc (hx : p.tables.exec = Jvm.exec) (hb : c.code = cc) (hts : ∀ w ∈ Ts, w.before args s = true) (hown : s.vm.findClass (Nm y).cls = some m.cls) {idx : Nat} (hdg : decode cc pc = .ok (.ldc idx, 2)) (hok : ∀ v, mv_gK G y idx = some (.int v) → Cond.constant (Nm y).cls idx v ∈ Ts) (hT : ∀ a, mv_gK G y idx = some (.ref a) → mv_big ≤ a ∧ ∃ tx : String, vk_R (Nm y).cls idx tx (kt (a - mv_big)) s)
    (h : mv_ldc G y pc lo st hp cb sb idx 2 = some (.inl S)) (k : mv_K base (mv_ad base kt) dA D cl nL p l e R s m args below meth c Q S) : mv_K base (mv_ad base kt) dA D cl nL p l e R s m args below meth c Q (pc, lo, st, hp, cb, sb) := by
  intro H ls locs cells slots I
  rcases mv_ldc_v (base := base) hok hT h with ⟨v, rfl, hc⟩ | ⟨a, tx, rfl, ha, hc⟩
  · exact lv_ldc hx hb hown (hts _ hc) hdg (k H ls locs cells slots I)
  · have hk := k H ls locs cells slots I
    refine va_ldcS hx hb hown hc hdg ?_
    rw [← ha]
    exact hk
theorem mr_ldcw (hx : p.tables.exec = Jvm.exec) (hb : c.code = cc) (hts : ∀ w ∈ Ts, w.before args s = true) (hown : s.vm.findClass (Nm y).cls = some m.cls) {idx : Nat} (hdg : decode cc pc = .ok (.ldc_w idx, 3)) (hok : ∀ v, mv_gK G y idx = some (.int v) → Cond.constant (Nm y).cls idx v ∈ Ts) (hT : ∀ a, mv_gK G y idx = some (.ref a) → mv_big ≤ a ∧ ∃ tx : String, vk_R (Nm y).cls idx tx (kt (a - mv_big)) s)
    (h : mv_ldc G y pc lo st hp cb sb idx 3 = some (.inl S)) (k : mv_K base (mv_ad base kt) dA D cl nL p l e R s m args below meth c Q S) : mv_K base (mv_ad base kt) dA D cl nL p l e R s m args below meth c Q (pc, lo, st, hp, cb, sb) := by
  intro H ls locs cells slots I
  rcases mv_ldc_v (base := base) hok hT h with ⟨v, rfl, hc⟩ | ⟨a, tx, rfl, ha, hc⟩
  · exact lv_ldcw hx hb hown (hts _ hc) hdg (k H ls locs cells slots I)
  · have hk := k H ls locs cells slots I
    refine mv_ldcwS hx hb hown hc hdg ?_
    rw [← ha]
    exact hk
theorem mv_up_map (f : Nat → Option Nat) (k : Nat) (v : Option Nat) (ad : Nat → Nat) : (fun i => (va_up f k v i).map ad) = va_up (fun i => (f i).map ad) k (v.map ad) := by
  funext i
  unfold va_up
  split <;> rfl
theorem mr_aast (hx : p.tables.exec = Jvm.exec) (hb : c.code = cc) (hK : va_K D cl (mv_tys dA L) s) (hE : mv_okE cl L G) (hdg : decode cc pc = .ok (.aastore, 1))
    (h : mv_aast G pc lo st hp cb sb = some (.inl S)) (k : mv_K base (mv_ad base kt) dA D cl nL p l e R s m args below meth c Q S) : mv_K base (mv_ad base kt) dA D cl nL p l e R s m args below meth c Q (pc, lo, st, hp, cb, sb) := by
  intro H ls locs cells slots I
  unfold mv_aast at h
  split at h
  · rename_i v i a r
    split at h
    · rename_i t n g he
      split at h
      · rename_i ci hci
        split at h
        · rename_i ho
          have hin : vp_in i n := fun q => of_decide_eq_false ho q
          have hlt : i.toNatClampNeg < n := Nat.not_le.mp fun q => hin (Or.inr q)
          have h0 : ¬ i < 0 := fun q => hin (Or.inl q)
          obtain ⟨C, T0, N, hC, hLt⟩ := hE _ _ hci
          obtain ⟨t0, ht0⟩ := mv_tys_mem (dA := dA) hLt
          obtain ⟨hat, -, -⟩ := mv_inv_at I he
          have fin : ∀ (H1 : Heap) (o : Option Nat) (i9 : Nat), H1[mv_ad base kt a]? = some ((vp_cell (dA t) (n, .inr (.inr (.inr (.inr (fun i => (g i).map (mv_ad base kt))))))).setSlot i.toNatClampNeg (va_rf (o.map (mv_ad base kt)))) → H1.size = H.size → (∀ q : Nat, q ≠ mv_ad base kt a → H1[q]? = H[q]?) → mv_inv base (mv_ad base kt) dA D cl nL R s (pc + 1, lo, r, hp.set a (.inl (t, n, .inr (.inr (.inr (.inr (va_up g i.toNatClampNeg o)))))), cb, sb) H1 ls (locs ++ [⟨mv_ad base kt a, i9⟩]) cells slots := by
            intro H1 o i9 e1 z oq
            refine mv_inv_put I he ?_ z oq
            show H1[mv_ad base kt a]? = some (vp_cell (dA t) (n, .inr (.inr (.inr (.inr (fun j => (va_up g i.toNatClampNeg o j).map (mv_ad base kt)))))))
            rw [e1, mv_up_map, vp_cell_q, vp_cell_q, arrV_store]
            congr 2
            funext q
            by_cases hq : q = i.toNatClampNeg
            · subst hq
              simp [updV, va_up]
            · simp [updV, va_up, hq]
          split at h
          · cases h
            refine va_WaastN (C := C) hx hb hat ((hK.2 t0 _ ht0).1 n (fun j => va_rf ((g j).map (mv_ad base kt)))) (fun q => by cases q) (by show ¬ (i < 0 ∨ (arrV _ _ _).slots.size ≤ _); rw [arrV_size]; exact hin) rfl rfl hdg fun H1 e1 z oq => k H1 ls _ cells slots (fin H1 none _ e1 z oq)
          · rename_i b
            split at h
            · rename_i cj fs hb0
              split at h
              · rename_i hcj
                subst hcj
                cases h
                obtain ⟨hbt, -, -⟩ := mv_inv_at I hb0
                obtain ⟨rr, r1, cellV, g1, g2, g3, -⟩ := hbt
                have hcls := (hK.1 cj _ hC).2
                obtain ⟨kA, comp, k1, k2, k3, -⟩ := (hK.2 t0 _ ht0).2
                have hcomp : comp = D.1 cj := Option.some.inj (k3.symm.trans hcls.1)
                subst hcomp
                obtain ⟨kC, hkC, -⟩ := hcls.2
                refine W.aast hx hb hat (fun q h => by cases h) (fun h => by cases h) k1 k2 rfl hkC ⟨h0, by show _ < (arrV _ _ _).slots.size; rw [arrV_size]; exact hlt⟩ g1 (fun q h => by rw [g3] at h; cases h) (by rw [g2]; exact hkC) (by rw [g2]; exact va_assign hcls) rfl rfl hdg fun H1 e1 z oq => k H1 ls _ cells slots (fin H1 (some b) _ e1 z oq)
              · cases h
            · cases h
          · cases h
        · cases h
      · cases h
    · cases h
  · cases h
end MVL
end
section
/-! the small machine: arrays of arrays -/
/-- n rows of k numbers, behind the pointers below q -/
def mv_rows (t1 k : Nat) (n : Nat) : List va_E := List.replicate n (.inl (t1, k, .inl (fun _ => 0)))
def mv_outer (t n q w : Nat) : va_E := .inl (t, n, .inr (.inr (.inr (.inr (fun i => if i < n then some (q + i * w) else none)))))
def mv_grid2 (t t1 n k q : Nat) : List va_E := mv_outer t n (q + 1) 1 :: mv_rows t1 k n
def mv_blocks (t1 t2 k j q : Nat) : Nat → List va_E
  | 0 => []
  | i + 1 => mv_blocks t1 t2 k j q i ++ mv_grid2 t1 t2 k j (q + i * (k + 1))
def mv_grid3 (t t1 t2 n k j q : Nat) : List va_E := mv_outer t n (q + 1) (k + 1) :: mv_blocks t1 t2 k j (q + 1) n
def mv_multi (G : mv_G) (y pc : Nat) (l : List (Nat × Value)) (st : List Value) (hp : List va_E) (cb sb idx d : Nat) : Option mv_R := match mv_gM G y idx with
  | some (t, t1, t2) => match st with
    | .int k :: .int n :: r => if d = 2 then
        if t2 = 0 ∧ ¬ n < 0 ∧ ¬ k < 0 ∧ n.toNatClampNeg ≤ 65536 ∧ k.toNatClampNeg ≤ 65536 ∧ 1 + n.toNatClampNeg ≤ cb ∧ n.toNatClampNeg + n.toNatClampNeg * k.toNatClampNeg ≤ sb then
          some (.inl (pc + 4, l, .ref hp.length :: r, hp ++ mv_grid2 t t1 n.toNatClampNeg k.toNatClampNeg hp.length, cb - (1 + n.toNatClampNeg), sb - (n.toNatClampNeg + n.toNatClampNeg * k.toNatClampNeg)))
        else none
      else match r with
        | .int z :: r => if d = 3 ∧ 0 < t2 ∧ ¬ z < 0 ∧ ¬ n < 0 ∧ ¬ k < 0 ∧ z.toNatClampNeg ≤ 65536 ∧ n.toNatClampNeg ≤ 65536 ∧ k.toNatClampNeg ≤ 65536 ∧ 1 + z.toNatClampNeg * (n.toNatClampNeg + 1) ≤ cb ∧ z.toNatClampNeg + z.toNatClampNeg * (n.toNatClampNeg + n.toNatClampNeg * k.toNatClampNeg) ≤ sb then
            some (.inl (pc + 4, l, .ref hp.length :: r, hp ++ mv_grid3 t t1 t2 z.toNatClampNeg n.toNatClampNeg k.toNatClampNeg hp.length, cb - (1 + z.toNatClampNeg * (n.toNatClampNeg + 1)), sb - (z.toNatClampNeg + z.toNatClampNeg * (n.toNatClampNeg + n.toNatClampNeg * k.toNatClampNeg))))
          else none
        | _ => none
    | _ => none
  | none => none
theorem mv_grid2_len (t t1 n k q : Nat) : (mv_grid2 t t1 n k q).length = 1 + n := by
  unfold mv_grid2 mv_rows
  rw [List.length_cons, List.length_replicate]
  omega
theorem mv_blocks_len (t1 t2 k j q : Nat) : ∀ n, (mv_blocks t1 t2 k j q n).length = n * (k + 1)
  | 0 => by rw [Nat.zero_mul]; rfl
  | n + 1 => by
    unfold mv_blocks
    rw [List.length_append, mv_blocks_len t1 t2 k j q n, mv_grid2_len, Nat.succ_mul]
    omega
theorem mv_blocks_at (t1 t2 k j q : Nat) : ∀ (n x : Nat) (e : va_E), (mv_blocks t1 t2 k j q n)[x]? = some e → ∃ i r, i < n ∧ x = i * (k + 1) + r ∧ (mv_grid2 t1 t2 k j (q + i * (k + 1)))[r]? = some e
  | 0, x, e, h => by simp [mv_blocks] at h
  | n + 1, x, e, h => by
    unfold mv_blocks at h
    by_cases hx : x < n * (k + 1)
    · rw [List.getElem?_append_left (by rw [mv_blocks_len]; exact hx)] at h
      obtain ⟨i, r, h1, h2, h3⟩ := mv_blocks_at t1 t2 k j q n x e h
      exact ⟨i, r, by omega, h2, h3⟩
    · rw [List.getElem?_append_right (by rw [mv_blocks_len]; omega), mv_blocks_len] at h
      exact ⟨n, x - n * (k + 1), by omega, by omega, h⟩
theorem mv_grid2_at {t t1 n k q r : Nat} {e : va_E} (h : (mv_grid2 t t1 n k q)[r]? = some e) : (r = 0 ∧ e = mv_outer t n (q + 1) 1) ∨ ∃ x, x < n ∧ r = x + 1 ∧ e = .inl (t1, k, .inl (fun _ => 0)) := by
  unfold mv_grid2 mv_rows at h
  cases r with
  | zero =>
    cases h
    exact Or.inl ⟨rfl, rfl⟩
  | succ x =>
    rw [List.getElem?_cons_succ, List.getElem?_replicate] at h
    split at h
    · rename_i hx
      cases h
      exact Or.inr ⟨x, hx, rfl, rfl⟩
    · cases h
/-- the outer row of a grid, its first i places laid, w apart -/
def mv_oC (c : ClassId) (N h0 w : Nat) : Nat → Cell
  | 0 => { cls := c, slots := Array.replicate N .null, vm := .none }
  | i + 1 => (mv_oC c N h0 w i).setSlot i (.ref (h0 + 1 + i * w))
theorem mv_oC_eq (c : ClassId) (N h0 w : Nat) : ∀ i : Nat, mv_oC c N h0 w i = arrV c N (fun j => if j < i then .ref (h0 + 1 + j * w) else .null)
  | 0 => by
    show ({ cls := c, slots := Array.replicate N .null, vm := .none } : Cell) = _
    rw [arrV_new]
    refine congrArg (arrV c N) (funext fun j => ?_)
    simp
  | i + 1 => by
    show (mv_oC c N h0 w i).setSlot i (.ref (h0 + 1 + i * w)) = _
    rw [mv_oC_eq c N h0 w i, arrV_store]
    refine congrArg (arrV c N) (funext fun j => ?_)
    by_cases e : j = i
    · subst e
      simp [updV]
    · by_cases h : j < i
      · simp [updV, e, h, Nat.lt_succ_of_lt h]
      · simp [updV, e, h, show ¬ j < i + 1 by omega]
theorem mv_outer1 (c : ClassId) (N h0 : Nat) : ∀ i : Nat, Jvm.Free.Multi.outerC c N h0 i = mv_oC c N h0 1 i
  | 0 => rfl
  | i + 1 => by
    show (Jvm.Free.Multi.outerC c N h0 i).setSlot i (.ref (h0 + 1 + i)) = (mv_oC c N h0 1 i).setSlot i (.ref (h0 + 1 + i * 1))
    rw [mv_outer1 c N h0 i, Nat.mul_one]
theorem mv_oC_facts (c : ClassId) (N h0 w i : Nat) : (mv_oC c N h0 w i).cls = c ∧ (mv_oC c N h0 w i).vm = .none ∧ (mv_oC c N h0 w i).slots.size = N := by
  rw [mv_oC_eq]
  exact ⟨rfl, rfl, arrV_size _ _ _⟩
/-- an outer row in the small machine's words -/
theorem mv_outer_cell {base : Nat} {kt dA : Nat → Nat} {D : va_G} {cl : List vw_C} {H1 : Heap} {a t n q w h0 : Nat} (h : H1[a]? = some (mv_oC (dA t) n h0 w n)) (hq : ∀ i, i < n → mv_ad base kt (q + i * w) = h0 + 1 + i * w) : va_at D cl (a, mv_e (mv_ad base kt) dA (mv_outer t n q w)) H1 := by
  show H1[a]? = some (vp_cell (dA t) (n, .inr (.inr (.inr (.inr (fun i => (if i < n then some (q + i * w) else none).map (mv_ad base kt)))))))
  rw [h, mv_oC_eq, vp_cell_q]
  congr 2
  funext j
  by_cases hj : j < n
  · rw [if_pos hj, if_pos hj, Option.map_some, hq j hj]
    rfl
  · rw [if_neg hj, if_neg hj]
    rfl
theorem mv_inner_cell {base : Nat} {kt dA : Nat → Nat} {D : va_G} {cl : List vw_C} {H1 : Heap} {a t k : Nat} {dv : Value} (hd : dv = .int 0) (h : H1[a]? = some (Jvm.Free.Multi.innerC (dA t) k dv)) : va_at D cl (a, mv_e (mv_ad base kt) dA (.inl (t, k, .inl (fun _ => 0)))) H1 := by
  show H1[a]? = some (vp_cell (dA t) (k, .inl (fun _ => 0)))
  rw [h, vp_cell_i, hd]
  show some ({ cls := dA t, slots := Array.replicate k (.int 0), vm := .none } : Cell) = _
  rw [arrV_new]
/-! grids of three dimensions, in the real machine -/
def mv_f3 (s : State) (c c1 c2 : ClassId) (N K M : Nat) (dv : Value) : Nat → State
  | 0 => s.pushCell (mv_oC c N s.heap.size (K + 1) 0)
  | i + 1 => (Jvm.Free.Multi.fill (mv_f3 s c c1 c2 N K M dv i) c1 c2 K M dv K).setCell s.heap.size (mv_oC c N s.heap.size (K + 1) (i + 1))
theorem mv_f3_facts (s : State) (c c1 c2 : ClassId) (N K M : Nat) (dv : Value) : ∀ i, (mv_f3 s c c1 c2 N K M dv i).heap.size = s.heap.size + 1 + i * (K + 1) ∧ (mv_f3 s c c1 c2 N K M dv i).heap[s.heap.size]? = some (mv_oC c N s.heap.size (K + 1) i) ∧ (mv_f3 s c c1 c2 N K M dv i).vm = s.vm ∧ (mv_f3 s c c1 c2 N K M dv i).slotsUsed = s.slotsUsed + N + i * (K + K * M)
  | 0 => ⟨by simp [mv_f3], by simp [mv_f3], rfl, by simp [mv_f3, mv_oC]⟩
  | i + 1 => by
    obtain ⟨a, b, d, u⟩ := mv_f3_facts s c c1 c2 N K M dv i
    obtain ⟨f1, f2, f3, f4⟩ := Jvm.Free.Multi.fill_facts (mv_f3 s c c1 c2 N K M dv i) c1 c2 K M dv K
    have hlt : s.heap.size < (mv_f3 s c c1 c2 N K M dv i).heap.size := by omega
    have fo := Jvm.Free.Multi.fill_old (mv_f3 s c c1 c2 N K M dv i) c1 c2 K M dv hlt K
    have hb' : (Jvm.Free.Multi.fill (mv_f3 s c c1 c2 N K M dv i) c1 c2 K M dv K).heap[s.heap.size]? = some (mv_oC c N s.heap.size (K + 1) i) := fo.trans b
    refine ⟨?_, State.heap_setCell_self hb', ?_, ?_⟩
    · show ((Jvm.Free.Multi.fill (mv_f3 s c c1 c2 N K M dv i) c1 c2 K M dv K).setCell _ _).heap.size = _
      rw [size_setCell, f1, a, Nat.succ_mul]
      omega
    · show (Jvm.Free.Multi.fill (mv_f3 s c c1 c2 N K M dv i) c1 c2 K M dv K).vm = _
      rw [f3, d]
    · show (Jvm.Free.Multi.fill (mv_f3 s c c1 c2 N K M dv i) c1 c2 K M dv K).slotsUsed = _
      rw [f4, u, Nat.succ_mul]
      omega
theorem mv_f3_old (s : State) (c c1 c2 : ClassId) (N K M : Nat) (dv : Value) {a : Addr} (ha : a < s.heap.size) : ∀ i, (mv_f3 s c c1 c2 N K M dv i).heap[a]? = s.heap[a]?
  | 0 => State.heap_pushCell_of_lt _ _ ha
  | i + 1 => by
    have f1 := (mv_f3_facts s c c1 c2 N K M dv i).1
    show ((Jvm.Free.Multi.fill (mv_f3 s c c1 c2 N K M dv i) c1 c2 K M dv K).setCell s.heap.size _).heap[a]? = _
    have hlt : a < (mv_f3 s c c1 c2 N K M dv i).heap.size := Nat.lt_of_lt_of_le ha (by rw [f1]; omega)
    rw [State.heap_setCell_other (Nat.ne_of_gt ha), Jvm.Free.Multi.fill_old (mv_f3 s c c1 c2 N K M dv i) c1 c2 K M dv hlt K]
    exact mv_f3_old s c c1 c2 N K M dv ha i
theorem mv_f3_rows (s : State) (c c1 c2 : ClassId) (N K M : Nat) (dv : Value) : ∀ i j, j < i → (mv_f3 s c c1 c2 N K M dv i).heap[s.heap.size + 1 + j * (K + 1)]? = some (mv_oC c1 K (s.heap.size + 1 + j * (K + 1)) 1 K) ∧ ∀ x, x < K → (mv_f3 s c c1 c2 N K M dv i).heap[s.heap.size + 1 + j * (K + 1) + 1 + x]? = some (Jvm.Free.Multi.innerC c2 M dv)
  | 0, _, h => absurd h (Nat.not_lt_zero _)
  | i + 1, j, h => by
    have f1 := (mv_f3_facts s c c1 c2 N K M dv i).1
    obtain ⟨g1, g2, -, -⟩ := Jvm.Free.Multi.fill_facts (mv_f3 s c c1 c2 N K M dv i) c1 c2 K M dv K
    have goal : ∀ a, a ≠ s.heap.size → (mv_f3 s c c1 c2 N K M dv (i + 1)).heap[a]? = (Jvm.Free.Multi.fill (mv_f3 s c c1 c2 N K M dv i) c1 c2 K M dv K).heap[a]? := fun a ha => State.heap_setCell_other (Ne.symm ha)
    rcases Nat.lt_or_ge j i with hj | hj
    · obtain ⟨r1, r2⟩ := mv_f3_rows s c c1 c2 N K M dv i j hj
      have hm : (j + 1) * (K + 1) ≤ i * (K + 1) := Nat.mul_le_mul_right _ hj
      rw [Nat.succ_mul] at hm
      refine ⟨?_, fun x hx => ?_⟩
      · rw [goal (s.heap.size + 1 + j * (K + 1)) (by omega), Jvm.Free.Multi.fill_old (mv_f3 s c c1 c2 N K M dv i) c1 c2 K M dv (show s.heap.size + 1 + j * (K + 1) < (mv_f3 s c c1 c2 N K M dv i).heap.size by rw [f1]; omega) K]
        exact r1
      · rw [goal (s.heap.size + 1 + j * (K + 1) + 1 + x) (by omega), Jvm.Free.Multi.fill_old (mv_f3 s c c1 c2 N K M dv i) c1 c2 K M dv (show s.heap.size + 1 + j * (K + 1) + 1 + x < (mv_f3 s c c1 c2 N K M dv i).heap.size by rw [f1]; omega) K]
        exact r2 x hx
    · have e : j = i := by omega
      subst e
      refine ⟨?_, fun x hx => ?_⟩
      · rw [goal (s.heap.size + 1 + j * (K + 1)) (by omega), ← f1, g2, mv_outer1]
      · rw [goal (s.heap.size + 1 + j * (K + 1) + 1 + x) (by omega), ← f1]
        exact Jvm.Free.Multi.fill_inner (mv_f3 s c c1 c2 N K M dv j) c1 c2 K M dv K x hx
theorem mv_f3_setTop (s : State) (f : JFrame) (c c1 c2 : ClassId) (N K M : Nat) (dv : Value) : ∀ i, mv_f3 (s.setTop f) c c1 c2 N K M dv i = (mv_f3 s c c1 c2 N K M dv i).setTop f
  | 0 => rfl
  | i + 1 => by simp only [mv_f3, mv_f3_setTop s f c c1 c2 N K M dv i, Jvm.Free.Multi.fill_setTop, State.heap_setTop, State.setCell_setTop]
theorem mv_stand3 {p : Program} {l : Launch} {e : Env} {R : Room} {s : State} {m : MethodId} {args : Array Value} {below : List Frame} {meth : Method} {c : Code} {T : State} {locs : List Loc} {cells slots : Nat} (X : Stand p l e R s m args below meth c T locs cells slots) (cA c1 c2 : ClassId) (N K M : Nat) (dv : Value) :
    ∀ i, ∃ locs', (∀ q ∈ locs', q ∈ locs ∨ T.heap.size ≤ q.base) ∧ Stand p l e R s m args below meth c (mv_f3 T cA c1 c2 N K M dv i) locs' (cells + 1 + i * (K + 1)) (slots + N + i * (K + K * M))
  | 0 => by
    have h := X.pushed (mv_oC cA N T.heap.size (K + 1) 0)
    rw [(mv_oC_facts cA N T.heap.size (K + 1) 0).2.2] at h
    exact ⟨locs, fun q hq => Or.inl hq, by simpa [mv_f3] using h⟩
  | i + 1 => by
    obtain ⟨locs', hl, Xi⟩ := mv_stand3 X cA c1 c2 N K M dv i
    obtain ⟨f1, f2, f3, f4⟩ := mv_f3_facts T cA c1 c2 N K M dv i
    have hlt0 : T.heap.size < (mv_f3 T cA c1 c2 N K M dv i).heap.size := by rw [f1]; omega
    have h2 := Xi.filled c1 c2 K M dv K
    have hcell : (Jvm.Free.Multi.fill (mv_f3 T cA c1 c2 N K M dv i) c1 c2 K M dv K).heap[T.heap.size]? = some (mv_oC cA N T.heap.size (K + 1) i) := (Jvm.Free.Multi.fill_old (mv_f3 T cA c1 c2 N K M dv i) c1 c2 K M dv hlt0 K).trans f2
    have h3 := h2.stored hcell i (.ref (T.heap.size + 1 + i * (K + 1)))
    refine ⟨(locs' ++ (List.range K).map fun j => ⟨(mv_f3 T cA c1 c2 N K M dv i).heap.size, j⟩) ++ [⟨T.heap.size, i⟩], fun q hq => ?_, ?_⟩
    rotate_left
    · have e3 : cells + 1 + (i + 1) * (K + 1) = cells + 1 + i * (K + 1) + 1 + K := by rw [Nat.succ_mul]; omega
      have e4 : slots + N + (i + 1) * (K + K * M) = slots + N + i * (K + K * M) + K + K * M := by rw [Nat.succ_mul]; omega
      rw [e3, e4]
      exact h3
    · rcases List.mem_append.mp hq with hq | hq
      · rcases List.mem_append.mp hq with hq | hq
        · exact hl q hq
        · obtain ⟨j, -, rfl⟩ := List.mem_map.mp hq
          exact Or.inr (Nat.le_of_lt hlt0)
      · have := List.mem_singleton.mp hq
        subst this
        exact Or.inr (Nat.le_refl _)
theorem mv_make3 {Et : CtlPost} {e : Env} {d : Bool} {acts : List Action} {s : State} {c c1 c2 cc : ClassId} {k0 k1 k2 : Class} {t0 t1 type : FieldType} {n k m : Int32} (hk : s.vm.classes[c]? = some k0) (hkind : k0.kind = .array c1 t0) (href : t0.isReference = true)
    (hk1 : s.vm.classes[c1]? = some k1) (hkind1 : k1.kind = .array c2 t1) (href1 : t1.isReference = true) (hk2 : s.vm.classes[c2]? = some k2) (hkind2 : k2.kind = .array cc type) (hn : ¬ n < 0) (hkk : ¬ k < 0) (hm : ¬ m < 0)
    (hl0 : ¬ n.toNatClampNeg > e.platform.arrayLengthLimit) (hh0 : ¬ n.toNatClampNeg * componentBytes t0 > e.platform.maxHeapBytes)
    (hl1 : ¬ k.toNatClampNeg > e.platform.arrayLengthLimit) (hh1 : ¬ k.toNatClampNeg * componentBytes t1 > e.platform.maxHeapBytes)
    (hl2 : ¬ m.toNatClampNeg > e.platform.arrayLengthLimit) (hh2 : ¬ m.toNatClampNeg * componentBytes type > e.platform.maxHeapBytes)
    (hdf : fits type (defaultValue type) = true) (hdd : (defaultValue type).isDefault = true)
    (hc : s.heap.size + 1 + n.toNatClampNeg * (k.toNatClampNeg + 1) ≤ e.platform.maxCells) (hs : s.slotsUsed + n.toNatClampNeg + n.toNatClampNeg * (k.toNatClampNeg + k.toNatClampNeg * m.toNatClampNeg) ≤ e.platform.maxSlots)
    {Q : Addr → Pre} (hq : ∀ d' acts', Q s.heap.size d' acts' (mv_f3 s c c1 c2 n.toNatClampNeg k.toNatClampNeg m.toNatClampNeg (defaultValue type) n.toNatClampNeg)) :
    wp (multianewarray.make c [n, k, m]) Q Et e d acts s := by
  have hfind : ([k, m].find? (· < 0)) = none := by simp [hkk, hm]
  rw [multianewarray.make]
  simp only [wp_bind', W.ite, hn, if_false, wp_pure', W.theClass, hk, hkind, Option.some.injEq, exists_eq_left']
  refine Jvm.Free.Multi.wp_newArray hk hkind hl0 hh0 (Jvm.Free.Multi.refFits href _ (Or.inl rfl)) rfl (by omega) (by omega) ?_
  simp only [hfind]
  rw [ite_self, wp_bind', Std.Legacy.Range.forIn_eq_forIn_range']
  have hsz : ([:n.toNatClampNeg] : Std.Legacy.Range).size = n.toNatClampNeg := by simp [Std.Legacy.Range.size]
  rw [hsz]
  show wp (forIn (List.range' 0 n.toNatClampNeg 1) PUnit.unit _) _ Et e d acts _
  refine wp_forIn_inv (fun rest s' => ∃ i, i ≤ n.toNatClampNeg ∧ rest = List.range' i (n.toNatClampNeg - i) ∧ s' = mv_f3 s c c1 c2 n.toNatClampNeg k.toNatClampNeg m.toNatClampNeg (defaultValue type) i) _ _ ⟨0, Nat.zero_le _, rfl, rfl⟩ ?_ ?_
  · rintro x rest s' d' acts' Q' ⟨i, hi, hl, rfl⟩ hnext
    have hlt : i < n.toNatClampNeg := by
      rcases Nat.lt_or_ge i n.toNatClampNeg with h | h
      · exact h
      · rw [show n.toNatClampNeg - i = 0 from by omega] at hl; simp at hl
    obtain ⟨rfl, hrest⟩ : x = i ∧ rest = List.range' (i + 1) (n.toNatClampNeg - (i + 1)) := by
      rw [show n.toNatClampNeg - i = (n.toNatClampNeg - (i + 1)) + 1 from by omega, List.range'_succ] at hl
      exact ⟨(List.cons.inj hl).1, (List.cons.inj hl).2⟩
    obtain ⟨f1, f2, f3, f4⟩ := mv_f3_facts s c c1 c2 n.toNatClampNeg k.toNatClampNeg m.toNatClampNeg (defaultValue type) x
    obtain ⟨o1, o2, o3⟩ := mv_oC_facts c n.toNatClampNeg s.heap.size (k.toNatClampNeg + 1) x
    have hmul : x * (k.toNatClampNeg + 1) + (k.toNatClampNeg + 1) ≤ n.toNatClampNeg * (k.toNatClampNeg + 1) := by
      have := Nat.mul_le_mul_right (k.toNatClampNeg + 1) (show x + 1 ≤ n.toNatClampNeg from hlt)
      rw [Nat.succ_mul] at this; exact this
    have hmul2 : x * (k.toNatClampNeg + k.toNatClampNeg * m.toNatClampNeg) + (k.toNatClampNeg + k.toNatClampNeg * m.toNatClampNeg) ≤ n.toNatClampNeg * (k.toNatClampNeg + k.toNatClampNeg * m.toNatClampNeg) := by
      have := Nat.mul_le_mul_right (k.toNatClampNeg + k.toNatClampNeg * m.toNatClampNeg) (show x + 1 ≤ n.toNatClampNeg from hlt)
      rw [Nat.succ_mul] at this; exact this
    simp only [wp_bind']
    refine Jvm.Free.Multi.wp_make2 (by rw [f3]; exact hk1) hkind1 href1 (by rw [f3]; exact hk2) hkind2 hkk hm hl1 hh1 hl2 hh2 hdf hdd (by rw [f1]; omega) (by rw [f4]; omega) (fun d9 acts9 => ?_)
    have hlt0 : s.heap.size < (mv_f3 s c c1 c2 n.toNatClampNeg k.toNatClampNeg m.toNatClampNeg (defaultValue type) x).heap.size := by rw [f1]; omega
    have fvm := (Jvm.Free.Multi.fill_facts (mv_f3 s c c1 c2 n.toNatClampNeg k.toNatClampNeg m.toNatClampNeg (defaultValue type) x) c1 c2 k.toNatClampNeg m.toNatClampNeg (defaultValue type) k.toNatClampNeg).2.2.1
    simp only [wp_bind', W.writeLoc, wp_pure']
    refine ⟨mv_oC c n.toNatClampNeg s.heap.size (k.toNatClampNeg + 1) x, (Jvm.Free.Multi.fill_old _ c1 c2 _ _ _ hlt0 _).trans f2, by rw [o2]; simp, by rw [o3]; exact hlt, ?_, hnext _ _ _ ⟨x + 1, hlt, hrest, ?_⟩⟩
    · rw [o1, o2]
      simp [State.fitsSlot, State.slotType?, fvm, f3, hk, hkind, Jvm.Free.Multi.refFits href _ (Or.inr ⟨_, rfl⟩)]
    · rw [f1]; rfl
  · rintro s' d' acts' ⟨i, hi, hl, rfl⟩
    have hiN : i = n.toNatClampNeg := by
      rcases Nat.lt_or_ge i n.toNatClampNeg with h | h
      · rw [show n.toNatClampNeg - i = (n.toNatClampNeg - (i + 1)) + 1 from by omega, List.range'_succ] at hl; cases hl
      · omega
    subst hiN
    simp only [wp_pure']
    exact hq _ _
theorem mv_multianewarray3 {p : Program} {l : Launch} {e : Env} {R : Room} {s : State} {m : MethodId} {args : Array Value} {below : List Frame} {meth : Method} {c : Code} {T : State} {locs : List Loc} {cells slots : Nat} (X : Stand p l e R s m args below meth c T locs cells slots) (hexec : p.tables.exec = Jvm.exec) {own : String} {index : Nat} {ty : FieldType}
    (hown : s.vm.findClass own = some m.cls) (hclink : (Cond.classLink own index ("[" ++ (FieldType.array (.array ty)).toString)).before args s = true)
    (hover : (Cond.arrayOver (.array (.array ty))).before args s = true) (hover2 : (Cond.arrayOver (.array ty)).before args s = true) (harr : (Cond.arrayClass ty).before args s = true) (hstr : ("[" ++ (FieldType.array ty).toString) = (FieldType.array (.array ty)).toString)
    {g : JFrame} (hg : g.method = m) (hdg : decode c.code g.pc = .ok (.multianewarray index 3, 4)) {n k z : Int32} {rest : List Value} (hstack : g.stack = .int k :: .int n :: .int z :: rest)
    (hz : ¬ z < 0) (hn : ¬ n < 0) (hk : ¬ k < 0) (hb0 : z.toNatClampNeg * 4 ≤ 536870912) (hb1 : n.toNatClampNeg * 4 ≤ 536870912) (hb2 : k.toNatClampNeg * componentBytes ty ≤ 536870912) (hb3 : k.toNatClampNeg ≤ 536870912)
    (hdf : fits ty (defaultValue ty) = true) (hdd : (defaultValue ty).isDefault = true)
    (hcells : cells + (1 + z.toNatClampNeg * (n.toNatClampNeg + 1)) ≤ R.cells) (hslots : slots + (z.toNatClampNeg + z.toNatClampNeg * (n.toNatClampNeg + n.toNatClampNeg * k.toNatClampNeg)) ≤ R.slots) :
    ∃ (vm₁ : Vm) (cA c1 c2 : ClassId) (locs' : List Loc), (∀ q ∈ locs', q ∈ locs ∨ T.heap.size ≤ q.base) ∧ s.vm.findClass ("[" ++ (FieldType.array (.array ty)).toString) = some cA ∧ s.vm.findClass ("[" ++ (FieldType.array ty).toString) = some c1 ∧ s.vm.findClass (FieldType.array ty).toString = some c2 ∧
      Stand p l e R s m args below meth c (mv_f3 (T.setVm vm₁) cA c1 c2 z.toNatClampNeg n.toNatClampNeg k.toNatClampNeg (defaultValue ty) z.toNatClampNeg) locs' (cells + 1 + z.toNatClampNeg * (n.toNatClampNeg + 1)) (slots + z.toNatClampNeg + z.toNatClampNeg * (n.toNatClampNeg + n.toNatClampNeg * k.toNatClampNeg)) ∧
      ∀ target, Steps p.tables e below ((mv_f3 (T.setVm vm₁) cA c1 c2 z.toNatClampNeg n.toNatClampNeg k.toNatClampNeg (defaultValue ty) z.toNatClampNeg).setTop { g with pc := g.pc + 4, stack := .ref T.heap.size :: rest }) target →
        Steps p.tables e below (T.setTop g) target := by
  subst hg
  have hpl : e.platform.magicAccessors = ({} : Platform).magicAccessors := by rw [X.admits.platform]
  obtain ⟨c1, cA, kA, hc1, hkA, hkindA, hnameA⟩ := Cond.arrayOver_specA hover
  obtain ⟨c2, c1', kB, hc2, hkB, hkindB, hnameB⟩ := Cond.arrayOver_specA hover2
  have e1 : c1' = c1 := by
    rw [hstr] at hnameB
    exact Option.some.inj (hnameB.symm.trans hc1)
  subst e1
  obtain ⟨comp', kC, cc, hcomp', hkC, hkindC⟩ := Cond.arrayClass_spec harr
  have ecomp : comp' = c2 := Option.some.inj (hcomp'.symm.trans hc2)
  subst ecomp
  obtain ⟨c0, hfc0, hcl⟩ := Cond.classLink_spec hown hclink e.platform hpl
  cases hnameA.symm.trans hfc0
  obtain ⟨hg₁, hwarm₁, hready₁⟩ := State.classEntry (e := e) X.warmed hcl
  generalize T.vm.noted g.method.cls index (.cls cA) = vm₁ at hg₁ hwarm₁ hready₁
  have hal : s.vm.Alike vm₁ := hwarm₁.alike
  obtain ⟨kA₁, hkA₁, heA⟩ := hal.2.2 _ _ hkA
  obtain ⟨kB₁, hkB₁, heB⟩ := hal.2.2 _ _ hkB
  obtain ⟨kC₁, hkC₁, heC⟩ := hal.2.2 _ _ hkC
  have hkindA₁ : kA₁.kind = .array c1' (.array (.array ty)) := by rw [heA]; exact hkindA
  have hkindB₁ : kB₁.kind = .array comp' (.array ty) := by rw [heB]; exact hkindB
  have hkindC₁ : kC₁.kind = .array cc ty := by rw [heC]; exact hkindC
  have X₁ := X.noted hwarm₁
  obtain ⟨hr1, hr2⟩ := X.roomAbove hcells hslots
  obtain ⟨locs', hlocs, XF⟩ := mv_stand3 X₁ cA c1' comp' z.toNatClampNeg n.toNatClampNeg k.toNatClampNeg (defaultValue ty) z.toNatClampNeg
  refine ⟨vm₁, cA, c1', comp', locs', hlocs, hnameA, hnameB, hc2, XF, fun target hrest => ?_⟩
  have hl0 : ¬ z.toNatClampNeg > e.platform.arrayLengthLimit := by rw [Launch.admits_arrayLengthLimit X.admits]; omega
  have hh0 : ¬ z.toNatClampNeg * componentBytes (.array (.array ty)) > e.platform.maxHeapBytes := by
    rw [Launch.admits_maxHeapBytes X.admits]; show ¬ z.toNatClampNeg * 4 > 536870912; omega
  have hl1 : ¬ n.toNatClampNeg > e.platform.arrayLengthLimit := by rw [Launch.admits_arrayLengthLimit X.admits]; omega
  have hh1 : ¬ n.toNatClampNeg * componentBytes (.array ty) > e.platform.maxHeapBytes := by
    rw [Launch.admits_maxHeapBytes X.admits]; show ¬ n.toNatClampNeg * 4 > 536870912; omega
  have hl2 : ¬ k.toNatClampNeg > e.platform.arrayLengthLimit := by rw [Launch.admits_arrayLengthLimit X.admits]; omega
  have hh2 : ¬ k.toNatClampNeg * componentBytes ty > e.platform.maxHeapBytes := by rw [Launch.admits_maxHeapBytes X.admits]; omega
  jvm_step X.here [hexec, hdg]
  simp only [multianewarray.sem, wp_bind', W.resolveClassAt_links (State.method?_setTop g X.here.top) hg₁]
  rw [W.popN, if_neg (by decide)]
  refine ⟨g, State.topJava?_setTop' (s := T.setVm vm₁) g X.here.top, [.int z, .int n, .int k], rest, rfl, hstack, ?_⟩
  simp only [List.mapM_cons, List.mapM_nil, wp_bind', wp_pure']
  refine mv_make3 (k0 := kA₁) (k1 := kB₁) (k2 := kC₁) (c1 := c1') (c2 := comp') (cc := cc) (t0 := .array (.array ty)) (t1 := .array ty) (type := ty) hkA₁ hkindA₁ rfl hkB₁ hkindB₁ rfl hkC₁ hkindC₁ hz hn hk hl0 hh0 hl1 hh1 hl2 hh2 hdf hdd (by show T.heap.size + 1 + _ ≤ _; omega) (by show T.slotsUsed + _ + _ ≤ _; omega) (fun d' acts' => ?_)
  have eS : ((T.setTop g).setVm vm₁).setTop { g with stack := rest } = (T.setVm vm₁).setTop { g with stack := rest } := by
    show ((T.setVm vm₁).setTop g).setTop _ = _
    rw [State.setTop_setTop]
  rw [eS, mv_f3_setTop]
  simp only [wp_bind', W.mark, W.pushRef, State.topJava?_setTop' _ XF.here.top, Option.some.injEq, exists_eq_left', State.setTop_setTop, State.heap_setTop]
  intro acts
  simp [jvm, XF.here.top]
  exact hrest
section MVM
variable {base : Nat} {kt dA : Nat → Nat} {D : va_G} {cl : List vw_C} {nL : Nat} {p : Program} {l : Launch} {e : Env} {R : Room} {s : State} {m : MethodId} {args : Array Value} {below : List Frame} {meth : Method} {c : Code} {Q : State → Prop} {cc : ByteArray} {G : mv_G} {y pc : Nat} {lo : List (Nat × Value)} {st : List Value} {hp : List va_E} {cb sb : Nat} {S : mv_S} {Nm : Nat → MethodName} {Ts : List Cond} {L : List FieldType}
theorem mv_inv_news {H H1 : Heap} {ls : Array Slot} {locs locs' : List Loc} {cells slots pc' n : Nat} {st' : List Value} (I : mv_inv base (mv_ad base kt) dA D cl nL R s (pc, lo, st, hp, cb, sb) H ls locs cells slots) {es : List va_E} (hc : es.length ≤ cb) (hs : n ≤ sb) (he1 : 1 ≤ es.length)
    (he : ∀ (j : Nat) (e1 : va_E), es[j]? = some e1 → va_at D cl (H.size + j, mv_e (mv_ad base kt) dA e1) H1) (z : H1.size = H.size + es.length) (oq : ∀ q : Nat, q < H.size → H1[q]? = H[q]?) (hl : ∀ q ∈ locs', base ≤ q.base) : mv_inv base (mv_ad base kt) dA D cl nL R s (pc', lo, st', hp ++ es, cb - es.length, sb - n) H1 ls locs' (cells + es.length) (slots + n) ∧ mv_ad base kt hp.length = H.size := by
  obtain ⟨i1, i2, i3, i4, i5, i6, i7⟩ := I
  dsimp only at i1 i2 i3 i4 i5 i6 i7
  have hz : mv_ad base kt hp.length = H.size := by
    rw [mv_ad, if_pos (by omega), i3]
  refine ⟨⟨i1, ?_, ?_, ⟨?_, ?_, hl⟩, ?_, ?_, ?_⟩, hz⟩
  · show va_P D cl (mv_w (mv_ad base kt) dA 0 (hp ++ es)) H1
    rw [mv_w_app]
    refine (i2.kept (fun k q hk => oq q.1 ((i2 k q hk).lt))).app (fun k q hk => ?_)
    obtain ⟨e1, h1, rfl⟩ := mv_w_of hk
    have hk2 : k < es.length := (List.getElem?_eq_some_iff.mp h1).1
    have h2 := he k e1 h1
    have h3 : mv_ad base kt (0 + hp.length + k) = H.size + k := by
      rw [mv_ad, if_pos (by omega), i3]
      omega
    rw [h3]
    exact h2
  · show H1.size = base + (hp ++ es).length
    rw [z, i3, List.length_append]
    omega
  · have := i4.1
    omega
  · intro q h1 h2
    exact (oq q (Nat.lt_of_lt_of_le h1 i4.1)).trans (i4.2.1 q h1 h2)
  · show cells + es.length + (cb - es.length) ≤ R.cells
    omega
  · show slots + n + (sb - n) ≤ R.slots
    omega
  · show (hp ++ es).length + (cb - es.length) ≤ mv_big
    rw [List.length_append]
    omega
theorem mr_multi2 (hx : p.tables.exec = Jvm.exec) (hb : c.code = cc) {own : String} (hown : s.vm.findClass own = some m.cls) (hK : va_K D cl (mv_tys dA L) s) {idx t t1 : Nat} (hdg : decode cc pc = .ok (.multianewarray idx 2, 4)) {ty : FieldType} (hty : ty = .int ∨ ty = .byte) (har : (Cond.arrayClass ty).before args s = true) (hL0 : L[t]? = some (.array ty)) (hL1 : L[t1]? = some ty) (hov : (Cond.arrayOver (.array ty)).before args s = true) (hlk : (Cond.classLink own idx ("[" ++ (FieldType.array ty).toString)).before args s = true) {k n : Int32} {r : List Value}
    (hc : ¬ n < 0 ∧ ¬ k < 0 ∧ n.toNatClampNeg ≤ 65536 ∧ k.toNatClampNeg ≤ 65536 ∧ 1 + n.toNatClampNeg ≤ cb ∧ n.toNatClampNeg + n.toNatClampNeg * k.toNatClampNeg ≤ sb)
    (kk : mv_K base (mv_ad base kt) dA D cl nL p l e R s m args below meth c Q (pc + 4, lo, .ref hp.length :: r, hp ++ mv_grid2 t t1 n.toNatClampNeg k.toNatClampNeg hp.length, cb - (1 + n.toNatClampNeg), sb - (n.toNatClampNeg + n.toNatClampNeg * k.toNatClampNeg))) : mv_K base (mv_ad base kt) dA D cl nL p l e R s m args below meth c Q (pc, lo, .int k :: .int n :: r, hp, cb, sb) := by
  intro H ls locs cells slots I T hT X
  subst hT
  obtain ⟨hn, hk, hn2, hk2, hc1, hc2⟩ := hc
  have I5 : cells + cb ≤ R.cells := I.2.2.2.2.1
  have I6 : slots + sb ≤ R.slots := I.2.2.2.2.2.1
  have hcb : componentBytes ty ≤ 4 := by rcases hty with rfl | rfl <;> decide
  have hd0 : defaultValue ty = .int 0 := by rcases hty with rfl | rfl <;> rfl
  have hb2 : k.toNatClampNeg * componentBytes ty ≤ 536870912 := Nat.le_trans (Nat.mul_le_mul hk2 hcb) (by decide)
  obtain ⟨vm₁, cA, comp, hW, hfA, hfC, -, -, X', step⟩ := X.multianewarray2F hx hown hlk hov har (g := F0 m pc ls (.int k :: .int n :: r.map (mv_v (mv_ad base kt)))) rfl (by rw [hb]; exact hdg) rfl hn hk (by omega) hb2 (by omega) (by rw [hd0]; rcases hty with rfl | rfl <;> rfl) (by rw [hd0]; rfl) (by omega) (by omega)
  obtain ⟨z0, hz0⟩ := mv_tys_mem (dA := dA) hL0
  obtain ⟨z1, hz1⟩ := mv_tys_mem (dA := dA) hL1
  have e0 := mv_RAof (hK.2 z0 _ hz0).2 hfA
  have e1 : comp = dA t1 := mv_RAof (hK.2 z1 _ hz1).2 (by rcases hty with rfl | rfl <;> exact hfC)
  subst e0
  subst e1
  obtain ⟨f1, f2, -, -⟩ := Jvm.Free.Multi.fill_facts (T.setVm vm₁) (dA t) (dA t1) n.toNatClampNeg k.toNatClampNeg (defaultValue ty) n.toNatClampNeg
  have fo := fun x (hx9 : x < T.heap.size) => Jvm.Free.Multi.fill_old (T.setVm vm₁) (dA t) (dA t1) n.toNatClampNeg k.toNatClampNeg (defaultValue ty) (a := x) hx9 n.toNatClampNeg
  have fi := Jvm.Free.Multi.fill_inner (T.setVm vm₁) (dA t) (dA t1) n.toNatClampNeg k.toNatClampNeg (defaultValue ty) n.toNatClampNeg
  generalize Jvm.Free.Multi.fill (T.setVm vm₁) (dA t) (dA t1) n.toNatClampNeg k.toNatClampNeg (defaultValue ty) n.toNatClampNeg = F at X' step f1 f2 fo fi
  have hTh : (T.setVm vm₁).heap = T.heap := rfl
  rw [hTh] at f1 f2 fi fo
  have hlen := mv_grid2_len t t1 n.toNatClampNeg k.toNatClampNeg hp.length
  have hadr : ∀ x, x < 1 + n.toNatClampNeg → mv_ad base kt (hp.length + x) = T.heap.size + x := fun x hx9 => by
    have h7 : hp.length + cb ≤ mv_big := I.2.2.2.2.2.2
    have h3 : T.heap.size = base + hp.length := I.2.2.1
    rw [mv_ad, if_pos (by omega), h3]
    omega
  obtain ⟨I', hz⟩ := mv_inv_news (pc' := pc + 4) (st' := .ref hp.length :: r) (H1 := F.heap) (locs' := locs) (n := n.toNatClampNeg + n.toNatClampNeg * k.toNatClampNeg) I (es := mv_grid2 t t1 n.toNatClampNeg k.toNatClampNeg hp.length) (by rw [hlen]; exact hc1) hc2 (by rw [hlen]; omega) (fun j e2 hj => by
      rcases mv_grid2_at hj with ⟨rfl, rfl⟩ | ⟨x, hx9, rfl, rfl⟩
      · refine mv_outer_cell (h0 := T.heap.size) ?_ (fun i hi => ?_)
        · rw [Nat.add_zero, f2, mv_outer1]
        · rw [show hp.length + 1 + i * 1 = hp.length + (1 + i) by omega, hadr (1 + i) (by omega)]
          omega
      · refine mv_inner_cell hd0 ?_
        rw [show T.heap.size + (x + 1) = T.heap.size + 1 + x by omega]
        exact fi x hx9) (by rw [f1, hlen]; omega) (fun q hq => fo q hq) I.2.2.2.1.2.2
  rw [hlen] at I'
  have hk9 := kk F.heap ls locs (cells + (1 + n.toNatClampNeg)) (slots + (n.toNatClampNeg + n.toNatClampNeg * k.toNatClampNeg)) I'
  rw [← Nat.add_assoc, ← Nat.add_assoc] at hk9
  obtain ⟨t9, a1, b1⟩ := hk9 F rfl X'
  refine ⟨t9, step t9 ?_, b1⟩
  have e3 : (Value.ref hp.length :: r).map (mv_v (mv_ad base kt)) = .ref T.heap.size :: r.map (mv_v (mv_ad base kt)) := by
    rw [List.map_cons]
    show Value.ref (mv_ad base kt hp.length) :: _ = _
    rw [hz]
  dsimp only at a1
  rw [e3] at a1
  exact a1
theorem mr_multi3 (hx : p.tables.exec = Jvm.exec) (hb : c.code = cc) {own : String} (hown : s.vm.findClass own = some m.cls) (hK : va_K D cl (mv_tys dA L) s) {idx t t1 t2 : Nat} (hdg : decode cc pc = .ok (.multianewarray idx 3, 4)) {ty : FieldType} (hty : ty = .int ∨ ty = .byte) (har : (Cond.arrayClass ty).before args s = true) (hL0 : L[t]? = some (.array (.array ty))) (hL1 : L[t1]? = some (.array ty)) (hL2 : L[t2]? = some ty) (hov : (Cond.arrayOver (.array (.array ty))).before args s = true) (hov2 : (Cond.arrayOver (.array ty)).before args s = true) (hlk : (Cond.classLink own idx ("[" ++ (FieldType.array (.array ty)).toString)).before args s = true) {k n z : Int32} {r : List Value}
    (hc : ¬ z < 0 ∧ ¬ n < 0 ∧ ¬ k < 0 ∧ z.toNatClampNeg ≤ 65536 ∧ n.toNatClampNeg ≤ 65536 ∧ k.toNatClampNeg ≤ 65536 ∧ 1 + z.toNatClampNeg * (n.toNatClampNeg + 1) ≤ cb ∧ z.toNatClampNeg + z.toNatClampNeg * (n.toNatClampNeg + n.toNatClampNeg * k.toNatClampNeg) ≤ sb)
    (kk : mv_K base (mv_ad base kt) dA D cl nL p l e R s m args below meth c Q (pc + 4, lo, .ref hp.length :: r, hp ++ mv_grid3 t t1 t2 z.toNatClampNeg n.toNatClampNeg k.toNatClampNeg hp.length, cb - (1 + z.toNatClampNeg * (n.toNatClampNeg + 1)), sb - (z.toNatClampNeg + z.toNatClampNeg * (n.toNatClampNeg + n.toNatClampNeg * k.toNatClampNeg)))) : mv_K base (mv_ad base kt) dA D cl nL p l e R s m args below meth c Q (pc, lo, .int k :: .int n :: .int z :: r, hp, cb, sb) := by
  intro H ls locs cells slots I T hT X
  subst hT
  obtain ⟨hz, hn, hk, hz2, hn2, hk2, hc1, hc2⟩ := hc
  have I5 : cells + cb ≤ R.cells := I.2.2.2.2.1
  have I6 : slots + sb ≤ R.slots := I.2.2.2.2.2.1
  have hcb : componentBytes ty ≤ 4 := by rcases hty with rfl | rfl <;> decide
  have hd0 : defaultValue ty = .int 0 := by rcases hty with rfl | rfl <;> rfl
  have hb2 : k.toNatClampNeg * componentBytes ty ≤ 536870912 := Nat.le_trans (Nat.mul_le_mul hk2 hcb) (by decide)
  obtain ⟨vm₁, cA, c1, c2, locs', hlocs, hfA, hfB, hfC, X', step⟩ := mv_multianewarray3 X hx hown hlk hov hov2 har (by rcases hty with rfl | rfl <;> rfl) (g := F0 m pc ls (.int k :: .int n :: .int z :: r.map (mv_v (mv_ad base kt)))) rfl (by rw [hb]; exact hdg) rfl hz hn hk (by omega) (by omega) hb2 (by omega) (by rw [hd0]; rcases hty with rfl | rfl <;> rfl) (by rw [hd0]; rfl) (by omega) (by omega)
  obtain ⟨z0, hz0⟩ := mv_tys_mem (dA := dA) hL0
  obtain ⟨z1, hz1⟩ := mv_tys_mem (dA := dA) hL1
  obtain ⟨z3, hz3⟩ := mv_tys_mem (dA := dA) hL2
  have e0 := mv_RAof (hK.2 z0 _ hz0).2 hfA
  have e1 := mv_RAof (hK.2 z1 _ hz1).2 hfB
  have e2 : c2 = dA t2 := mv_RAof (hK.2 z3 _ hz3).2 (by rcases hty with rfl | rfl <;> exact hfC)
  subst e0
  subst e1
  subst e2
  have ff := (mv_f3_facts (T.setVm vm₁) (dA t) (dA t1) (dA t2) z.toNatClampNeg n.toNatClampNeg k.toNatClampNeg (defaultValue ty) z.toNatClampNeg)
  have fo := fun x (hx9 : x < T.heap.size) => mv_f3_old (T.setVm vm₁) (dA t) (dA t1) (dA t2) z.toNatClampNeg n.toNatClampNeg k.toNatClampNeg (defaultValue ty) (a := x) hx9 z.toNatClampNeg
  have fi := mv_f3_rows (T.setVm vm₁) (dA t) (dA t1) (dA t2) z.toNatClampNeg n.toNatClampNeg k.toNatClampNeg (defaultValue ty) z.toNatClampNeg
  obtain ⟨f1, f2, -, -⟩ := ff
  generalize mv_f3 (T.setVm vm₁) (dA t) (dA t1) (dA t2) z.toNatClampNeg n.toNatClampNeg k.toNatClampNeg (defaultValue ty) z.toNatClampNeg = F at X' step f1 f2 fo fi
  have hTh : (T.setVm vm₁).heap = T.heap := rfl
  rw [hTh] at f1 f2 fi fo
  have hlen : (mv_grid3 t t1 t2 z.toNatClampNeg n.toNatClampNeg k.toNatClampNeg hp.length).length = 1 + z.toNatClampNeg * (n.toNatClampNeg + 1) := by
    unfold mv_grid3
    rw [List.length_cons, mv_blocks_len]
    omega
  have hadr : ∀ x, x < 1 + z.toNatClampNeg * (n.toNatClampNeg + 1) → mv_ad base kt (hp.length + x) = T.heap.size + x := fun x hx9 => by
    have h7 : hp.length + cb ≤ mv_big := I.2.2.2.2.2.2
    have h3 : T.heap.size = base + hp.length := I.2.2.1
    rw [mv_ad, if_pos (by omega), h3]
    omega
  have hmul : ∀ i, i < z.toNatClampNeg → i * (n.toNatClampNeg + 1) + (n.toNatClampNeg + 1) ≤ z.toNatClampNeg * (n.toNatClampNeg + 1) := fun i hi => by
    have := Nat.mul_le_mul_right (n.toNatClampNeg + 1) (show i + 1 ≤ z.toNatClampNeg from hi)
    rw [Nat.succ_mul] at this
    exact this
  obtain ⟨I', hz⟩ := mv_inv_news (pc' := pc + 4) (st' := .ref hp.length :: r) (H1 := F.heap) (locs' := locs') (n := z.toNatClampNeg + z.toNatClampNeg * (n.toNatClampNeg + n.toNatClampNeg * k.toNatClampNeg)) I (es := mv_grid3 t t1 t2 z.toNatClampNeg n.toNatClampNeg k.toNatClampNeg hp.length) (by rw [hlen]; exact hc1) hc2 (by rw [hlen]; omega) (fun j e2 hj => by
      cases j with
      | zero =>
        cases hj
        refine mv_outer_cell (h0 := T.heap.size) ?_ (fun i hi => ?_)
        · rw [Nat.add_zero, f2]
        · have := hmul i hi
          rw [show hp.length + 1 + i * (n.toNatClampNeg + 1) = hp.length + (1 + i * (n.toNatClampNeg + 1)) by omega, hadr _ (by omega)]
          omega
      | succ x =>
        have hj2 : (mv_blocks t1 t2 n.toNatClampNeg k.toNatClampNeg (hp.length + 1) z.toNatClampNeg)[x]? = some e2 := by
          unfold mv_grid3 at hj
          rw [List.getElem?_cons_succ] at hj
          exact hj
        obtain ⟨i, r9, hi, rfl, h9⟩ := mv_blocks_at _ _ _ _ _ _ _ _ hj2
        have hmi := hmul i hi
        obtain ⟨g1, g2⟩ := fi i hi
        rcases mv_grid2_at h9 with ⟨rfl, rfl⟩ | ⟨x, hx9, rfl, rfl⟩
        · refine mv_outer_cell (h0 := T.heap.size + 1 + i * (n.toNatClampNeg + 1)) ?_ (fun i9 hi9 => ?_)
          · rw [show T.heap.size + (i * (n.toNatClampNeg + 1) + 0 + 1) = T.heap.size + 1 + i * (n.toNatClampNeg + 1) by omega]
            exact g1
          · rw [show hp.length + 1 + i * (n.toNatClampNeg + 1) + 1 + i9 * 1 = hp.length + (1 + i * (n.toNatClampNeg + 1) + 1 + i9) by omega, hadr _ (by omega)]
            omega
        · refine mv_inner_cell hd0 ?_
          rw [show T.heap.size + (i * (n.toNatClampNeg + 1) + (x + 1) + 1) = T.heap.size + 1 + i * (n.toNatClampNeg + 1) + 1 + x by omega]
          exact g2 x hx9) (by rw [f1, hlen]; omega) (fun q hq => fo q hq) (fun q hq => by
      rcases hlocs q hq with h9 | h9
      · exact I.2.2.2.1.2.2 q h9
      · have h3 : T.heap.size = base + hp.length := I.2.2.1
        show base ≤ q.base
        have h8 : T.heap.size ≤ q.base := h9
        omega)
  rw [hlen] at I'
  have hk9 := kk F.heap ls locs' (cells + (1 + z.toNatClampNeg * (n.toNatClampNeg + 1))) (slots + (z.toNatClampNeg + z.toNatClampNeg * (n.toNatClampNeg + n.toNatClampNeg * k.toNatClampNeg))) I'
  rw [← Nat.add_assoc, ← Nat.add_assoc] at hk9
  obtain ⟨t9, a1, b1⟩ := hk9 F rfl X'
  refine ⟨t9, step t9 ?_, b1⟩
  have e3 : (Value.ref hp.length :: r).map (mv_v (mv_ad base kt)) = .ref T.heap.size :: r.map (mv_v (mv_ad base kt)) := by
    rw [List.map_cons]
    show Value.ref (mv_ad base kt hp.length) :: _ = _
    rw [hz]
  dsimp only at a1
  rw [e3] at a1
  exact a1
theorem mr_multi (hx : p.tables.exec = Jvm.exec) (hb : c.code = cc) (hts : ∀ w ∈ Ts, w.before args s = true) {own : String} (hown : s.vm.findClass own = some m.cls) (hK : va_K D cl (mv_tys dA L) s) {idx d : Nat} (hdg : decode cc pc = .ok (.multianewarray idx d, 4)) (hok : ∀ t t1 t2, mv_gM G y idx = some (t, t1, t2) → mv_okGr L Ts own idx t t1 t2)
    (h : mv_multi G y pc lo st hp cb sb idx d = some (.inl S)) (k : mv_K base (mv_ad base kt) dA D cl nL p l e R s m args below meth c Q S) : mv_K base (mv_ad base kt) dA D cl nL p l e R s m args below meth c Q (pc, lo, st, hp, cb, sb) := by
  unfold mv_multi at h
  split at h
  · rename_i t t1 t2 hM
    obtain ⟨ty, hty, har, hg⟩ := hok _ _ _ hM
    split at h
    · rename_i k0 n r
      split at h
      · rename_i hd
        subst hd
        split at h
        · rename_i hc
          cases h
          rcases hg with ⟨-, g1, g2, g3, g4⟩ | ⟨g0, -⟩
          · exact mr_multi2 hx hb hown hK hdg hty (hts _ har) g1 g2 (hts _ g3) (hts _ g4) hc.2 k
          · omega
        · cases h
      · split at h
        · rename_i z r0
          split at h
          · rename_i hc
            obtain ⟨rfl, hc⟩ := hc
            cases h
            rcases hg with ⟨g0, -⟩ | ⟨-, g1, g2, g3, g4, g5, g6⟩
            · omega
            · exact mr_multi3 hx hb hown hK hdg hty (hts _ har) g1 g2 g3 (hts _ g4) (hts _ g5) (hts _ g6) hc.2 k
          · cases h
        · cases h
    · cases h
  · cases h
end MVM
end
section
/-! the small machine: what has no bytecode of its own here: arraycopy; an exception made with its message -/
def mv_fitT (t : Nat) (x : Int32) : Bool := if t = 0 then true else if t = 1 then fits .byte (.int x) else fits .boolean (.int x)
section
variable (G : mv_G) (y pc : Nat) (l : List (Nat × Value)) (st : List Value) (hp : List va_E) (cb sb fb lb : Nat)
def mv_copy : Option mv_S := match st with
  | .int n :: .int dp :: .ref a1 :: .int sp :: .ref a0 :: r => match hp[a0]?, hp[a1]? with
    | some (.inl (t0, n0, .inl f)), some (.inl (t1, n1, .inl g)) =>
      if (t0 = t1 ∧ t0 < 3) ∧ (¬ sp < 0 ∧ ¬ dp < 0 ∧ ¬ n < 0) ∧ sp.toNatClampNeg + n.toNatClampNeg ≤ n0 ∧ dp.toNatClampNeg + n.toNatClampNeg ≤ n1 ∧ (t0 = 0 ∨ (List.range n.toNatClampNeg).all (fun i => mv_fitT t0 (f (sp.toNatClampNeg + i))) = true) ∧ 1 ≤ fb ∧ (r.map fun v => v.category).sum + (nativeFrameWords "java/lang/System" "arraycopy" 5 + 11) ≤ lb then
        some (pc + 3, l, r, hp.set a1 (.inl (t1, n1, .inl (va_cpy f g sp.toNatClampNeg dp.toNatClampNeg n.toNatClampNeg))), cb, sb)
      else none
    | _, _ => none
  | _ => none
/-- new; dup; ldc_w; invokespecial: the thrown class's object, made with a text -/
def mv_made : Option mv_S := match mv_gI G y (pc + 3), mv_gI G y (pc + 4), mv_gI G y (pc + 7) with
  | some (.dup, 1), some (.ldc_w i2, 3), some (.invokespecial i3, 3) => match mv_gK G y i2, mv_gC G y i3 with
    | some (.ref _), some (kd, _, _) =>
      if kd = 8 ∧ 1 ≤ cb ∧ 6 ≤ sb ∧ 6 ≤ fb ∧ (st.map fun v => v.category).sum + 82 ≤ lb then some (pc + 10, l, .ref hp.length :: st, hp ++ [.inr (mv_gX G, [])], cb - 1, sb - 6) else none
    | _, _ => none
  | _, _, _ => none
/-- an int of an array that was there before; its length -/
def mv_xald : Option mv_S := match st with
  | .int i :: .ref a :: r => match mv_gS G a with
    | some (n, f) => if mv_out i n = false then some (pc + 1, l, .int (f i.toNatClampNeg) :: r, hp, cb, sb) else none
    | none => none
  | _ => none
def mv_xlen : Option mv_S := match st with
  | .ref a :: r => match mv_gS G a with
    | some (n, _) => some (pc + 1, l, .int (Int32.ofNat n) :: r, hp, cb, sb)
    | none => none
  | _ => none
/-- Object's own constructor -/
def mv_oini : Option mv_S := match st with
  | .ref _ :: r => if 1 ≤ fb ∧ (r.map fun v => v.category).sum + 12 ≤ lb then some (pc + 3, l, r, hp, cb, sb) else none
  | _ => none
end
def mv_nat (G : mv_G) (y fb lb : Nat) (S : mv_S) : Option mv_S := match mv_gI G y S.1 with
  | some (.invokestatic idx, 3) => match mv_gC G y idx with
    | some (kd, _, _) => if kd = 7 then mv_copy S.1 S.2.1 S.2.2.1 S.2.2.2.1 S.2.2.2.2.1 S.2.2.2.2.2 fb lb else none
    | none => none
  | some (.new idx, 3) => match mv_gN G y idx with
    | some ci => if ci = mv_gX G then mv_made G y S.1 S.2.1 S.2.2.1 S.2.2.2.1 S.2.2.2.2.1 S.2.2.2.2.2 fb lb else none
    | none => none
  | some (.invokespecial idx, 3) => match mv_gC G y idx with
    | some (kd, _, _) => if kd = 9 then mv_oini S.1 S.2.1 S.2.2.1 S.2.2.2.1 S.2.2.2.2.1 S.2.2.2.2.2 fb lb else none
    | none => none
  | some (.iaload, 1) => mv_xald G S.1 S.2.1 S.2.2.1 S.2.2.2.1 S.2.2.2.2.1 S.2.2.2.2.2
  | some (.arraylength, 1) => mv_xlen G S.1 S.2.1 S.2.2.1 S.2.2.2.1 S.2.2.2.2.1 S.2.2.2.2.2
  | _ => none
def mv_ISE : String := "java/lang/IllegalStateException"
def mv_up : List String := ["java/lang/RuntimeException", "java/lang/Exception"]
/-- the exception's constructor, behind its own new -/
theorem mv_ctor {p : Program} {l : Launch} {e : Env} {R : Room} {s : State} {m : MethodId} {args : Array Value} {below : List Frame} {meth : Method} {c : Code} {W : State} {locs : List Loc} {cells slots : Nat} (X : Stand p l e R s m args below meth c W locs cells slots) (hexec : p.tables.exec = Jvm.exec) (htr : e.platform.stackTraces = false) {own cls : String} {names : List String} {ic : Nat}
    (hown : s.vm.findClass own = some m.cls) (hcls : Bundle.fit cls = true) (hnames : ∀ n ∈ names, Bundle.fit n = true)
    (h : ∀ a ∈ Bundle.ownAtoms own ic cls names, a.before args s = true)
    {a : Addr} (hlow : ∀ (aS : Nat) (c0 : Cell), s.heap[aS]? = some c0 → c0.vm.isStatics = true → (∀ i, (⟨aS, i⟩ : Loc) ∉ locs) ∧ aS ≠ a)
    {cX : ClassId} {kX : Class} (hfoundX : s.vm.findClass cls = some cX) (hkX : s.vm.classes[cX]? = some kX) (hcell : W.heap[a]? = some (freshCell cX kX))
    {msg : Value} (hmsg : msg.isRef = true)
    {g : JFrame} (hg : g.method = m) (hsize : g.locals.size = c.maxLocals) {rest : List Value} (hstack : g.stack = msg :: .ref a :: rest)
    (hd6 : decode c.code g.pc = .ok (.invokespecial ic, 3))
    (hRframes : names.length + 3 < R.frames) (hRlocals : 2 * g.monitorRoom + (rest.map fun v => v.category).sum + (13 * (names.length + 1) + 42) ≤ R.locals) :
    ∃ (vm' : Vm) (ce : Cell) (L : List Loc), Stand p l e R s m args below meth c ((W.setVm vm').setCell a ce) (locs ++ L) cells slots ∧ (∀ q ∈ L, q.base = a) ∧ ce.cls = cX ∧ ce.vm = .none ∧
      ∀ target, Steps p.tables e below (((W.setVm vm').setCell a ce).setTop { g with pc := g.pc + 3, stack := rest }) target → Steps p.tables e below (W.setTop g) target := by
  have howns : e.platform.frameOwnsMonitors = true := by rw [X.admits.platform]
  have hfin : e.platform.finalization = false := by rw [X.admits.platform]
  have hpl : e.platform.magicAccessors = ({} : Platform).magicAccessors := by rw [X.admits.platform]
  have a' : ∀ x, x ∈ Bundle.ownAtoms own ic cls names → x.holds args s none s [] = true := fun x hx => h x hx
  obtain ⟨T, Z0, L, -, Y⟩ := ThrowableC.of_atoms (args := args) howns hfin hpl (fun x hx => h x (by simp [Bundle.ownAtoms, hx]))
  obtain ⟨Z, M, LZ, LM, hnZ⟩ := Init0T.ofS_atoms (args := args) hpl L Y (fun x hx => h x (by simp [Bundle.ownAtoms, hx]))
  obtain ⟨P1, Ps, hlen, L1, hL, hP1m, hlink1, hlink⟩ := Bundle.chainS (args := args) hpl hnZ names cls hcls hnames (fun x hx => h x (by simp [Bundle.ownAtoms, hx]))
  have hfound : s.vm.findClass cls = some P1.m.cls := findClass_of_methodNamed hP1m
  cases Option.some.inj (hfoundX.symm.trans hfound)
  obtain ⟨c1, kX', hc1, hk, hord, -, -, hn6⟩ := Cond.instantiable_spec (a' (.instantiable cls 6) (by simp [Bundle.ownAtoms]))
  cases Option.some.inj (hc1.symm.trans hfound)
  cases Option.some.inj (hkX.symm.trans hk)
  have hsel0 : selectMethod e.platform s.vm P1.m.cls T.fill0 = .method T.fill0 := by
    obtain ⟨c2, r2, m2, q1, q2, q3, q4, -⟩ := Cond.selects_spec (a' (.selects cls Bundle.tFill0 Bundle.tFill0) (by simp [Bundle.ownAtoms]))
    cases Option.some.inj (q1.symm.trans hfound)
    cases Option.some.inj (q2.symm.trans (State.methodFound?_of_named Y.fill0 (by decide)))
    cases Option.some.inj (q3.symm.trans Y.fill0)
    rw [Launch.admits_selectMethod X.admits]; exact q4
  have hselF : selectMethod e.platform s.vm P1.m.cls T.fill = .method T.fill := by
    obtain ⟨c2, r2, m2, q1, q2, q3, q4, -⟩ := Cond.selects_spec (a' (.selects cls Bundle.tFill Bundle.tFill) (by simp [Bundle.ownAtoms]))
    cases Option.some.inj (q1.symm.trans hfound)
    cases Option.some.inj (q2.symm.trans (State.methodFound?_of_named Y.fill (by decide)))
    cases Option.some.inj (q3.symm.trans Y.fill)
    rw [Launch.admits_selectMethod X.admits]; exact q4
  obtain ⟨cellS0, hcS0, hiss⟩ := Y.statics
  obtain ⟨u0, hu0⟩ := Cond.staticRefV Y.unassigned L.unassignedStatic L.statics hcS0 hiss (a' (.isRef (.static Bundle.tN "UNASSIGNED_STACK" Bundle.steD)) (by simp [Bundle.ownAtoms]))
  obtain ⟨sen, hsen⟩ := Cond.staticRefV Y.sentinel L.sentinelStatic L.statics hcS0 hiss (a' (.isRef (.static Bundle.tN "SUPPRESSED_SENTINEL" Bundle.listD)) (by simp [Bundle.ownAtoms]))
  obtain ⟨ci198, i198, fB, hk198, hg198, ha198, hsB, -, hnB, htB, hffB⟩ := Cond.ownField (t := .object "java/lang/Object") Y.found L.cls (by decide +kernel) (a' (.fieldLink Bundle.tN 198 Bundle.tN "backtrace" "Ljava/lang/Object;") (by simp [Bundle.ownAtoms])) (a' (.lays Bundle.tN Bundle.tN "backtrace" "Ljava/lang/Object;") (by simp [Bundle.ownAtoms])) e.platform hpl
  obtain ⟨cellS, hcS', heS, -, hkeep⟩ := X.same.2.2.2.2.2 T.aS cellS0 hcS0
  have hcellS : W.heap[T.aS]? = some cellS := hcS'
  obtain ⟨hout', hneS⟩ := hlow _ _ hcS0 hiss
  have hknownS : cellS.vm ≠ .unknown := by
    rw [heS]; intro hu
    rw [show cellS0.vm = .unknown from hu] at hiss
    cases hiss
  obtain ⟨iM, hffM⟩ := Y.msg
  obtain ⟨tyC, dC, hdC, hdnC⟩ := Cond.laysAt hfound hk Y.cause (a' (.lays cls Bundle.tN "cause" "Ljava/lang/Throwable;") (by simp [Bundle.ownAtoms]))
  obtain ⟨tyS, dS, hdS, hdnS⟩ := Cond.laysAt hfound hk Y.stack (a' (.lays cls Bundle.tN "stackTrace" Bundle.steD) (by simp [Bundle.ownAtoms]))
  obtain ⟨tyP, dP, hdP, hdnP⟩ := Cond.laysAt hfound hk Y.supp (a' (.lays cls Bundle.tN "suppressedExceptions" Bundle.listD) (by simp [Bundle.ownAtoms]))
  obtain ⟨tyM, dM, hdM, hdnM⟩ := Cond.laysAt hfound hk hffM (a' (.lays cls Bundle.tN "detailMessage" "Ljava/lang/String;") (by simp [Bundle.ownAtoms]))
  obtain ⟨tyB, dB, hdB, hdnB⟩ := Cond.laysAt hfound hk hffB (a' (.lays cls Bundle.tN "backtrace" "Ljava/lang/Object;") (by simp [Bundle.ownAtoms]))
  have bC := Cond.laysApart hdB hdC hdnB hdnC (by rw [hnB, Y.causeName]; decide)
  have bS := Cond.laysApart hdB hdS hdnB hdnS (by rw [hnB, Y.stackName]; decide)
  have bP := Cond.laysApart hdB hdP hdnB hdnP (by rw [hnB, Y.suppName]; decide)
  have hskip : SkipFacts T e.platform s (fun u => u) u0 ((preparedCellV T.toThrowableT (freshCell P1.m.cls kX) a u0 sen).withEntry W.cur) :=
    ⟨{ ci198 := ci198, i198 := i198, fBack := fB }, ⟨hk198, hg198, ha198, hsB⟩, by
      have := fresh_default (c := P1.m.cls) tyB
      rw [htB] at this
      simpa [preparedCellV, Cell.setSlot, Cell.withEntry, Array.getElem?_setIfInBounds, bC, bS, bP, bC.symm, bS.symm, bP.symm, defaultValue] using this, fun _ _ => rfl⟩
  obtain ⟨tm, methC, cdC, kC, vm₁, hnC, -, -, -, -, -, -, -, hW₁, st1⟩ := Steps.initColdS (tb := p.tables) (e := e) (below := below) (s := s) (U := W) X.here hexec X.warmed hpl hown (t := Bundle.initS cls) rfl rfl (Bundle.fit_spec hcls).2
    (a' (.methodLink own ic (Bundle.initS cls)) (by simp [Bundle.ownAtoms])) (h (.instanceMethod (Bundle.initS cls)) (by cases names <;> simp [Bundle.ownAtoms, Bundle.chainSAtoms, Bundle.passSAtoms])) (bytes := Bundle.six) (maxL := 2) (h (.code (Bundle.initS cls) Bundle.six 2 none) (by cases names <;> simp [Bundle.ownAtoms, Bundle.chainSAtoms, Bundle.passSAtoms]))
    (f := g) hg (a := a) (msg := msg) (rest := rest) hstack hd6
  cases Option.some.inj (hnC.symm.trans hP1m)
  have X₁ := X.noted hW₁
  obtain ⟨vm₂, X₂, st2⟩ := X₁.ctorMessageOffV hexec (g := { g with stack := rest }) hg hsize T L Z LZ M LM (P1 :: Ps)
    (fun P hP => by rcases List.mem_cons.mp hP with rfl | hP; exact L1; exact hL P hP) ⟨hlink1, hlink⟩ (u0 := u0) (sen := sen) (self := a) hmsg (cell := freshCell P1.m.cls kX) (cellS := cellS)
    hcell (fun _ => by simp) (by simp) rfl rfl hsel0 hselF hcellS hneS hknownS (by rw [hkeep _ (hout' _)]; exact hu0) (by rw [hkeep _ (hout' _)]; exact hsen)
    (Takes.of_laid hk hord tyC (by rw [Y.causeType]; rfl)) (Takes.of_laid hk hord tyS (by rw [Y.stackType]; exact fits_refV_array _ u0)) (Takes.of_laid hk hord tyP (by rw [Y.suppType]; exact fits_refV_object _ sen))
    (Takes.of_laid hk hord tyM (by rw [Y.msgType]; exact fits_refV_object _ ⟨msg, hmsg⟩)) Y.objLocals hskip htr [] hd6
    (by simp only [List.length_cons, hlen]; omega) (by simp only [List.length_cons, hlen]; exact hRlocals)
  refine ⟨vm₂, _, _, X₂, fun q hq => ?_, rfl, rfl, fun target ht => st1 _ fun acts => ?_⟩
  · simp only [List.mem_cons, List.not_mem_nil, or_false] at hq
    rcases hq with rfl | rfl | rfl | rfl | rfl <;> rfl
  · rw [doInvoke_state]
    exact st2 _ ht
/-- a word that holds as long as the tables are warmed and the heap below base stays -/
def mv_kept (base : Nat) (w : Jvm.Cond) (s : State) : Prop := ∀ (args' : Array Value) (s' : State), s.WarmedH s'.vm → (∀ q : Nat, q < base → s'.heap[q]? = s.heap[q]?) → w.before args' s' = true
theorem mv_kept.use {base : Nat} {w : Jvm.Cond} {s : State} (h : mv_kept base w s) (args : Array Value) : w.before args s = true := h args s (State.WarmedH.refl s) fun _ _ => rfl
theorem mv_kept.moved {base : Nat} {w : Jvm.Cond} {s s1 : State} (h : mv_kept base w s) (hW : s.WarmedH s1.vm) (hh : ∀ q : Nat, q < base → s1.heap[q]? = s.heap[q]?) : mv_kept base w s1 := fun args' s' hW' hh' => h args' s' (State.WarmedH.trans hW hW') fun q hq => (hh' q hq).trans (hh q hq)
/-- what stands in the tables, or is kept, for the exception's constructor -/
def mv_okM8 (cl : List vw_C) (Ts Us : List Jvm.Cond) (G : mv_G) (own : String) (idx : Nat) : Prop := (∃ T : u_T, cl[mv_gX G]? = some (mv_ISE, T, 0)) ∧ ∀ w ∈ Bundle.ownAtoms own idx mv_ISE mv_up, w ∈ Ts ∨ w ∈ Us
def mv_okM7 (Ts : List Jvm.Cond) (own : String) (idx : Nat) : Prop := Cond.methodLink own idx arraycopyName ∈ Ts ∧ Cond.native arraycopyName ∈ Ts ∧ Cond.static arraycopyName ∈ Ts ∧ Cond.initialized "java/lang/System" ∈ Ts
section MVN
variable {base : Nat} {kt dA : Nat → Nat} {D : va_G} {cl : List vw_C} {nL : Nat} {p : Program} {l : Launch} {e : Env} {R : Room} {s : State} {m : MethodId} {args : Array Value} {below : List Frame} {meth : Method} {c : Code} {Q : State → Prop} {cc : ByteArray} {G : mv_G} {y pc : Nat} {lo : List (Nat × Value)} {st : List Value} {hp : List va_E} {cb sb fb lb : Nat} {S : mv_S} {Nm : Nat → MethodName} {Ts Us : List Jvm.Cond} {L : List FieldType}
theorem mv_inv_putL {H H1 : Heap} {ls : Array Slot} {locs locs' : List Loc} {cells slots pc' : Nat} {st' : List Value} (I : mv_inv base (mv_ad base kt) dA D cl nL R s (pc, lo, st, hp, cb, sb) H ls locs cells slots) {a : Nat} {e0 e1 : va_E} (h : hp[a]? = some e0)
    (he : va_at D cl (mv_ad base kt a, mv_e (mv_ad base kt) dA e1) H1) (z : H1.size = H.size) (oq : ∀ q : Nat, q ≠ mv_ad base kt a → H1[q]? = H[q]?) (hl : ∀ q ∈ locs', q.base = mv_ad base kt a) : mv_inv base (mv_ad base kt) dA D cl nL R s (pc', lo, st', hp.set a e1, cb, sb) H1 ls (locs ++ locs') cells slots := by
  have I1 := mv_inv_put (k := 0) (pc' := pc') (st' := st') I h he z oq
  obtain ⟨i1, i2, i3, i4, i5⟩ := I1
  refine ⟨i1, i2, i3, ⟨i4.1, i4.2.1, fun q hq => ?_⟩, i5⟩
  rcases List.mem_append.mp hq with h1 | h1
  · exact i4.2.2 q (List.mem_append.mpr (Or.inl h1))
  · show base ≤ q.base
    rw [hl q h1]
    exact i4.2.2 ⟨mv_ad base kt a, 0⟩ (List.mem_append.mpr (Or.inr (List.mem_singleton.mpr rfl)))
theorem mr_copy (hx : p.tables.exec = Jvm.exec) (hb : c.code = cc) (hml : c.maxLocals = nL) (hts : ∀ w ∈ Ts, w.before args s = true) {own : String} (hown : s.vm.findClass own = some m.cls) (hK : va_K D cl (mv_tys dA L) s) (hL : mv_okL L Ts G) {idx : Nat} (hok : mv_okM7 Ts own idx) (hdg : decode cc pc = .ok (.invokestatic idx, 3)) (hfb : fb ≤ R.frames) (hlb : lb ≤ R.locals)
    (h : mv_copy pc lo st hp cb sb fb lb = some S) (k : mv_K base (mv_ad base kt) dA D cl nL p l e R s m args below meth c Q S) : mv_K base (mv_ad base kt) dA D cl nL p l e R s m args below meth c Q (pc, lo, st, hp, cb, sb) := by
  intro H ls locs cells slots I
  unfold mv_copy at h
  split at h
  · rename_i n dp a1 sp a0 r
    split at h
    · rename_i t0 n0 f t1 n1 g h0 h1
      split at h
      · rename_i hc
        obtain ⟨⟨rfl, ht⟩, ⟨s1, s2, s3⟩, s4, s5, s6, s7, s8⟩ := hc
        cases h
        obtain ⟨at0, ad0, -⟩ := mv_inv_at I h0
        obtain ⟨at1, ad1, hl1⟩ := mv_inv_at I h1
        have hc0 : H[mv_ad base kt a0]? = some (vp_cell (dA t0) (n0, .inl f)) := at0
        have hc1 : H[mv_ad base kt a1]? = some (vp_cell (dA t0) (n1, .inl g)) := at1
        obtain ⟨ty, hty, hprim, hfit⟩ : ∃ ty : FieldType, L[t0]? = some ty ∧ refKind ty = false ∧ ∀ i, i < n.toNatClampNeg → fits ty (.int (f (sp.toNatClampNeg + i))) = true := by
          have hall : t0 ≠ 0 → ∀ i, i < n.toNatClampNeg → mv_fitT t0 (f (sp.toNatClampNeg + i)) = true := fun hne i hi => by
            rcases s6 with s6 | s6
            · exact absurd s6 hne
            · exact List.all_eq_true.mp s6 i (List.mem_range.mpr hi)
          have h012 : ∀ t : Nat, t < 3 → t = 0 ∨ t = 1 ∨ t = 2 := fun t h => by omega
          rcases h012 t0 ht with rfl | rfl | rfl
          · exact ⟨_, hL.1, rfl, fun _ _ => rfl⟩
          · exact ⟨_, hL.2.1, rfl, fun i hi => hall (by decide) i hi⟩
          · exact ⟨_, hL.2.2.1, rfl, fun i hi => hall (by decide) i hi⟩
        obtain ⟨k0, hk0⟩ := mv_tys_mem (dA := dA) hty
        obtain ⟨-, kk, hkk, cm, hkd⟩ := (hK.2 k0 _ hk0).1 n0 (fun j => .int (f j))
        have nn : ∀ z : Int32, ¬ z < 0 → z.toInt = (z.toNatClampNeg : Int) := by
          intro z hz
          have hz0 : (0 : Int) ≤ z.toInt := by
            have := Int32.not_lt.mp hz
            simpa using Int32.le_iff_toInt_le.mp this
          show z.toInt = ((z.toInt.toNat : Nat) : Int)
          omega
        obtain ⟨i1, -⟩ := id I
        have hsz : ls.size = c.maxLocals := i1.1.trans hml.symm
        intro T hT X
        obtain ⟨vm', X', step⟩ := X.arraycopy hx hown (hts _ hok.1) (hts _ hok.2.1) (hts _ hok.2.2.1) (hts _ hok.2.2.2) (src := mv_ad base kt a0) (dst := mv_ad base kt a1) (cs := vp_cell (dA t0) (n0, .inl f)) (cd := vp_cell (dA t0) (n1, .inl g)) (srcPos := sp) (destPos := dp) (n := n) (by rw [hT]; exact hc0) (by rw [hT]; exact hc1)
          (fun _ h => by cases h) (fun _ h => by cases h) (fun h => by cases h) (fun h => by cases h) hkk hkk hkd hkd (by simp [hprim]) s1 s2 s3
          (by rw [nn sp s1, nn n s3]; show ¬ _ > ((arrV (dA t0) n0 (fun j => .int (f j))).slots.size : Int); rw [arrV_size]; omega)
          (by rw [nn dp s2, nn n s3]; show ¬ _ > ((arrV (dA t0) n1 (fun j => .int (g j))).slots.size : Int); rw [arrV_size]; omega)
          (fun vm₁ _ i hi => by
            have e : (vp_cell (dA t0) (n0, .inl f)).slots.getD (sp.toNatClampNeg + i) .null = .int (f (sp.toNatClampNeg + i)) := by
              show (arrV (dA t0) n0 (fun j => .int (f j))).slots.getD _ _ = _
              rw [Array.getD_eq_getD_getElem?, arrV_read _ _ (by omega)]
              rfl
            refine ⟨?_, ?_⟩
            · rw [e]
              exact hfit i hi
            · rw [e]
              exact trivial)
          (g := F0 m pc ls (.int n :: .int dp :: .ref (mv_ad base kt a1) :: .int sp :: .ref (mv_ad base kt a0) :: r.map (mv_v (mv_ad base kt)))) rfl hsz (rest := r.map (mv_v (mv_ad base kt))) rfl (by rw [hb]; exact hdg) (Nat.le_trans s7 hfb) (by show 2 * 0 + ((r.map (mv_v (mv_ad base kt))).map fun v => v.category).sum + _ ≤ _; rw [List.map_map, show ((fun v : Value => v.category) ∘ mv_v (mv_ad base kt)) = (fun v : Value => v.category) from funext fun v => mv_v_cat _ v]; omega)
        have e1 : copied (vp_cell (dA t0) (n0, .inl f)) (vp_cell (dA t0) (n1, .inl g)) sp dp n = vp_cell (dA t0) (n1, .inl (va_cpy f g sp.toNatClampNeg dp.toNatClampNeg n.toNatClampNeg)) := va_copied (fun z => .int z) _ _ f g s4
        rw [e1] at X' step
        have hl : mv_ad base kt a1 < H.size := (Array.getElem?_eq_some_iff.mp hc1).1
        have hheap : ((T.setVm vm').setCell (mv_ad base kt a1) (vp_cell (dA t0) (n1, .inl (va_cpy f g sp.toNatClampNeg dp.toNatClampNeg n.toNatClampNeg)))).heap = H.setIfInBounds (mv_ad base kt a1) (vp_cell (dA t0) (n1, .inl (va_cpy f g sp.toNatClampNeg dp.toNatClampNeg n.toNatClampNeg))) := by rw [← hT]; rfl
        have I' := mv_inv_putL (pc' := pc + 3) (st' := r) (e1 := .inl (t0, n1, .inl (va_cpy f g sp.toNatClampNeg dp.toNatClampNeg n.toNatClampNeg))) (H1 := H.setIfInBounds (mv_ad base kt a1) (vp_cell (dA t0) (n1, .inl (va_cpy f g sp.toNatClampNeg dp.toNatClampNeg n.toNatClampNeg)))) (locs' := ((vp_cell (dA t0) (n0, .inl f)).stretch sp.toNatClampNeg n.toNatClampNeg).zipIdx.map fun q => ⟨mv_ad base kt a1, dp.toNatClampNeg + q.2⟩) I h1
          (by show (H.setIfInBounds _ _)[mv_ad base kt a1]? = some (vp_cell (dA t0) (n1, .inl _)); simp [Array.getElem?_setIfInBounds, hl]) (by simp) (fun q hq => by simp [Array.getElem?_setIfInBounds, Ne.symm hq]) (fun q hq => by
            obtain ⟨z, -, hz⟩ := List.mem_map.mp hq
            rw [← hz])
        obtain ⟨t, a, b⟩ := k _ ls _ cells slots I' _ hheap X'
        exact ⟨t, step t a, b⟩
      · cases h
    · cases h
  · cases h
theorem mv_none_at {H : Heap} {ls : Array Slot} {locs : List Loc} {cells slots : Nat} (I : mv_inv base (mv_ad base kt) dA D cl nL R s (pc, lo, st, hp, cb, sb) H ls locs cells slots) {a : Nat} {ce : Cell} (h : H[a]? = some ce) (hs : ce.vm.isStatics = true) : a < base := by
  rcases Nat.lt_or_ge a base with q | q
  · exact q
  · exfalso
    have hlt : a < H.size := (Array.getElem?_eq_some_iff.mp h).1
    have h3 : H.size = base + hp.length := I.2.2.1
    have h7 : hp.length + cb ≤ mv_big := I.2.2.2.2.2.2
    obtain ⟨e0, he⟩ : ∃ e0, hp[a - base]? = some e0 := ⟨_, List.getElem?_eq_getElem (by omega)⟩
    obtain ⟨at0, ad0, -⟩ := mv_inv_at I he
    rw [show mv_ad base kt (a - base) = a by rw [ad0]; omega] at at0
    rcases e0 with e0 | e0
    · obtain ⟨ci, q9, h9⟩ : ∃ (ci : ClassId) (q9 : vp_A), H[a]? = some (vp_cell ci q9) := by
        obtain ⟨t, n, f | f | f | f | f⟩ := e0 <;> exact ⟨_, _, at0⟩
      rw [h] at h9
      rw [Option.some.inj h9] at hs
      unfold vp_cell at hs
      split at hs <;> cases hs
    · obtain ⟨r, -, cell, q1, -, q3, -⟩ := at0
      rw [h] at q1
      cases q1
      rw [q3] at hs
      cases hs
theorem mr_made (hx : p.tables.exec = Jvm.exec) (htr : e.platform.stackTraces = false) (hb : c.code = cc) (hml : c.maxLocals = nL) (hts : ∀ w ∈ Ts, w.before args s = true) (hus : ∀ w ∈ Us, mv_kept base w s) {own : String} (hown : s.vm.findClass own = some m.cls) {tys : List (ClassId × FieldType)} (hK : va_K D cl tys s) (hI : ∀ q i n, mv_gI G y q = some (i, n) → decode cc q = .ok (i, n)) {idx : Nat}
    (hokN : ∀ (C : String) (T : u_T) (N : Nat), cl[mv_gX G]? = some (C, T, N) → Cond.classLink own idx C ∈ Ts ∧ Cond.instantiable C (mv_gZ G (mv_gX G)) ∈ Ts ∧ Cond.initialized C ∈ Ts) (hok8 : ∀ i3 z n, mv_gC G y i3 = some (8, z, n) → mv_okM8 cl Ts Us G own i3)
    (hstr : ∀ i2 a, mv_gK G y i2 = some (.ref a) → ∃ tx : String, vk_R own i2 tx (kt (a - mv_big)) s) (hdg : decode cc pc = .ok (.new idx, 3)) (hfb : fb ≤ R.frames) (hlb : lb ≤ R.locals)
    (h : mv_made G y pc lo st hp cb sb fb lb = some S) (k : mv_K base (mv_ad base kt) dA D cl nL p l e R s m args below meth c Q S) : mv_K base (mv_ad base kt) dA D cl nL p l e R s m args below meth c Q (pc, lo, st, hp, cb, sb) := by
  intro H ls locs cells slots I
  unfold mv_made at h
  split at h
  · rename_i i2 i3 e3 e4 e7
    split at h
    · rename_i a kd z0 n0 hk hc
      split at h
      · rename_i hq
        obtain ⟨rfl, c1, c2, c3, c4⟩ := hq
        cases h
        obtain ⟨⟨T0, hcl⟩, hw⟩ := hok8 _ _ _ hc
        obtain ⟨n1, n2, n3⟩ := hokN _ _ _ hcl
        have hat : ∀ w ∈ Bundle.ownAtoms own i3 mv_ISE mv_up, w.before args s = true := fun w hw' => by
          rcases hw w hw' with q | q
          · exact hts _ q
          · exact (hus _ q).use args
        have hKn := hK.1 _ _ hcl
        have hinst := hat (.instantiable mv_ISE 6) (by simp [Bundle.ownAtoms])
        obtain ⟨tx, hZ⟩ := hstr _ _ hk
        have I5 : cells + cb ≤ R.cells := I.2.2.2.2.1
        have I6 : slots + sb ≤ R.slots := I.2.2.2.2.2.1
        have hls : ls.size = c.maxLocals := I.1.1.trans hml.symm
        refine W.newcK hx hb hown (hts _ n1) hinst (hts _ n3) rfl hdg (by omega) (by omega) hKn.2.1 rfl fun H1 kC hkC e1 z1 o1 => ?_
        obtain ⟨I1, hz⟩ := mv_inv_new (pc' := pc + 3) (st' := .ref hp.length :: st) (H1 := H1) (e1 := .inr (mv_gX G, [])) (n := 6) I c1 c2 ⟨_, hcl, _, e1, rfl, rfl, fun k hk => absurd hk (Nat.not_lt_zero k)⟩ z1 o1
        refine lv_dup hx hb (hI _ _ _ e3) rfl ?_
        refine mv_ldcwS hx hb hown hZ (hI _ _ _ e4) ?_
        intro T hT X
        have hlow : ∀ (aS : Nat) (c0 : Cell), s.heap[aS]? = some c0 → c0.vm.isStatics = true → (∀ i, (⟨aS, i⟩ : Loc) ∉ locs) ∧ aS ≠ H.size := by
          intro aS c0 h1 h2
          obtain ⟨cS, hS, heS, -, -⟩ := X.same.2.2.2.2.2 aS c0 h1
          have h3 : H1[aS]? = some cS := by rw [← hT]; exact hS
          have h4 := mv_none_at I1 h3 (by rw [heS]; exact h2)
          have hb2 : base ≤ H.size := by have h5 : H.size = base + hp.length := I.2.2.1; omega
          refine ⟨fun i hi => ?_, by omega⟩
          have h5 : base ≤ aS := I.2.2.2.1.2.2 _ hi
          omega
        obtain ⟨vm', ce, L1, X', hL1, q1, q2, step⟩ := mv_ctor X hx htr hown (cls := mv_ISE) (names := mv_up) (by decide +kernel) (by decide +kernel) hat hlow hKn.2.1 hkC (by rw [hT]; exact e1) (msg := .ref (kt (a - mv_big))) rfl (g := F0 m (pc + 7) ls (.ref (kt (a - mv_big)) :: .ref H.size :: .ref H.size :: st.map (mv_v (mv_ad base kt)))) rfl hls (rest := .ref H.size :: st.map (mv_v (mv_ad base kt))) rfl (by rw [hb]; exact hI _ _ _ e7)
          (by show 2 + 3 < R.frames; omega) (by
            show 2 * 0 + ((Value.ref H.size :: st.map (mv_v (mv_ad base kt))).map fun v => v.category).sum + (13 * (2 + 1) + 42) ≤ R.locals
            rw [List.map_cons, List.sum_cons, List.map_map, show ((fun v : Value => v.category) ∘ mv_v (mv_ad base kt)) = (fun v : Value => v.category) from funext fun v => mv_v_cat _ v]
            show 2 * 0 + (1 + _) + _ ≤ _
            omega)
        have hl : H.size < H1.size := by omega
        have hheap : ((T.setVm vm').setCell H.size ce).heap = H1.setIfInBounds H.size ce := by rw [← hT]; rfl
        have hat1 : (hp ++ [Sum.inr (mv_gX G, [])])[hp.length]? = some (Sum.inr (mv_gX G, []) : va_E) := by simp
        have I2 := mv_inv_putL (pc' := pc + 10) (st' := .ref hp.length :: st) (e1 := .inr (mv_gX G, [])) (H1 := H1.setIfInBounds H.size ce) (locs' := L1) I1 hat1
          (by
            rw [hz]
            exact ⟨_, hcl, ce, by show (H1.setIfInBounds H.size ce)[H.size]? = some ce; simp [Array.getElem?_setIfInBounds, hl], q1, q2, fun k hk => absurd hk (Nat.not_lt_zero k)⟩) (by simp) (fun q hq => by
              rw [hz] at hq
              simp [Array.getElem?_setIfInBounds, Ne.symm hq]) (fun q hq => by rw [hz]; exact hL1 q hq)
        have hset : (hp ++ [(Sum.inr (mv_gX G, []) : va_E)]).set hp.length (Sum.inr (mv_gX G, []) : va_E) = hp ++ [(Sum.inr (mv_gX G, []) : va_E)] := by simp
        rw [hset] at I2
        obtain ⟨t, b1, b2⟩ := mv_new_eq (H := H) hz k I2 _ hheap X'
        exact ⟨t, step t b1, b2⟩
      · cases h
    · cases h
  · cases h
/-- the arrays that were there before, as a state has them -/
def mv_okX (G : mv_G) (base : Nat) (kt : Nat → Nat) (s : State) : Prop := base ≤ s.heap.size ∧ ∀ a n f, mv_gS G a = some (n, f) → mv_big ≤ a ∧ kt (a - mv_big) < base ∧ va_X (kt (a - mv_big)) n f s s.heap
theorem mv_ad_big {a : Nat} (h : mv_big ≤ a) : mv_ad base kt a = kt (a - mv_big) := by
  rw [mv_ad, if_neg (by omega)]
theorem mr_xald (hx : p.tables.exec = Jvm.exec) (hb : c.code = cc) (hX : mv_okX G base kt s) (hdg : decode cc pc = .ok (.iaload, 1)) (h : mv_xald G pc lo st hp cb sb = some S) (k : mv_K base (mv_ad base kt) dA D cl nL p l e R s m args below meth c Q S) : mv_K base (mv_ad base kt) dA D cl nL p l e R s m args below meth c Q (pc, lo, st, hp, cb, sb) := by
  intro H ls locs cells slots I
  unfold mv_xald at h
  split at h
  · rename_i i a r
    split at h
    · rename_i n f hs
      split at h
      · rename_i ho
        cases h
        obtain ⟨h0, h1⟩ := hX
        obtain ⟨h2, h3, h4⟩ := h1 _ _ _ hs
        have e1 : (Value.int i :: Value.ref a :: r).map (mv_v (mv_ad base kt)) = .int i :: .ref (kt (a - mv_big)) :: r.map (mv_v (mv_ad base kt)) := by
          show Value.int i :: Value.ref (mv_ad base kt a) :: _ = _
          rw [mv_ad_big h2]
        show W p l e R s m args below meth c H locs cells slots Q (F0 m pc ls ((Value.int i :: Value.ref a :: r).map (mv_v (mv_ad base kt))))
        rw [e1]
        refine va_sld hx hb h4 (by omega) (show ¬ base ≤ _ by omega) I.2.2.2.1 ?_ hdg (k H ls locs cells slots I)
        intro q
        have : mv_out i n = true := decide_eq_true q
        rw [ho] at this
        cases this
      · cases h
    · cases h
  · cases h
theorem mr_xlen (hx : p.tables.exec = Jvm.exec) (hb : c.code = cc) (hX : mv_okX G base kt s) (hdg : decode cc pc = .ok (.arraylength, 1)) (h : mv_xlen G pc lo st hp cb sb = some S) (k : mv_K base (mv_ad base kt) dA D cl nL p l e R s m args below meth c Q S) : mv_K base (mv_ad base kt) dA D cl nL p l e R s m args below meth c Q (pc, lo, st, hp, cb, sb) := by
  intro H ls locs cells slots I
  unfold mv_xlen at h
  split at h
  · rename_i a r
    split at h
    · rename_i n f hs
      cases h
      obtain ⟨h0, h1⟩ := hX
      obtain ⟨h2, h3, h4⟩ := h1 _ _ _ hs
      have e1 : (Value.ref a :: r).map (mv_v (mv_ad base kt)) = .ref (kt (a - mv_big)) :: r.map (mv_v (mv_ad base kt)) := by
        show Value.ref (mv_ad base kt a) :: _ = _
        rw [mv_ad_big h2]
      show W p l e R s m args below meth c H locs cells slots Q (F0 m pc ls ((Value.ref a :: r).map (mv_v (mv_ad base kt))))
      rw [e1]
      exact va_slen hx hb h4 (by omega) (show ¬ base ≤ _ by omega) I.2.2.2.1 hdg (k H ls locs cells slots I)
    · cases h
  · cases h
def mv_okM9 (Ts : List Jvm.Cond) (own : String) (idx : Nat) : Prop := Cond.methodLink own idx Lib.objectInit ∈ Ts ∧ Cond.instanceMethod Lib.objectInit ∈ Ts ∧ Cond.code Lib.objectInit ⟨#[0xb1]⟩ 1 none ∈ Ts
theorem mr_oini (hx : p.tables.exec = Jvm.exec) (hb : c.code = cc) (hml : c.maxLocals = nL) (hts : ∀ w ∈ Ts, w.before args s = true) {own : String} (hown : s.vm.findClass own = some m.cls) {idx : Nat} (hok : mv_okM9 Ts own idx) (hdg : decode cc pc = .ok (.invokespecial idx, 3)) (hfb : fb ≤ R.frames) (hlb : lb ≤ R.locals)
    (h : mv_oini pc lo st hp cb sb fb lb = some S) (k : mv_K base (mv_ad base kt) dA D cl nL p l e R s m args below meth c Q S) : mv_K base (mv_ad base kt) dA D cl nL p l e R s m args below meth c Q (pc, lo, st, hp, cb, sb) := by
  intro H ls locs cells slots I
  unfold mv_oini at h
  split at h
  · rename_i a r
    split at h
    · rename_i hq
      cases h
      have hsz : ls.size = c.maxLocals := I.1.1.trans hml.symm
      exact W.objInit hx hb hown (hts _ hok.1) (hts _ hok.2.1) (hts _ hok.2.2) (g := F0 m pc ls ((Value.ref a :: r).map (mv_v (mv_ad base kt)))) rfl hsz (a := mv_ad base kt a) (rest := r.map (mv_v (mv_ad base kt))) rfl hdg (Nat.le_trans hq.1 hfb) (by
        show 2 * 0 + ((r.map (mv_v (mv_ad base kt))).map fun v => v.category).sum + 12 ≤ R.locals
        rw [List.map_map, show ((fun v : Value => v.category) ∘ mv_v (mv_ad base kt)) = (fun v : Value => v.category) from funext fun v => mv_v_cat _ v]
        omega) (k H ls locs cells slots I)
    · cases h
  · cases h
/-- the calls that have no bytecode: what stands in the tables -/
def mv_okN8 (Nm : Nat → MethodName) (cl : List vw_C) (Ts Us : List Jvm.Cond) (G : mv_G) : Prop := ∀ y idx kd z n, mv_gC G y idx = some (kd, z, n) → (kd = 7 → mv_okM7 Ts (Nm y).cls idx) ∧ (kd = 8 → mv_okM8 cl Ts Us G (Nm y).cls idx) ∧ (kd = 9 → mv_okM9 Ts (Nm y).cls idx)
theorem mr_nat {Cd : Nat → ByteArray} (hV : mv_okG Nm Cd cl L Ts G) (hN : mv_okN8 Nm cl Ts Us G) (hL : mv_okL L Ts G) (hx : p.tables.exec = Jvm.exec) (htr : e.platform.stackTraces = false) (hb : c.code = Cd y) (hml : c.maxLocals = nL) (hts : ∀ w ∈ Ts, w.before args s = true) (hus : ∀ w ∈ Us, mv_kept base w s) (hown : s.vm.findClass (Nm y).cls = some m.cls) (hK : va_K D cl (mv_tys dA L) s) (hstr : mv_okT Nm G kt s y) (hX : mv_okX G base kt s) (hfb : fb ≤ R.frames) (hlb : lb ≤ R.locals) {S S' : mv_S}
    (h : mv_nat G y fb lb S = some S') (k : mv_K base (mv_ad base kt) dA D cl nL p l e R s m args below meth c Q S') : mv_K base (mv_ad base kt) dA D cl nL p l e R s m args below meth c Q S := by
  obtain ⟨pc, lo, st, hp, cb, sb⟩ := S
  unfold mv_nat at h
  split at h
  · rename_i idx hI
    split at h
    · rename_i kd z n hc
      split at h
      · rename_i hk
        exact mr_copy hx hb hml hts hown hK hL ((hN _ _ _ _ _ hc).1 hk) (hV.1 _ _ _ _ hI) hfb hlb h k
      · cases h
    · cases h
  · rename_i idx hI
    split at h
    · rename_i ci hc
      split at h
      · rename_i hci
        subst hci
        exact mr_made hx htr hb hml hts hus hown hK (fun q i n hq => hV.1 _ _ _ _ hq) (hV.2.2.1 _ _ _ hc).2 (fun i3 z n hq => (hN _ _ _ _ _ hq).2.1 rfl) (fun i2 a hq => (hstr _ _ hq).2) (hV.1 _ _ _ _ hI) hfb hlb h k
      · cases h
    · cases h
  · rename_i idx hI
    split at h
    · rename_i kd z n hc
      split at h
      · rename_i hk
        exact mr_oini hx hb hml hts hown ((hN _ _ _ _ _ hc).2.2 hk) (hV.1 _ _ _ _ hI) hfb hlb h k
      · cases h
    · cases h
  · rename_i hI
    exact mr_xald hx hb hX (hV.1 _ _ _ _ hI) h k
  · rename_i hI
    exact mr_xlen hx hb hX (hV.1 _ _ _ _ hI) h k
  · cases h
end MVN
end
section
/-! the small machine: its run, and that the real machine does what it does -/
def mv_g (n k : Nat) (r : Option mv_R) : Option mv_R := if n = k then r else none
theorem mv_g_eq {n k : Nat} {r : Option mv_R} {x : mv_R} (h : mv_g n k r = some x) : n = k ∧ r = some x := by
  unfold mv_g at h
  split at h
  · rename_i e
    exact ⟨e, h⟩
  · cases h
def mv_og : Option mv_R → Option mv_R
  | some (.inl S) => some (.inl S)
  | _ => none
theorem mv_og_eq {r : Option mv_R} {x : mv_R} (h : mv_og r = some x) : ∃ S, x = .inl S ∧ r = some (.inl S) := by
  unfold mv_og at h
  split at h
  · cases h
    exact ⟨_, rfl, rfl⟩
  · cases h
def mv_ins (G : mv_G) (y pc : Nat) (l : List (Nat × Value)) (st : List Value) (hp : List va_E) (cb sb n : Nat) : Instr → Option mv_R
  | .aconst_null => mv_g n 1 (mv_push pc l st hp cb sb 1 .null)
  | .iconst v => mv_g n 1 (mv_push pc l st hp cb sb 1 (.int (Int32.ofInt v)))
  | .bipush v => mv_g n 2 (mv_push pc l st hp cb sb 2 (.int (Int8.ofInt v).toInt32))
  | .sipush v => mv_g n 3 (mv_push pc l st hp cb sb 3 (.int (Int16.ofInt v).toInt32))
  | .iload i => mv_g n 2 (mv_load pc l st hp cb sb i 2 mv_int)
  | .iload_n i => mv_g n 1 (mv_load pc l st hp cb sb i 1 mv_int)
  | .aload i => mv_g n 2 (mv_load pc l st hp cb sb i 2 mv_rfv)
  | .aload_n i => mv_g n 1 (mv_load pc l st hp cb sb i 1 mv_rfv)
  | .istore i => mv_g n 2 (mv_store G y pc l st hp cb sb i 2 mv_int)
  | .istore_n i => mv_g n 1 (mv_store G y pc l st hp cb sb i 1 mv_int)
  | .astore i => mv_g n 2 (mv_store G y pc l st hp cb sb i 2 mv_rfv)
  | .astore_n i => mv_g n 1 (mv_store G y pc l st hp cb sb i 1 mv_rfv)
  | .iadd => mv_g n 1 (mv_bin pc l st hp cb sb mv_f_iadd)
  | .isub => mv_g n 1 (mv_bin pc l st hp cb sb mv_f_isub)
  | .imul => mv_g n 1 (mv_bin pc l st hp cb sb mv_f_imul)
  | .iand => mv_g n 1 (mv_bin pc l st hp cb sb mv_f_iand)
  | .ior => mv_g n 1 (mv_bin pc l st hp cb sb mv_f_ior)
  | .ixor => mv_g n 1 (mv_bin pc l st hp cb sb mv_f_ixor)
  | .ishl => mv_g n 1 (mv_bin pc l st hp cb sb mv_f_ishl)
  | .ishr => mv_g n 1 (mv_bin pc l st hp cb sb mv_f_ishr)
  | .iushr => mv_g n 1 (mv_bin pc l st hp cb sb mv_f_iushr)
  | .idiv => mv_g n 1 (mv_dvd pc l st hp cb sb mv_f_idiv)
  | .irem => mv_g n 1 (mv_dvd pc l st hp cb sb mv_f_irem)
  | .ineg => mv_g n 1 (mv_un pc l st hp cb sb mv_f_ineg)
  | .i2b => mv_g n 1 (mv_un pc l st hp cb sb mv_f_i2b)
  | .i2c => mv_g n 1 (mv_un pc l st hp cb sb mv_f_i2c)
  | .dup => mv_g n 1 (mv_dup pc l st hp cb sb)
  | .pop => mv_g n 1 (mv_pop pc l st hp cb sb)
  | .dup_x1 => mv_g n 1 (mv_dupx pc l st hp cb sb)
  | .dup2 => mv_g n 1 (mv_dup2 pc l st hp cb sb)
  | .goto off => mv_g n 3 (mv_jump pc l hp cb sb off true st)
  | .ifnull off => mv_g n 3 (mv_ifn pc l st hp cb sb true off)
  | .ifnonnull off => mv_g n 3 (mv_ifn pc l st hp cb sb false off)
  | .getfield idx => mv_g n 3 (mv_get G y pc l st hp cb sb idx)
  | .putfield idx => mv_g n 3 (mv_put G y pc l st hp cb sb idx)
  | .new idx => mv_g n 3 (mv_new G y pc l st hp cb sb idx)
  | .newarray at_ => mv_g n 2 (mv_newa pc l st hp cb sb at_)
  | .anewarray idx => mv_g n 3 (mv_anew G y pc l st hp cb sb idx)
  | .iaload => mv_g n 1 (mv_iald pc l st hp cb sb)
  | .baload => mv_g n 1 (mv_bald pc l st hp cb sb)
  | .aaload => mv_g n 1 (mv_aald G pc l st hp cb sb)
  | .iastore => mv_g n 1 (mv_iast pc l st hp cb sb)
  | .bastore => mv_g n 1 (mv_bast pc l st hp cb sb)
  | .arraylength => mv_g n 1 (mv_alen G pc l st hp cb sb)
  | .ldc idx => mv_g n 2 (mv_ldc G y pc l st hp cb sb idx 2)
  | .ldc_w idx => mv_g n 3 (mv_ldc G y pc l st hp cb sb idx 3)
  | .multianewarray idx d => mv_g n 4 (mv_multi G y pc l st hp cb sb idx d)
  | .aastore => mv_g n 1 (mv_aast G pc l st hp cb sb)
  | .iinc i v => if n = 3 then mv_inc G y pc l st hp cb sb i v 3 else mv_g n 6 (mv_inc G y pc l st hp cb sb i v 6)
  | .ifCond c off => mv_g n 3 (mv_if pc l st hp cb sb c off)
  | .if_icmp c off => mv_g n 3 (mv_icmp pc l st hp cb sb c off)
  | .if_acmp c off => mv_g n 3 (mv_acmp pc l st hp cb sb c off)
  | .tableswitch d lw hg offs => mv_tsw pc l st hp cb sb d lw hg offs
  | .lookupswitch d ps => mv_lsw pc l st hp cb sb d ps
  | _ => none
/-- one instruction -/
def mv_exec (G : mv_G) (y : Nat) (S : mv_S) : Option mv_R := match mv_gI G y S.1 with
  | none => none
  | some (i, n) => match i with
    | .invokestatic idx => mv_g n 3 (mv_callS G y S.2.2.1 idx)
    | .invokevirtual idx => mv_g n 3 (mv_callV G y S.2.2.1 S.2.2.2.1 idx)
    | .invokespecial idx => mv_g n 3 (mv_callI G y S.2.2.1 idx)
    | .ireturn => mv_g n 1 (mv_iret G y S.2.2.1)
    | .areturn => mv_g n 1 (mv_aret G y S.2.2.1)
    | .return_ => mv_g n 1 (mv_vret G y S.2.2.1)
    | .athrow => mv_g n 1 (mv_throw S.2.2.1)
    | i => mv_og (mv_ins G y S.1 S.2.1 S.2.2.1 S.2.2.2.1 S.2.2.2.2.1 S.2.2.2.2.2 n i)
/-- a has been thrown at S: out of the method, or into its handler -/
def mv_take (G : mv_G) (y : Nat) (k : mv_S → Option mv_E) (a : Nat) (S : mv_S) : Option mv_E := match mv_hand (mv_gH G y) S.1 with
  | none => some (.inl a, S.2.2.2.1, S.2.2.2.2.1, S.2.2.2.2.2)
  | some (h, _) => match S.2.2.2.1[a]? with
    | some (.inr (ci, _)) => if ci = mv_gX G then k (h, S.2.1, [.ref a], S.2.2.2.1, S.2.2.2.2.1, S.2.2.2.2.2) else none
    | _ => none
def mv_run (G : mv_G) : Nat → Nat → Nat → Nat → mv_S → Option mv_E
  | 0, _, _, _, _ => none
  | n + 1, y, fb, lb, S => match mv_nat G y fb lb S with
   | some S' => mv_run G n y fb lb S'
   | none => match mv_exec G y S with
    | none => none
    | some (.inl S') => mv_run G n y fb lb S'
    | some (.inr (.inl (z, as, r, len))) =>
      if 1 ≤ fb ∧ (r.map fun v => v.category).sum + (mv_gL G z + 11) ≤ lb ∧ (lg_sl as).length ≤ mv_gL G z then
        match mv_run G n z (fb - 1) (lb - ((r.map fun v => v.category).sum + (mv_gL G z + 11))) (0, lv_args 0 as, [], S.2.2.2.1, S.2.2.2.2.1, S.2.2.2.2.2) with
        | none => none
        | some (.inr v, hp, cb, sb) => mv_run G n y fb lb (S.1 + len, S.2.1, v.toList ++ r, hp, cb, sb)
        | some (.inl a, hp, cb, sb) => mv_take G y (mv_run G n y fb lb) a (S.1, S.2.1, [], hp, cb, sb)
      else none
    | some (.inr (.inr (.inl v))) => some (.inr v, S.2.2.2.1, S.2.2.2.2.1, S.2.2.2.2.2)
    | some (.inr (.inr (.inr a))) => mv_take G y (mv_run G n y fb lb) a S
section MVX
variable {base : Nat} {kt dA : Nat → Nat} {D : va_G} {cl : List vw_C} {nL : Nat} {p : Program} {l : Launch} {e : Env} {R : Room} {s : State} {m : MethodId} {args : Array Value} {below : List Frame} {meth : Method} {c : Code} {Q : State → Prop} {cc : ByteArray} {G : mv_G} {y pc : Nat} {lo : List (Nat × Value)} {st : List Value} {hp : List va_E} {cb sb : Nat} {S : mv_S} {Nm : Nat → MethodName} {Cd : Nat → ByteArray} {Ts : List Cond} {L : List FieldType}
set_option maxHeartbeats 2000000 in
theorem mr_ins (hx : p.tables.exec = Jvm.exec) (hb : c.code = cc) (hn : mv_gL G y = nL) (hts : ∀ w ∈ Ts, w.before args s = true) (hown : s.vm.findClass (Nm y).cls = some m.cls) (hname : meth.name = (Nm y).name) (hK : va_K D cl (mv_tys dA L) s) (hV : mv_okG Nm Cd cl L Ts G) (hL : mv_okL L Ts G) (hE : mv_okE cl L G) (hstr : mv_okT Nm G kt s y) (hi : ∀ i j, i < mv_big → j < mv_big → mv_ad base kt i = mv_ad base kt j → i = j) {i : Instr} {n : Nat} (hdg : decode cc pc = .ok (i, n)) (h : mv_ins G y pc lo st hp cb sb n i = some (.inl S)) (k : mv_K base (mv_ad base kt) dA D cl nL p l e R s m args below meth c Q S) : mv_K base (mv_ad base kt) dA D cl nL p l e R s m args below meth c Q (pc, lo, st, hp, cb, sb) := by
  cases i
  case aaload =>
    obtain ⟨rfl, h⟩ := mv_g_eq h
    exact mr_aald hx hb hK hL.2.2.2.2.2.2 hdg h k
  case aastore =>
    obtain ⟨rfl, h⟩ := mv_g_eq h
    exact mr_aast hx hb hK hE hdg h k
  case aconst_null =>
    obtain ⟨rfl, h⟩ := mv_g_eq h
    exact mr_null hx hb hdg h k
  case aload i =>
    obtain ⟨rfl, h⟩ := mv_g_eq h
    exact mr_aload hx hb hdg h k
  case aload_n i =>
    obtain ⟨rfl, h⟩ := mv_g_eq h
    exact mr_aload_n hx hb hdg h k
  case anewarray idx =>
    obtain ⟨rfl, h⟩ := mv_g_eq h
    exact mr_anew hx hb hts hown hK hdg (hV.2.2.2.1 _ _) h k
  case areturn => cases h
  case arraylength =>
    obtain ⟨rfl, h⟩ := mv_g_eq h
    exact mr_alen hx hb hK hL.2.2.2.2.2.2 hdg h k
  case astore i =>
    obtain ⟨rfl, h⟩ := mv_g_eq h
    exact mr_astore hx hb hn hdg h k
  case astore_n i =>
    obtain ⟨rfl, h⟩ := mv_g_eq h
    exact mr_astore_n hx hb hn hdg h k
  case athrow => cases h
  case baload =>
    obtain ⟨rfl, h⟩ := mv_g_eq h
    exact mr_bald hx hb hK hL.2.1 hL.2.2.1 hdg h k
  case bastore =>
    obtain ⟨rfl, h⟩ := mv_g_eq h
    exact mr_bast hx hb hK hL.2.1 hL.2.2.1 hdg h k
  case bipush v =>
    obtain ⟨rfl, h⟩ := mv_g_eq h
    exact mr_bipush hx hb hdg h k
  case caload => cases h
  case castore => cases h
  case checkcast => cases h
  case d2f => cases h
  case d2i => cases h
  case d2l => cases h
  case dadd => cases h
  case daload => cases h
  case dastore => cases h
  case dcmp => cases h
  case dconst => cases h
  case ddiv => cases h
  case dload => cases h
  case dload_n => cases h
  case dmul => cases h
  case dneg => cases h
  case drem => cases h
  case dreturn => cases h
  case dstore => cases h
  case dstore_n => cases h
  case dsub => cases h
  case dup =>
    obtain ⟨rfl, h⟩ := mv_g_eq h
    exact mr_dup hx hb hdg h k
  case dup_x1 =>
    obtain ⟨rfl, h⟩ := mv_g_eq h
    exact mr_dup_x1 hx hb hdg h k
  case dup_x2 => cases h
  case dup2 =>
    obtain ⟨rfl, h⟩ := mv_g_eq h
    exact mr_dup2 hx hb hdg h k
  case dup2_x1 => cases h
  case dup2_x2 => cases h
  case f2d => cases h
  case f2i => cases h
  case f2l => cases h
  case fadd => cases h
  case faload => cases h
  case fastore => cases h
  case fcmp => cases h
  case fconst => cases h
  case fdiv => cases h
  case fload => cases h
  case fload_n => cases h
  case fmul => cases h
  case fneg => cases h
  case frem => cases h
  case freturn => cases h
  case fstore => cases h
  case fstore_n => cases h
  case fsub => cases h
  case getfield idx =>
    obtain ⟨rfl, h⟩ := mv_g_eq h
    exact mr_get hx hb hts hown hK hdg (fun ci k0 hf => (hV.2.1 _ _ _ _ hf).1) h k
  case getstatic => cases h
  case goto off =>
    obtain ⟨rfl, h⟩ := mv_g_eq h
    exact mr_goto hx hb hdg h k
  case goto_w => cases h
  case i2b =>
    obtain ⟨rfl, h⟩ := mv_g_eq h
    exact mr_i2b hx hb hdg h k
  case i2c =>
    obtain ⟨rfl, h⟩ := mv_g_eq h
    exact mr_i2c hx hb hdg h k
  case i2d => cases h
  case i2f => cases h
  case i2l => cases h
  case i2s => cases h
  case iadd =>
    obtain ⟨rfl, h⟩ := mv_g_eq h
    exact mr_iadd hx hb hdg h k
  case iaload =>
    obtain ⟨rfl, h⟩ := mv_g_eq h
    exact mr_iald hx hb hK hL.1 hdg h k
  case iand =>
    obtain ⟨rfl, h⟩ := mv_g_eq h
    exact mr_iand hx hb hdg h k
  case iastore =>
    obtain ⟨rfl, h⟩ := mv_g_eq h
    exact mr_iast hx hb hK hL.1 hdg h k
  case iconst v =>
    obtain ⟨rfl, h⟩ := mv_g_eq h
    exact mr_iconst hx hb hdg h k
  case idiv =>
    obtain ⟨rfl, h⟩ := mv_g_eq h
    exact mr_idiv hx hb hdg h k
  case if_acmp c0 off =>
    obtain ⟨rfl, h⟩ := mv_g_eq h
    cases c0
    case eq => exact mr_acmp_eq hx hb hi hdg h k
    case ne => exact mr_acmp_ne hx hb hi hdg h k
  case if_icmp c0 off =>
    obtain ⟨rfl, h⟩ := mv_g_eq h
    cases c0
    case eq => exact mr_icmp_eq hx hb hdg h k
    case ne => exact mr_icmp_ne hx hb hdg h k
    case lt => exact mr_icmp_lt hx hb hdg h k
    case ge => exact mr_icmp_ge hx hb hdg h k
    case gt => exact mr_icmp_gt hx hb hdg h k
    case le => exact mr_icmp_le hx hb hdg h k
  case ifCond c0 off =>
    obtain ⟨rfl, h⟩ := mv_g_eq h
    cases c0
    case eq => exact mr_if_eq hx hb hdg h k
    case ne => exact mr_if_ne hx hb hdg h k
    case lt => exact mr_if_lt hx hb hdg h k
    case ge => exact mr_if_ge hx hb hdg h k
    case gt => exact mr_if_gt hx hb hdg h k
    case le => exact mr_if_le hx hb hdg h k
  case ifnonnull off =>
    obtain ⟨rfl, h⟩ := mv_g_eq h
    exact mr_ifnonnull hx hb hdg h k
  case ifnull off =>
    obtain ⟨rfl, h⟩ := mv_g_eq h
    exact mr_ifnull hx hb hdg h k
  case iinc i v =>
    simp only [mv_ins] at h
    split at h
    · rename_i e
      subst e
      exact mr_inc hx hb hn hdg h k
    · obtain ⟨rfl, h⟩ := mv_g_eq h
      exact mr_incW hx hb hn hdg h k
  case iload i =>
    obtain ⟨rfl, h⟩ := mv_g_eq h
    exact mr_iload hx hb hdg h k
  case iload_n i =>
    obtain ⟨rfl, h⟩ := mv_g_eq h
    exact mr_iload_n hx hb hdg h k
  case imul =>
    obtain ⟨rfl, h⟩ := mv_g_eq h
    exact mr_imul hx hb hdg h k
  case ineg =>
    obtain ⟨rfl, h⟩ := mv_g_eq h
    exact mr_ineg hx hb hdg h k
  case instanceof => cases h
  case invokedynamic => cases h
  case invokeinterface => cases h
  case invokespecial => cases h
  case invokestatic => cases h
  case invokevirtual => cases h
  case ior =>
    obtain ⟨rfl, h⟩ := mv_g_eq h
    exact mr_ior hx hb hdg h k
  case irem =>
    obtain ⟨rfl, h⟩ := mv_g_eq h
    exact mr_irem hx hb hdg h k
  case ireturn => cases h
  case ishl =>
    obtain ⟨rfl, h⟩ := mv_g_eq h
    exact mr_ishl hx hb hdg h k
  case ishr =>
    obtain ⟨rfl, h⟩ := mv_g_eq h
    exact mr_ishr hx hb hdg h k
  case istore i =>
    obtain ⟨rfl, h⟩ := mv_g_eq h
    exact mr_istore hx hb hn hdg h k
  case istore_n i =>
    obtain ⟨rfl, h⟩ := mv_g_eq h
    exact mr_istore_n hx hb hn hdg h k
  case isub =>
    obtain ⟨rfl, h⟩ := mv_g_eq h
    exact mr_isub hx hb hdg h k
  case iushr =>
    obtain ⟨rfl, h⟩ := mv_g_eq h
    exact mr_iushr hx hb hdg h k
  case ixor =>
    obtain ⟨rfl, h⟩ := mv_g_eq h
    exact mr_ixor hx hb hdg h k
  case jsr => cases h
  case jsr_w => cases h
  case l2d => cases h
  case l2f => cases h
  case l2i => cases h
  case ladd => cases h
  case laload => cases h
  case land => cases h
  case lastore => cases h
  case lcmp => cases h
  case lconst => cases h
  case ldc idx =>
    obtain ⟨rfl, h⟩ := mv_g_eq h
    exact mr_ldc hx hb hts hown hdg (hV.2.2.2.2.1 _ _) (hstr _) h k
  case ldc_w idx =>
    obtain ⟨rfl, h⟩ := mv_g_eq h
    exact mr_ldcw hx hb hts hown hdg (hV.2.2.2.2.1 _ _) (hstr _) h k
  case ldc2_w => cases h
  case ldiv => cases h
  case lload => cases h
  case lload_n => cases h
  case lmul => cases h
  case lneg => cases h
  case lookupswitch d ps => exact mr_lsw hx hb hdg h k
  case lor => cases h
  case lrem => cases h
  case lreturn => cases h
  case lshl => cases h
  case lshr => cases h
  case lstore => cases h
  case lstore_n => cases h
  case lsub => cases h
  case lushr => cases h
  case lxor => cases h
  case monitorenter => cases h
  case monitorexit => cases h
  case multianewarray idx d =>
    obtain ⟨rfl, h⟩ := mv_g_eq h
    exact mr_multi hx hb hts hown hK hdg (hV.2.2.2.2.2.1 _ _) h k
  case new idx =>
    obtain ⟨rfl, h⟩ := mv_g_eq h
    exact mr_new hx hb hts hown hK hdg (fun ci hf => (hV.2.2.1 _ _ _ hf).1) (fun ci C T N hf hc => (hV.2.2.1 _ _ _ hf).2 C T N hc) h k
  case newarray at_ =>
    obtain ⟨rfl, h⟩ := mv_g_eq h
    exact mr_newa hx hb hts hK hL.1 hL.2.1 hL.2.2.1 hL.2.2.2.1 hL.2.2.2.2.1 hL.2.2.2.2.2.1 hdg h k
  case nop => cases h
  case pop =>
    obtain ⟨rfl, h⟩ := mv_g_eq h
    exact mr_pop hx hb hdg h k
  case pop2 => cases h
  case putfield idx =>
    obtain ⟨rfl, h⟩ := mv_g_eq h
    exact mr_put hx hb hts hown hK hdg (fun ci k0 hf => (hV.2.1 _ _ _ _ hf).1) (fun ci k0 hf => (hV.2.1 _ _ _ _ hf).2.1) (fun ci k0 hf h1 h2 => mv_okP_of hname ((hV.2.1 _ _ _ _ hf).2.2 h1 h2)) h k
  case putstatic => cases h
  case ret => cases h
  case return_ => cases h
  case saload => cases h
  case sastore => cases h
  case sipush v =>
    obtain ⟨rfl, h⟩ := mv_g_eq h
    exact mr_sipush hx hb hdg h k
  case swap => cases h
  case tableswitch d lw hg offs => exact mr_tsw hx hb hdg h k
end MVX
/-- where the small machine stands in the method y: what is known of the real one's frame -/
def mv_C (Nm : Nat → MethodName) (Cd : Nat → ByteArray) (cl : List vw_C) (L : List FieldType) (Ts Us : List Cond) (G : mv_G) (base : Nat) (kt dA : Nat → Nat) (D : va_G) (y : Nat) (p : Program) (e : Env) (s : State) (m : MethodId) (args : Array Value) (meth : Method) (c : Code) : Prop :=
  p.tables.exec = Jvm.exec ∧ c.code = Cd y ∧ meth.locks = false ∧ meth.sig.returnType = mv_gR G y ∧ c.maxLocals = mv_gL G y ∧ s.vm.findClass (Nm y).cls = some m.cls ∧ (∀ w ∈ Ts, w.before args s = true) ∧ va_K D cl (mv_tys dA L) s ∧ base ≤ s.heap.size ∧ c.exceptionTable.toList.map mv_proj = mv_gH G y ∧ meth.name = (Nm y).name ∧ (∀ z, mv_okT Nm G kt s z) ∧ e.platform.stackTraces = false ∧ (∀ w ∈ Us, mv_kept base w s) ∧ mv_okX G base kt s
theorem mv_weaken {tb : Tables} {e : Env} {g : JFrame} {below : List Frame} {a b : State} (h : Steps tb e (.java g :: below) a b) : Steps tb e below a b := by
  obtain ⟨n, h1, h2⟩ := h
  exact ⟨n, h1, fun k hk => Within.weaken (mid := [.java g]) (h2 k hk)⟩
theorem mv_sl_len (ad : Nat → Nat) : ∀ vs : List Value, (lg_sl (vs.map (mv_v ad))).length = (lg_sl vs).length
  | [] => rfl
  | v :: r => by
    have ih := mv_sl_len ad r
    unfold lg_sl at ih ⊢
    rw [List.map_cons, List.flatMap_cons, List.flatMap_cons, List.length_append, List.length_append, ih, mv_v_cat]
    split <;> rfl
theorem mv_args_l (ad : Nat → Nat) : ∀ (vs : List Value) (i : Nat), mv_l ad (lv_args i vs) = lv_args i (vs.map (mv_v ad))
  | [], _ => rfl
  | v :: r, i => by
    rw [List.map_cons, lv_args, lv_args, mv_v_cat]
    show (i, mv_v ad v) :: mv_l ad _ = _
    rw [mv_args_l ad r]
theorem mv_cats (ad : Nat → Nat) (r : List Value) : ((r.map (mv_v ad)).map fun v => v.category) = r.map fun v => v.category := by
  rw [List.map_map]
  apply List.map_congr_left
  intro v _
  exact mv_v_cat ad v
section MVY
variable {base : Nat} {kt dA : Nat → Nat} {D : va_G} {cl : List vw_C} {G : mv_G} {Nm : Nat → MethodName} {Cd : Nat → ByteArray} {Ts Us : List Cond} {L : List FieldType}
/-- what kind of thing an instruction comes to -/
theorem mv_no_callS {y idx : Nat} {st : List Value} {x : mv_R} (h : mv_callS G y st idx = some x) : ∃ q, x = .inr (.inl q) := by
  unfold mv_callS at h
  split at h
  · split at h
    · cases h
      exact ⟨_, rfl⟩
    · cases h
  · cases h
theorem mv_no_callV {y idx : Nat} {st : List Value} {hp : List va_E} {x : mv_R} (h : mv_callV G y st hp idx = some x) : ∃ q, x = .inr (.inl q) := by
  unfold mv_callV at h
  split at h
  · split at h
    · split at h
      · split at h
        · cases h
          exact ⟨_, rfl⟩
        · cases h
      · cases h
    · cases h
  · cases h
theorem mv_no_callI {y idx : Nat} {st : List Value} {x : mv_R} (h : mv_callI G y st idx = some x) : ∃ q, x = .inr (.inl q) := by
  unfold mv_callI at h
  split at h
  · split at h
    · split at h
      · cases h
        exact ⟨_, rfl⟩
      · cases h
    · cases h
  · cases h
theorem mv_no_iret {y : Nat} {st : List Value} {x : mv_R} (h : mv_iret G y st = some x) : ∃ q, x = .inr (.inr (.inl q)) := by
  unfold mv_iret at h
  split at h
  · split at h
    · split at h
      · cases h
        exact ⟨_, rfl⟩
      · cases h
    · cases h
  · cases h
theorem mv_no_aret {y : Nat} {st : List Value} {x : mv_R} (h : mv_aret G y st = some x) : ∃ q, x = .inr (.inr (.inl q)) := by
  unfold mv_aret at h
  split at h
  · split at h
    · split at h
      · cases h
        exact ⟨_, rfl⟩
      · cases h
    · cases h
  · cases h
theorem mv_no_vret {y : Nat} {st : List Value} {x : mv_R} (h : mv_vret G y st = some x) : ∃ q, x = .inr (.inr (.inl q)) := by
  unfold mv_vret at h
  split at h
  · split at h
    · cases h
      exact ⟨_, rfl⟩
    · cases h
  · cases h
theorem mv_no_throw {st : List Value} {x : mv_R} (h : mv_throw st = some x) : ∃ q, x = .inr (.inr (.inr q)) := by
  unfold mv_throw at h
  split at h
  · cases h
    exact ⟨_, rfl⟩
  · cases h
theorem mv_exec_go {y : Nat} {S S' : mv_S} (h : mv_exec G y S = some (.inl S')) : ∃ i n, mv_gI G y S.1 = some (i, n) ∧ mv_ins G y S.1 S.2.1 S.2.2.1 S.2.2.2.1 S.2.2.2.2.1 S.2.2.2.2.2 n i = some (.inl S') := by
  obtain ⟨pc, lo, st, hp, cb, sb⟩ := S
  unfold mv_exec at h
  split at h
  · cases h
  · rename_i i n hI
    refine ⟨i, n, hI, ?_⟩
    split at h
    case h_8 =>
      obtain ⟨S2, e2, h3⟩ := mv_og_eq h
      cases e2
      exact h3
    all_goals
      obtain ⟨-, h3⟩ := mv_g_eq h
      first
      | (obtain ⟨q9, h4⟩ := mv_no_callS h3; cases h4; done)
      | (obtain ⟨q9, h4⟩ := mv_no_callV h3; cases h4; done)
      | (obtain ⟨q9, h4⟩ := mv_no_callI h3; cases h4; done)
      | (obtain ⟨q9, h4⟩ := mv_no_iret h3; cases h4; done)
      | (obtain ⟨q9, h4⟩ := mv_no_aret h3; cases h4; done)
      | (obtain ⟨q9, h4⟩ := mv_no_vret h3; cases h4; done)
      | (obtain ⟨q9, h4⟩ := mv_no_throw h3; cases h4; done)
theorem mv_exec_ret {y : Nat} {S : mv_S} {v : Option Value} (h : mv_exec G y S = some (.inr (.inr (.inl v)))) : (mv_gI G y S.1 = some (.ireturn, 1) ∧ mv_iret G y S.2.2.1 = some (.inr (.inr (.inl v)))) ∨ (mv_gI G y S.1 = some (.areturn, 1) ∧ mv_aret G y S.2.2.1 = some (.inr (.inr (.inl v)))) ∨ (mv_gI G y S.1 = some (.return_, 1) ∧ mv_vret G y S.2.2.1 = some (.inr (.inr (.inl v)))) := by
  obtain ⟨pc, lo, st, hp, cb, sb⟩ := S
  unfold mv_exec at h
  split at h
  · cases h
  · rename_i i n hI
    split at h
    case h_4 =>
      obtain ⟨rfl, h3⟩ := mv_g_eq h
      exact Or.inl ⟨hI, h3⟩
    case h_5 =>
      obtain ⟨rfl, h3⟩ := mv_g_eq h
      exact Or.inr (Or.inl ⟨hI, h3⟩)
    case h_6 =>
      obtain ⟨rfl, h3⟩ := mv_g_eq h
      exact Or.inr (Or.inr ⟨hI, h3⟩)
    case h_8 =>
      obtain ⟨S2, e2, h3⟩ := mv_og_eq h
      cases e2
    all_goals
      obtain ⟨-, h3⟩ := mv_g_eq h
      first
      | (obtain ⟨q9, h4⟩ := mv_no_callS h3; cases h4; done)
      | (obtain ⟨q9, h4⟩ := mv_no_callV h3; cases h4; done)
      | (obtain ⟨q9, h4⟩ := mv_no_callI h3; cases h4; done)
      | (obtain ⟨q9, h4⟩ := mv_no_throw h3; cases h4; done)
theorem mv_exec_throw {y : Nat} {S : mv_S} {a : Nat} (h : mv_exec G y S = some (.inr (.inr (.inr a)))) : mv_gI G y S.1 = some (.athrow, 1) ∧ mv_throw S.2.2.1 = some (.inr (.inr (.inr a))) := by
  obtain ⟨pc, lo, st, hp, cb, sb⟩ := S
  unfold mv_exec at h
  split at h
  · cases h
  · rename_i i n hI
    split at h
    case h_7 =>
      obtain ⟨rfl, h3⟩ := mv_g_eq h
      exact ⟨hI, h3⟩
    case h_8 =>
      obtain ⟨S2, e2, h3⟩ := mv_og_eq h
      cases e2
    all_goals
      obtain ⟨-, h3⟩ := mv_g_eq h
      first
      | (obtain ⟨q9, h4⟩ := mv_no_callS h3; cases h4; done)
      | (obtain ⟨q9, h4⟩ := mv_no_callV h3; cases h4; done)
      | (obtain ⟨q9, h4⟩ := mv_no_callI h3; cases h4; done)
      | (obtain ⟨q9, h4⟩ := mv_no_iret h3; cases h4; done)
      | (obtain ⟨q9, h4⟩ := mv_no_aret h3; cases h4; done)
      | (obtain ⟨q9, h4⟩ := mv_no_vret h3; cases h4; done)
/-- a call: the method's code, and that the real machine comes to its invocation -/
theorem mv_exec_call {y : Nat} {S : mv_S} {z len : Nat} {as r : List Value} (h : mv_exec G y S = some (.inr (.inl (z, as, r, len)))) (hV : mv_okG Nm Cd cl L Ts G) : len = 3 ∧ mv_okM Nm Cd Ts G z ∧ ∃ i, mv_gI G y S.1 = some (i, 3) ∧ ∀ {p : Program} {l : Launch} {e : Env} {R : Room} {s : State} {m : MethodId} {args : Array Value} {below : List Frame} {meth : Method} {c : Code} {T : State} {locs : List Loc} {cells slots : Nat} {ls : Array Slot} {nL : Nat}, Stand p l e R s m args below meth c T locs cells slots → mv_C Nm Cd cl L Ts Us G base kt dA D y p e s m args meth c → mv_inv base (mv_ad base kt) dA D cl nL R s S T.heap ls locs cells slots → mv_Arr p l e R s m args below meth c T locs cells slots (Nm z) S.1 ls (S.2.2.1.map (mv_v (mv_ad base kt))) (as.map (mv_v (mv_ad base kt))) (r.map (mv_v (mv_ad base kt))) := by
  obtain ⟨pc, lo, st, hp, cb, sb⟩ := S
  unfold mv_exec at h
  split at h
  · cases h
  · rename_i i n hI
    have hdg := hV.1 _ _ _ _ hI
    split at h
    case h_1 idx =>
      obtain ⟨rfl, h3⟩ := mv_g_eq h
      unfold mv_callS at h3
      split at h3
      · rename_i kd z0 na hgc
        split at h3
        · rename_i hc
          cases h3
          obtain ⟨o1, o2⟩ := (hV.2.2.2.2.2.2.1 _ _ _ _ _ hgc).1 hc.1
          refine ⟨rfl, o1, _, hI, fun {p l e R s m args below meth c T locs cells slots ls nL} X C I => ?_⟩
          obtain ⟨hx, hb, -, -, -, hown, hts, -⟩ := C
          exact mv_arrS X hx hb hown hts o1 o2 hc.2 hdg
        · cases h3
      · cases h3
    case h_2 idx =>
      obtain ⟨rfl, h3⟩ := mv_g_eq h
      unfold mv_callV at h3
      split at h3
      · rename_i kd z0 na hgc
        split at h3
        · rename_i a r0 hst
          split at h3
          · rename_i ci fs ho
            split at h3
            · rename_i hc
              cases h3
              obtain ⟨o1, o2⟩ := (hV.2.2.2.2.2.2.1 _ _ _ _ _ hgc).2.1 hc.1
              refine ⟨rfl, o1, _, hI, fun {p l e R s m args below meth c T locs cells slots ls nL} X C I => ?_⟩
              obtain ⟨hx, hb, -, -, -, hown, hts, hK, -⟩ := C
              obtain ⟨hat, -, -⟩ := mv_inv_at I ho
              rw [hc.2] at hat
              exact mv_arrV X hx hb hown hts o1 o2 hK hst hat hdg
            · cases h3
          · cases h3
        · cases h3
      · cases h3
    case h_3 idx =>
      obtain ⟨rfl, h3⟩ := mv_g_eq h
      unfold mv_callI at h3
      split at h3
      · rename_i kd z0 na hgc
        split at h3
        · rename_i a r0 hst
          split at h3
          · rename_i hc
            cases h3
            obtain ⟨o1, o2⟩ := (hV.2.2.2.2.2.2.1 _ _ _ _ _ hgc).2.2 hc
            refine ⟨rfl, o1, _, hI, fun {p l e R s m args below meth c T locs cells slots ls nL} X C I => ?_⟩
            obtain ⟨hx, hb, -, -, -, hown, hts, -⟩ := C
            exact mv_arrI X hx hb hown hts o1 o2 hst hdg
          · cases h3
        · cases h3
      · cases h3
    case h_8 =>
      obtain ⟨S2, e2, h3⟩ := mv_og_eq h
      cases e2
    all_goals
      obtain ⟨-, h3⟩ := mv_g_eq h
      first
      | (obtain ⟨q9, h4⟩ := mv_no_iret h3; cases h4; done)
      | (obtain ⟨q9, h4⟩ := mv_no_aret h3; cases h4; done)
      | (obtain ⟨q9, h4⟩ := mv_no_vret h3; cases h4; done)
      | (obtain ⟨q9, h4⟩ := mv_no_throw h3; cases h4; done)
/-- a word that stays true while the tables are warmed -/
def mv_stay (w : Jvm.Cond) : Prop := ∀ (args a' : Array Value) (s U : State), s.WarmedH U.vm → w.before args s = true → w.before a' U = true
/-- THE MACHINE: where the small machine comes to an end, the real one does, and its end is that one -/
theorem mv_sound (hV : mv_okG Nm Cd cl L Ts G) (hN : mv_okN8 Nm cl Ts Us G) (hL : mv_okL L Ts G) (hE : mv_okE cl L G) (hgood : ∀ w ∈ Ts, mv_stay w) (hi : ∀ i j, i < mv_big → j < mv_big → mv_ad base kt i = mv_ad base kt j → i = j) :
    ∀ (n y fb lb : Nat) (S : mv_S) (E : mv_E), mv_run G n y fb lb S = some E → ∀ (p : Program) (l : Launch) (e : Env) (R : Room) (s : State) (m : MethodId) (args : Array Value) (below : List Frame) (meth : Method) (c : Code), mv_C Nm Cd cl L Ts Us G base kt dA D y p e s m args meth c → fb ≤ R.frames → lb ≤ R.locals → mv_K base (mv_ad base kt) dA D cl (mv_gL G y) p l e R s m args below meth c (mv_Z base (mv_ad base kt) dA D cl R s below E) S
  | 0, _, _, _, _, _, h => by cases h
  | n + 1, y, fb, lb, S, E, h => by
    intro p l e R s m args below meth c C hfb hlb
    obtain ⟨hx, hb, hlocks, hret, hml, hown, hts, hK, hbase, hhand, hname, hstr, htr, hus, hX⟩ := id C
    have take : ∀ (a pc : Nat) (lo : List (Nat × Value)) (st : List Value) (hp : List va_E) (cb sb : Nat), mv_take G y (mv_run G n y fb lb) a (pc, lo, st, hp, cb, sb) = some E → mv_KT base (mv_ad base kt) dA D cl (mv_gL G y) p l e R s m args below meth c (mv_Z base (mv_ad base kt) dA D cl R s below E) (pc, lo, st, hp, cb, sb) a := by
      intro a pc lo st hp cb sb ht
      unfold mv_take at ht
      split at ht
      · rename_i hf
        cases ht
        exact mr_out hlocks hbase (mv_hand_none _ (by rw [hhand]; exact hf)) a
      · rename_i h9 ct hf
        split at ht
        · rename_i ci fs ho
          split at ht
          · rename_i hci
            subst hci
            obtain ⟨hct, CC, T0, N0, hC, hlk⟩ := hV.2.2.2.2.2.2.2 _ _ _ _ hf
            exact mr_catch hts hown hK hhand hf ho hC hct hlk (mv_sound hV hN hL hE hgood hi n y fb lb _ _ ht p l e R s m args below meth c C hfb hlb)
          · cases ht
        · cases ht
    obtain ⟨pc, lo, st, hp, cb, sb⟩ := S
    unfold mv_run at h
    split at h
    · rename_i S' hnat
      exact mr_nat hV hN hL hx htr hb hml hts hus hown hK (hstr y) hX hfb hlb hnat (mv_sound hV hN hL hE hgood hi n y fb lb S' E h p l e R s m args below meth c C hfb hlb)
    split at h
    · cases h
    · rename_i S' hex
      have k := mv_sound hV hN hL hE hgood hi n y fb lb S' E h p l e R s m args below meth c C hfb hlb
      obtain ⟨i, len, hI, h3⟩ := mv_exec_go hex
      exact mr_ins hx hb rfl hts hown hname hK hV hL hE (hstr y) hi (hV.1 _ _ _ _ hI) h3 k
    · rename_i z as r len hex
      split at h
      · rename_i hroom
        obtain ⟨hr1, hr2, hr3⟩ := hroom
        obtain ⟨rfl, hMz, ig, hI, harr⟩ := mv_exec_call (base := base) (kt := kt) (dA := dA) (D := D) hex hV
        have hdg := hV.1 _ _ _ _ hI
        intro H ls locs cells slots I T hT X
        subst hT
        obtain ⟨mk, vm₁, X₁, hnm, arr⟩ := harr X C I
        obtain ⟨i1, i2, i3, i4, i5, i6, i7⟩ := I
        dsimp only at i1 i2 i3 i4 i5 i6 i7 arr hdg h
        obtain ⟨mk', methk, ck, hn1, hm1, hc1, hcd, hcl, hcr, hck, hch, -⟩ := mv_meth hMz hts
        cases hnm.symm.trans hn1
        have hal : s.vm.Alike (T.setVm vm₁).vm := X₁.warmed.alike
        have hm2 : (T.setVm vm₁).vm.method? mk = some methk := by rw [hal.method?]; exact hm1
        have hnU : (T.setVm vm₁).methodNamed? (Nm z) = some mk := X₁.named hnm
        have hpk : (T.setVm vm₁).plainMethod mk := State.plainMethod.of_named hMz.2.1 hnU hm2
        obtain ⟨R', hR'⟩ : ∃ R' : Room, R' = { frames := fb - 1, cells := cb, slots := sb, locals := lb - ((r.map fun v => v.category).sum + (mv_gL G z + 11)) } := ⟨_, rfl⟩
        have hsz : ls.size = c.maxLocals := i1.1.trans hml.symm
        obtain ⟨g, hg⟩ : ∃ g : JFrame, g = F0 m pc ls (r.map (mv_v (mv_ad base kt))) := ⟨_, rfl⟩
        obtain ⟨av, hav⟩ : ∃ av : Array Value, av = (as.map (mv_v (mv_ad base kt))).toArray := ⟨_, rfl⟩
        obtain ⟨Xin, hdo⟩ := X₁.into (g := g) (by rw [hg]) (by rw [hg]; exact hsz) (by rw [hg, hb]; exact hdg) (mk := mk) av (R' := R') hm2 hc1 hck hpk (by rw [hR']; show fb - 1 + 1 ≤ R.frames; omega) (by rw [hR', hg]; show 2 * 0 + ((r.map (mv_v (mv_ad base kt))).map fun v => v.category).sum + (ck.maxLocals + 11) + (lb - _) ≤ R.locals; rw [mv_cats, hcl]; omega) (by rw [hR']; exact i5) (by rw [hR']; exact i6)
        obtain ⟨s', hs'⟩ : ∃ s' : State, s' = (T.setVm vm₁).calling g mk av := ⟨_, rfl⟩
        have hvm' : s'.vm = (T.setVm vm₁).vm := by rw [hs']; rfl
        have hheap' : s'.heap = T.heap := by rw [hs']; rfl
        have hW' : s.WarmedH s'.vm := by rw [hvm']; exact X₁.warmed
        have hn' : s'.methodNamed? (Nm z) = some mk := by rw [hs']; exact hnU
        have hm' : s'.vm.method? mk = some methk := by rw [hvm']; exact hm2
        have C1 : mv_C Nm Cd cl L Ts Us G base kt dA D z p e s' mk av methk ck := ⟨hx, hcd, hck, hcr, hcl, findClass_of_methodNamed hn', fun w hw => hgood w hw _ _ _ _ hW' (hts w hw), va_K.moved hW'.alike hK, by rw [hheap', i3]; omega, hch, (name_of_methodNamed hn' hm').1, fun z0 idx a ha => by
          obtain ⟨h1, tx, h2⟩ := hstr z0 idx a ha
          exact ⟨h1, tx, vk_R.warm hW' h2⟩, htr, fun w hw => (hus w hw).moved hW' fun q hq => by rw [hheap']; exact i4.2.1 q (by omega) (by show ¬ base ≤ q; omega), by rw [hheap', i3]; omega, fun a n f hs => by
            obtain ⟨x1, x2, x3⟩ := hX.2 a n f hs
            exact ⟨x1, x2, (x3.moved hW'.alike).kept (by rw [hheap']; exact i4.2.1 _ (by omega) (by show ¬ base ≤ _; omega))⟩⟩
        split at h
        · cases h
        · rename_i v hp' cb' sb' hrun
          have k1 := mv_sound hV hN hL hE hgood hi n z (fb - 1) (lb - ((r.map fun v => v.category).sum + (mv_gL G z + 11))) _ _ hrun p l e R' s' mk av (.java g :: below) methk ck C1 (by rw [hR']; exact Nat.le_refl _) (by rw [hR']; exact Nat.le_refl _)
          have k2 := mv_sound hV hN hL hE hgood hi n y fb lb _ _ h p l e R s m args below meth c C hfb hlb
          rw [← hs'] at Xin
          obtain ⟨TT, hTT⟩ : ∃ TT : State, TT = ((T.setVm vm₁).setTop g).pushFrame (.java (entryFrame mk av ck.maxLocals)) := ⟨_, rfl⟩
          have hdo2 := hdo []
          rw [← hTT] at Xin hdo2
          have hTh : TT.heap = T.heap := by rw [hTT]; rfl
          have hgoL : (lg_sl (as.map (mv_v (mv_ad base kt)))).length ≤ mv_gL G z := by rw [mv_sl_len]; exact hr3
          have hent : entryFrame mk av ck.maxLocals = F0 mk 0 ((lg_sl (as.map (mv_v (mv_ad base kt))) ++ List.replicate (mv_gL G z - (lg_sl (as.map (mv_v (mv_ad base kt)))).length) Slot.unset).toArray) [] := by rw [hav, hcl]; exact lg_entry_eq mk _ _
          have Iin : mv_inv base (mv_ad base kt) dA D cl (mv_gL G z) R' s' (0, lv_args 0 as, [], hp, cb, sb) T.heap ((lg_sl (as.map (mv_v (mv_ad base kt))) ++ List.replicate (mv_gL G z - (lg_sl (as.map (mv_v (mv_ad base kt)))).length) Slot.unset).toArray) [] 0 0 := by
            refine ⟨?_, i2, i3, ?_, ?_, ?_, i7⟩
            · show lv_has _ _ (mv_l (mv_ad base kt) (lv_args 0 as))
              rw [mv_args_l]
              exact lv_entry _ hgoL
            · rw [hheap']
              exact va_S.rf
            · rw [hR']
              show 0 + cb ≤ cb
              omega
            · rw [hR']
              show 0 + sb ≤ sb
              omega
          obtain ⟨t, hst, o, hrn, hend, ho, hP1, hz1, hold, hW1, ⟨L1, kk, nn, hk1, hn1, hsame, hL1⟩, hbig⟩ := k1 T.heap _ [] 0 0 Iin TT hTh Xin
          have hk1' : kk + cb' ≤ cb := by rw [hR'] at hk1; exact hk1
          have hn1' : nn + sb' ≤ sb := by rw [hR'] at hn1; exact hn1
          subst ho
          rw [hs'] at hW1 hsame
          obtain ⟨T2, X2, -, -, ht⟩ := X₁.outOf (g := g) (by rw [hg]) (by rw [hg, hb]; exact hdg) hend hW1 hsame
          have hh : T2.heap = t.heap := by rw [ht]; rfl
          have I2 : mv_inv base (mv_ad base kt) dA D cl (mv_gL G y) R s (pc + 3, lo, v.toList ++ r, hp', cb', sb') t.heap ls (locs ++ L1) (cells + kk) (slots + nn) := by
            refine ⟨i1, hP1, hz1, ⟨?_, ?_, ?_⟩, ?_, ?_, hbig⟩
            · have h9 := X2.same.2.1
              show s.heap.size ≤ t.heap.size
              rw [← hh]
              exact h9
            · intro q h8 h9
              have e1 := hold q (by omega)
              rw [hheap'] at e1
              rw [e1]
              exact i4.2.1 q h8 h9
            · intro q hq
              rcases List.mem_append.mp hq with hq | hq
              · exact i4.2.2 q hq
              · exact hL1 q hq
            · show cells + kk + cb' ≤ R.cells
              omega
            · show slots + nn + sb' ≤ R.slots
              omega
          obtain ⟨t2, h2, q2⟩ := k2 t.heap ls (locs ++ L1) (cells + kk) (slots + nn) I2 T2 hh X2
          refine ⟨t2, arr t2 ?_, q2⟩
          rw [hent] at hdo2
          rw [← hg, ← hav, hdo2]
          refine Steps.trans (mv_weaken hst) ?_
          rw [ht]
          have hfr : ({ g with pc := g.pc + 3, stack := (v.map (mv_v (mv_ad base kt))).toList ++ g.stack } : JFrame) = F0 m (pc + 3) ls ((v.toList ++ r).map (mv_v (mv_ad base kt))) := by
            rw [hg]
            cases v <;> rfl
          rw [hfr]
          exact h2
        · rename_i a hp' cb' sb' hrun
          have k1 := mv_sound hV hN hL hE hgood hi n z (fb - 1) (lb - ((r.map fun v => v.category).sum + (mv_gL G z + 11))) _ _ hrun p l e R' s' mk av (.java g :: below) methk ck C1 (by rw [hR']; exact Nat.le_refl _) (by rw [hR']; exact Nat.le_refl _)
          have k2 := take _ _ _ _ _ _ _ h
          rw [← hs'] at Xin
          obtain ⟨TT, hTT⟩ : ∃ TT : State, TT = ((T.setVm vm₁).setTop g).pushFrame (.java (entryFrame mk av ck.maxLocals)) := ⟨_, rfl⟩
          have hdo2 := hdo []
          rw [← hTT] at Xin hdo2
          have hTh : TT.heap = T.heap := by rw [hTT]; rfl
          have hgoL : (lg_sl (as.map (mv_v (mv_ad base kt)))).length ≤ mv_gL G z := by rw [mv_sl_len]; exact hr3
          have hent : entryFrame mk av ck.maxLocals = F0 mk 0 ((lg_sl (as.map (mv_v (mv_ad base kt))) ++ List.replicate (mv_gL G z - (lg_sl (as.map (mv_v (mv_ad base kt)))).length) Slot.unset).toArray) [] := by rw [hav, hcl]; exact lg_entry_eq mk _ _
          have Iin : mv_inv base (mv_ad base kt) dA D cl (mv_gL G z) R' s' (0, lv_args 0 as, [], hp, cb, sb) T.heap ((lg_sl (as.map (mv_v (mv_ad base kt))) ++ List.replicate (mv_gL G z - (lg_sl (as.map (mv_v (mv_ad base kt)))).length) Slot.unset).toArray) [] 0 0 := by
            refine ⟨?_, i2, i3, ?_, ?_, ?_, i7⟩
            · show lv_has _ _ (mv_l (mv_ad base kt) (lv_args 0 as))
              rw [mv_args_l]
              exact lv_entry _ hgoL
            · rw [hheap']
              exact va_S.rf
            · rw [hR']
              show 0 + cb ≤ cb
              omega
            · rw [hR']
              show 0 + sb ≤ sb
              omega
          obtain ⟨t, hst, o, hrn, hend, ho, hP1, hz1, hold, hW1, ⟨L1, kk, nn, hk1, hn1, hsame, hL1⟩, hbig⟩ := k1 T.heap _ [] 0 0 Iin TT hTh Xin
          have hk1' : kk + cb' ≤ cb := by rw [hR'] at hk1; exact hk1
          have hn1' : nn + sb' ≤ sb := by rw [hR'] at hn1; exact hn1
          subst ho
          rw [hs'] at hW1 hsame
          obtain ⟨T2, X2, -, -, ht⟩ := X₁.outOfThrown (g := g) (by rw [hg]) hend hW1 hsame
          have hh : T2.heap = t.heap := by rw [ht]; rfl
          have I2 : mv_inv base (mv_ad base kt) dA D cl (mv_gL G y) R s (pc, lo, [], hp', cb', sb') t.heap ls (locs ++ L1) (cells + kk) (slots + nn) := by
            refine ⟨i1, hP1, hz1, ⟨?_, ?_, ?_⟩, ?_, ?_, hbig⟩
            · have h9 := X2.same.2.1
              show s.heap.size ≤ t.heap.size
              rw [← hh]
              exact h9
            · intro q h8 h9
              have e1 := hold q (by omega)
              rw [hheap'] at e1
              rw [e1]
              exact i4.2.1 q h8 h9
            · intro q hq
              rcases List.mem_append.mp hq with hq | hq
              · exact i4.2.2 q hq
              · exact hL1 q hq
            · show cells + kk + cb' ≤ R.cells
              omega
            · show slots + nn + sb' ≤ R.slots
              omega
          obtain ⟨t2, h2, q2⟩ := k2 t.heap ls (locs ++ L1) (cells + kk) (slots + nn) (r.map (mv_v (mv_ad base kt))) I2 T2 hh X2
          refine ⟨t2, arr t2 ?_, q2⟩
          rw [hent] at hdo2
          rw [← hg, ← hav, hdo2]
          refine Steps.trans (mv_weaken hst) ?_
          rw [ht, hg]
          exact h2
      · cases h
    · rename_i v hex
      cases h
      rcases mv_exec_ret hex with ⟨hI, h3⟩ | ⟨hI, h3⟩ | ⟨hI, h3⟩
      · exact mr_iret hx hb hlocks hret hbase (hV.1 _ _ _ _ hI) h3
      · exact mr_aret hx hb hlocks hret hbase (hV.1 _ _ _ _ hI) h3
      · exact mr_vret hx hb hlocks hret hbase (hV.1 _ _ _ _ hI) h3
    · rename_i a hex
      obtain ⟨hI, h3⟩ := mv_exec_throw hex
      exact mr_throw hx hb (hV.1 _ _ _ _ hI) h3 (take a pc lo st hp cb sb h)
end MVY
end
section
/-! the tables of the small machine for this class and law, each word of them by its place in tables_1 -/
def mt_o : List String := ["RefactorHouseLaw", "RefactorHouse", "RefactorHouse$Reader", "RefactorHouse$Judge", "RefactorHouse$Machine", "RefactorHouse$Edits", "RefactorHouse$Change", "RefactorHouse$Finder", "RefactorHouse$Prog", "RefactorHouse$History", "java/util/Arrays", "java/lang/Math", "RefactorHouse$Decl", "RefactorHouse$Stat", "RefactorHouse$Exp", "RefactorHouseModel", "RefactorHouseModel$Program", "RefactorHouseModel$Tokens", "java/lang/IllegalStateException"]
def mt_own (n : Nat) : String := mt_o.getD n ""
def mt_m : List (Nat × String × String) := [(0, "law", "([I)Z"), (1, "<init>", "()V"), (2, "<init>", "()V"), (3, "<init>", "()V"), (4, "<init>", "()V"), (5, "<init>", "()V"), (6, "<init>", "(LRefactorHouse$Edits;)V"), (7, "<init>", "()V"), (8, "<init>", "(III)V"), (9, "<init>", "()V"), (1, "feed", "(IIIII)I"), (1, "feedOne", "(I)V"), (1, "cut", "(I)I"), (1, "load", "(I)I"), (8, "copyTexts", "(LRefactorHouse$Prog;)V"), (8, "classesBeside", "(I)I"), (2, "readProgram", "(LRefactorHouse$Prog;II)I"), (2, "start", "(LRefactorHouse$Prog;)V"), (8, "clear", "()V"), (10, "fill", "([II)V"), (2, "open", "(II)V"), (2, "scan", "(I)V"), (11, "min", "(II)I"), (2, "skip", "([BII)I"), (2, "measure", "([BII)I"), (1, "isLetter", "(I)Z"), (1, "isLetterOrDigit", "(I)Z"), (1, "wordOrName", "([BII)I"), (1, "isDigit", "(I)Z"), (2, "signOfTwo", "(II)I"), (2, "signOfOne", "(I)I"), (2, "numberOf", "(I)I"), (8, "byteAt", "(I)I"), (8, "isTextOf", "(ILRefactorHouse$Prog;I)Z"), (2, "peek", "()I"), (2, "readClass", "(Z)V"), (2, "want", "(Z)V"), (2, "fail", "(I)V"), (2, "wantName", "(Z)V"), (2, "newDecl", "(II)LRefactorHouse$Decl;"), (12, "<init>", "()V"), (12, "reset", "(III)V"), (2, "readMember", "(LRefactorHouse$Decl;Z)LRefactorHouse$Decl;"), (2, "isTypeAtHand", "()Z"), (2, "readParams", "(LRefactorHouse$Decl;)V"), (2, "newStat", "(LRefactorHouse$Stat;)LRefactorHouse$Stat;"), (13, "<init>", "()V"), (13, "reset", "(ILRefactorHouse$Stat;)V"), (2, "block", "(LRefactorHouse$Stat;I)V"), (2, "enter", "(I)V"), (2, "statement", "(ILRefactorHouse$Stat;)LRefactorHouse$Stat;"), (2, "branch", "(LRefactorHouse$Stat;I)V"), (2, "exp", "(I)LRefactorHouse$Exp;"), (2, "unary", "(I)LRefactorHouse$Exp;"), (2, "operand", "(I)LRefactorHouse$Exp;"), (2, "simple", "(I)LRefactorHouse$Exp;"), (2, "newExp", "(IIILRefactorHouse$Exp;)LRefactorHouse$Exp;"), (14, "<init>", "()V"), (14, "reset", "(II)V"), (2, "valueOf", "(I)I"), (2, "call", "(IILRefactorHouse$Exp;I)LRefactorHouse$Exp;"), (2, "strength", "(I)I"), (2, "joined", "(LRefactorHouse$Exp;II)LRefactorHouse$Exp;"), (8, "codeAt", "(I)I"), (2, "readFront", "(LRefactorHouse$Stat;)V"), (1, "adopt", "()V"), (7, "forget", "()V"), (9, "forget", "()V"), (8, "tokensOf", "(I)I"), (1, "place", "()I"), (1, "size", "(I)I"), (1, "octet", "(II)I"), (1, "token", "(II)I"), (8, "tokenAt", "(I)I"), (1, "sortOf", "(I)I"), (1, "judge", "()I"), (1, "judged", "()Z"), (3, "look", "(LRefactorHouse$Prog;)V"), (3, "lookAtClasses", "()V"), (3, "classMeant", "(I)LRefactorHouse$Decl;"), (3, "tell", "(II)V"), (12, "isHeirOf", "(LRefactorHouse$Decl;)Z"), (3, "lookAtTypes", "()V"), (3, "typeTold", "(I)I"), (3, "lookAtMembers", "()V"), (12, "isMember", "()Z"), (3, "lookAtOwn", "(LRefactorHouse$Decl;)V"), (8, "sameTold", "(LRefactorHouse$Decl;LRefactorHouse$Decl;)Z"), (3, "lookAbove", "(LRefactorHouse$Decl;)V"), (3, "typeOf", "(LRefactorHouse$Exp;)I"), (3, "faulty", "(II)I"), (3, "typeOfName", "(LRefactorHouse$Exp;)I"), (3, "variable", "(LRefactorHouse$Decl;I)LRefactorHouse$Decl;"), (3, "isKnown", "(LRefactorHouse$Decl;I)Z"), (3, "field", "(LRefactorHouse$Decl;II)LRefactorHouse$Decl;"), (3, "suits", "(LRefactorHouse$Decl;I)Z"), (3, "typeOfMeant", "(LRefactorHouse$Exp;LRefactorHouse$Decl;)I"), (3, "typeOfField", "(LRefactorHouse$Exp;)I"), (3, "classInFront", "(LRefactorHouse$Exp;)LRefactorHouse$Decl;"), (8, "classOf", "(I)LRefactorHouse$Decl;"), (3, "typeOfCall", "(LRefactorHouse$Exp;)I"), (3, "takes", "(LRefactorHouse$Decl;LRefactorHouse$Exp;)Z"), (8, "param", "(LRefactorHouse$Decl;I)LRefactorHouse$Decl;"), (8, "fits", "(II)Z"), (3, "nearest", "(I)LRefactorHouse$Decl;"), (8, "overrides", "(LRefactorHouse$Decl;LRefactorHouse$Decl;)Z"), (3, "isCloser", "(LRefactorHouse$Decl;LRefactorHouse$Decl;)Z"), (3, "isWanted", "(LRefactorHouse$Exp;I)Z"), (3, "typeOfBoth", "(LRefactorHouse$Exp;)I"), (3, "typeOfSame", "(LRefactorHouse$Exp;LRefactorHouse$Exp;)I"), (3, "lookAtStatements", "()V"), (3, "canEnd", "(LRefactorHouse$Stat;)Z"), (3, "isFitting", "(LRefactorHouse$Exp;I)V"), (3, "isSound", "(LRefactorHouse$Exp;)Z"), (3, "lookAtGets", "(LRefactorHouse$Exp;LRefactorHouse$Exp;)V"), (3, "lookAtReturn", "(LRefactorHouse$Stat;)V"), (3, "lookAtTellings", "()V"), (3, "settle", "()V"), (3, "ownFields", "(LRefactorHouse$Decl;)I"), (3, "uppermost", "(LRefactorHouse$Decl;)LRefactorHouse$Decl;"), (3, "placeFields", "(LRefactorHouse$Decl;)V"), (1, "means", "(II)I"), (8, "meantAt", "(I)LRefactorHouse$Decl;"), (1, "type", "(II)I"), (8, "expAt", "(II)LRefactorHouse$Exp;"), (1, "count", "(I)I"), (8, "countOf", "(I)I"), (1, "told", "(II)I"), (8, "declOf", "(II)LRefactorHouse$Decl;"), (1, "uses", "(I)I"), (8, "toldAt", "(I)LRefactorHouse$Decl;"), (8, "usesOf", "(LRefactorHouse$Decl;)I"), (8, "isMeant", "(LRefactorHouse$Decl;I)Z"), (1, "use", "(II)I"), (8, "useOf", "(LRefactorHouse$Decl;I)I"), (1, "family", "(I)I"), (8, "familySize", "(LRefactorHouse$Decl;)I"), (1, "input", "(I)I"), (1, "drain", "()I"), (1, "run", "(I)I"), (1, "recall", "()Z"), (9, "bring", "(ILRefactorHouse$Prog;)V"), (4, "perform", "(LRefactorHouse$Prog;[II)I"), (4, "prepare", "()V"), (4, "enterRow", "(ILRefactorHouse$Decl;)V"), (4, "levelOf", "(LRefactorHouse$Decl;)I"), (4, "prepareClass", "(LRefactorHouse$Decl;)V"), (4, "nextField", "([I)V"), (4, "callMain", "()V"), (4, "isMain", "(LRefactorHouse$Prog;LRefactorHouse$Decl;)Z"), (4, "step", "()Z"), (4, "failWith", "(I)V"), (4, "enter", "(LRefactorHouse$Decl;III)V"), (4, "push", "(I)V"), (4, "workOut", "(LRefactorHouse$Exp;[I)V"), (4, "isDecided", "(LRefactorHouse$Exp;)Z"), (4, "pop", "()I"), (4, "pushVariable", "(LRefactorHouse$Decl;[I)V"), (4, "pushField", "(LRefactorHouse$Exp;)V"), (4, "callMethod", "(LRefactorHouse$Exp;[I)V"), (11, "max", "(II)I"), (4, "mayEnter", "()Z"), (4, "makeObject", "(LRefactorHouse$Exp;)V"), (10, "fill", "([IIII)V"), (10, "rangeCheck", "(III)V"), (4, "join", "(I)V"), (4, "keepField", "([I)V"), (4, "complete", "(LRefactorHouse$Stat;[I)V"), (4, "store", "(LRefactorHouse$Exp;[I)V"), (4, "goBack", "(LRefactorHouse$Stat;[I)V"), (4, "tell", "(I)V"), (4, "beginStat", "(LRefactorHouse$Stat;[I)V"), (4, "leave", "(LRefactorHouse$Stat;[I)V"), (4, "tryAgain", "(LRefactorHouse$Stat;[I)V"), (1, "ran", "(I)I"), (1, "number", "(I)I"), (1, "twin", "(II)I"), (1, "twinsAgree", "()Z"), (1, "ask", "(III)I"), (6, "open", "(LRefactorHouse$Prog;[BI)V"), (5, "open", "(LRefactorHouse$Prog;)V"), (6, "conditions", "(III)I"), (6, "isThere", "(III)Z"), (6, "findStatements", "(II)Z"), (6, "statementAt", "(I)LRefactorHouse$Stat;"), (6, "isTapeFine", "(I)Z"), (6, "isName", "()Z"), (6, "rename", "()I"), (8, "isFamily", "(LRefactorHouse$Decl;LRefactorHouse$Decl;)Z"), (5, "beginTokens", "(II)V"), (8, "endOf", "(I)I"), (5, "begin", "(II)V"), (5, "name", "([BII)V"), (5, "comes", "(II)V"), (5, "end", "()V"), (6, "putInLocal", "()I"), (6, "gets", "(LRefactorHouse$Stat;LRefactorHouse$Decl;)Z"), (6, "broken", "(II)I"), (8, "isCalm", "(LRefactorHouse$Exp;)Z"), (6, "whileAround", "(LRefactorHouse$Stat;)LRefactorHouse$Stat;"), (6, "isOfExp", "(LRefactorHouse$Decl;)Z"), (8, "useWithin", "(LRefactorHouse$Decl;II)I"), (6, "isWithin", "(LRefactorHouse$Stat;II)Z"), (6, "goes", "(II)V"), (5, "copyAsExp", "(II)V"), (5, "copy", "(II)V"), (5, "words", "(Ljava/lang/String;)V"), (6, "takeOutLocal", "()I"), (5, "typeAnew", "(I)V"), (6, "nameAnew", "()V"), (5, "copyTokens", "(II)V"), (6, "takeOutMethod", "()I"), (6, "findOut", "(LRefactorHouse$Decl;)I"), (6, "isHandedIn", "(LRefactorHouse$Decl;)Z"), (6, "isRelated", "(LRefactorHouse$Decl;LRefactorHouse$Decl;)Z"), (8, "isText", "(I[BI)Z"), (6, "tellNewMethod", "(LRefactorHouse$Decl;)V"), (5, "tokenAnew", "(LRefactorHouse$Prog;II)V"), (6, "tellHandedIn", "(LRefactorHouse$Decl;Z)V"), (6, "putInMethod", "()I"), (6, "wildArgument", "()I"), (6, "copyWithArguments", "(LRefactorHouse$Exp;)V"), (6, "shutField", "()I"), (8, "classAround", "(I)LRefactorHouse$Decl;"), (6, "moveTo", "(LRefactorHouse$Decl;)I"), (6, "pushDown", "()I"), (8, "classNamed", "([BI)LRefactorHouse$Decl;"), (6, "signature", "()I"), (6, "isLeftOut", "(LRefactorHouse$Decl;)Z"), (6, "tellParams", "(LRefactorHouse$Decl;)V"), (6, "beginWithin", "(II)V"), (6, "tellArguments", "(LRefactorHouse$Exp;)V"), (6, "moveStatic", "()I"), (6, "copyMoved", "(LRefactorHouse$Decl;)V"), (6, "drop", "()I"), (6, "turnIf", "()I"), (6, "swapIn", "(LRefactorHouse$Stat;LRefactorHouse$Stat;)V"), (5, "sort", "()V"), (6, "soundness", "(LRefactorHouse$Reader;LRefactorHouse$Judge;LRefactorHouse$Prog;)I"), (5, "make", "(LRefactorHouse$Prog;)V"), (5, "stay", "(LRefactorHouse$Prog;III)V"), (5, "add", "(LRefactorHouse$Prog;IBI)V"), (6, "strayedName", "(LRefactorHouse$Prog;)I"), (6, "oldMeaning", "(LRefactorHouse$Prog;I)LRefactorHouse$Decl;"), (5, "oldOf", "(LRefactorHouse$Prog;I)I"), (6, "strayedMethod", "(LRefactorHouse$Prog;)I"), (6, "oldMethod", "(LRefactorHouse$Prog;LRefactorHouse$Decl;)LRefactorHouse$Decl;"), (1, "edits", "()I"), (1, "edit", "(II)I"), (5, "byteOf", "(II)I"), (1, "apply", "()I"), (9, "step", "(LRefactorHouse$Prog;LRefactorHouse$Prog;)V"), (9, "keep", "(ILRefactorHouse$Prog;)V"), (1, "undo", "()I"), (1, "goTo", "(I)I"), (9, "stand", "(I)V"), (1, "redo", "()I"), (1, "recipe", "()I"), (7, "learn", "(LRefactorHouse$Reader;LRefactorHouse$Prog;[BI)I"), (2, "readPattern", "(LRefactorHouse$Prog;)I"), (7, "lookAtDollars", "()I"), (7, "typeTold", "(I)I"), (7, "search", "()I"), (7, "isReplaceable", "(LRefactorHouse$Exp;)Z"), (7, "matches", "(LRefactorHouse$Exp;)Z"), (7, "standsFor", "(LRefactorHouse$Exp;LRefactorHouse$Exp;)Z"), (7, "bare", "(LRefactorHouse$Exp;)LRefactorHouse$Exp;"), (7, "isSameText", "(LRefactorHouse$Exp;LRefactorHouse$Exp;)Z"), (7, "isSamePart", "(LRefactorHouse$Exp;LRefactorHouse$Exp;)Z"), (1, "found", "(II)I"), (7, "foundExp", "(I)LRefactorHouse$Exp;"), (1, "put", "()I"), (7, "tell", "(LRefactorHouse$Edits;)V"), (7, "tellToken", "(LRefactorHouse$Edits;I)V"), (1, "alike", "(I)I"), (7, "pairUp", "(LRefactorHouse$Prog;I)I"), (7, "isRun", "(LRefactorHouse$Stat;I)Z"), (7, "areAlike", "(III)Z"), (1, "pair", "(II)I"), (15, "<init>", "()V"), (16, "<init>", "(LRefactorHouseModel;)V"), (17, "<init>", "()V"), (16, "readAll", "()I"), (16, "clear", "()V"), (16, "classCount", "()I"), (16, "readFile", "(II)V"), (17, "cut", "([BIIZI)V"), (17, "at", "([BII)I"), (17, "one", "([BIIIZ)I"), (15, "isLetter", "(I)Z"), (15, "isDigit", "(I)Z"), (15, "wordOf", "([BII)I"), (17, "signOf", "(II)I"), (16, "sort", "()I"), (16, "placeOf", "(I)I"), (15, "refuse", "(II)V"), (16, "isWord", "(I)Z"), (16, "wrong", "()V"), (16, "readClass", "(I)V"), (16, "pass", "()I"), (16, "stands", "()V"), (16, "needNewName", "(Z)I"), (16, "tell", "(IIIIZI)I"), (16, "takesWord", "(I)Z"), (16, "needName", "()I"), (16, "need", "(I)V"), (16, "takes", "(I)Z"), (16, "isSign", "(I)Z"), (16, "readMember", "(II)V"), (16, "isType", "()Z"), (16, "block", "()I"), (16, "within", "()V"), (16, "statement", "()I"), (16, "tellsLocal", "()Z"), (16, "exp", "()I"), (16, "expOfLevel", "(I)I"), (16, "unary", "()I"), (16, "node", "(IIIIII)I"), (16, "own", "(II)V"), (16, "operand", "()I"), (16, "arguments", "()I"), (16, "dollar", "(I)I"), (16, "late", "(II)V"), (15, "typeOf", "(LRefactorHouseModel$Program;LRefactorHouseModel$Tokens;ILRefactorHouseModel$Program;)I"), (15, "wordType", "(LRefactorHouseModel$Tokens;I)I"), (16, "classOf", "(LRefactorHouseModel$Program;I)I"), (16, "isNamed", "(ILRefactorHouseModel$Program;I)Z"), (16, "byteAt", "(II)B"), (16, "level", "(I)I"), (16, "condition", "()I"), (16, "inner", "()I"), (16, "work", "()I"), (16, "meaning", "(II)V"), (16, "workClasses", "()V"), (16, "errs", "(II)V"), (16, "isHeir", "(II)Z"), (16, "workMembers", "()V"), (16, "typeOfToken", "(I)I"), (16, "isSameSignature", "(II)Z"), (16, "firstParam", "(I)I"), (16, "workBodies", "()V"), (16, "begin", "(I)V"), (16, "wanted", "(II)V"), (16, "typeNow", "(I)I"), (16, "typeOfExp", "(I)I"), (16, "typeOfName", "(I)I"), (16, "knownAs", "(I)I"), (16, "fieldOf", "(III)I"), (16, "typeOfCall", "(IIII)I"), (16, "takesAll", "(II)Z"), (16, "fits", "(II)Z"), (16, "nearest", "(I)I"), (16, "overrides", "(II)Z"), (16, "isCloser", "(II)Z"), (16, "typeOfDot", "(I)I"), (16, "classInFront", "(I)I"), (16, "needs", "(II)Z"), (16, "typeOfBoth", "(I)I"), (16, "know", "(I)V"), (16, "looksAt", "(I)Z"), (16, "set", "(I)V"), (16, "workFamilies", "()V"), (16, "workFields", "()V"), (15, "keep", "(I)V"), (15, "feed", "(IIIII)I"), (15, "feedOne", "(I)V"), (15, "cut", "(I)I"), (15, "load", "(I)I"), (15, "isIn", "(II)Z"), (15, "taped", "([B)V"), (15, "changed", "()V"), (15, "noEdits", "()V"), (15, "place", "()I"), (15, "size", "(I)I"), (15, "octet", "(II)I"), (15, "token", "(II)I"), (16, "tokenAt", "(I)I"), (15, "judge", "()I"), (15, "means", "(II)I"), (16, "nameAt", "(I)I"), (15, "type", "(II)I"), (16, "expOf", "(II)I"), (16, "isClassName", "(I)Z"), (15, "count", "(I)I"), (15, "told", "(II)I"), (15, "uses", "(I)I"), (15, "toldBy", "(I)I"), (16, "toldAt", "(I)I"), (15, "meant", "(I)I"), (15, "use", "(II)I"), (15, "family", "(I)I"), (16, "familySize", "(I)I"), (16, "isFamily", "(II)Z"), (15, "input", "(I)I"), (15, "drain", "()I"), (15, "run", "(I)I"), (15, "bring", "(LRefactorHouseModel$Program;I)V"), (15, "runs", "(LRefactorHouseModel$Program;[II)I"), (15, "writeAll", "()V"), (15, "write", "(III)I"), (15, "room", "([II)[I"), (15, "writeExp", "(I)V"), (15, "writeNode", "(I)V"), (15, "writeStatement", "(I)V"), (15, "writeSet", "(II)V"), (15, "writeMaking", "(I)V"), (15, "workActs", "()V"), (15, "workValue", "(III)V"), (15, "push", "(I)V"), (15, "slot", "(I)I"), (15, "fieldPlace", "(II)I"), (15, "pull", "()I"), (15, "fails", "(I)V"), (15, "make", "(I)V"), (15, "step", "()V"), (15, "setOut", "()V"), (15, "both", "(III)I"), (15, "call", "(II)V"), (15, "enter", "(IIII)V"), (16, "afterMember", "(I)I"), (15, "chosen", "(II)I"), (15, "workAct", "(II)V"), (15, "comeBack", "()V"), (15, "mainOf", "(LRefactorHouseModel$Program;)I"), (15, "isMain", "(LRefactorHouseModel$Program;I)Z"), (15, "ran", "(I)I"), (15, "number", "(I)I"), (15, "twin", "(II)I"), (15, "ask", "(III)I"), (15, "asked", "(III)I"), (15, "findFronts", "()V"), (15, "rename", "(I)I"), (15, "broken", "(II)I"), (15, "isName", "()Z"), (15, "isWordByte", "(I)Z"), (15, "editTokens", "(II)V"), (15, "end", "(I)I"), (15, "goesAt", "(II)V"), (15, "roomB", "([ZI)[Z"), (15, "piece", "(III)V"), (15, "tryEdits", "()I"), (15, "settleEdits", "()V"), (15, "sortEdits", "()V"), (15, "pieceByte", "(II)B"), (15, "byteOfPlace", "(I)B"), (15, "goes", "(I)Z"), (15, "makeNew", "()V"), (15, "toNew", "(III)V"), (15, "pieceOld", "(II)I"), (15, "oldToken", "(I)I"), (15, "putInLocal", "(I)I"), (15, "meets", "(I)V"), (15, "isMet", "()Z"), (15, "isCalm", "(I)Z"), (15, "isMeantIn", "(III)Z"), (15, "isInWhile", "(II)Z"), (15, "copyExp", "(I)V"), (15, "text", "(Ljava/lang/String;)V"), (15, "copy", "(II)V"), (15, "takeOutLocal", "(II)I"), (15, "statementOf", "(I)I"), (15, "typeText", "(I)V"), (15, "fresh", "(I)V"), (15, "name", "()V"), (15, "takeOutMethod", "(II)I"), (15, "isBefore", "(II)Z"), (15, "isPassed", "(IIII)Z"), (15, "isNamedSo", "(I)Z"), (15, "passed", "(IIIZ)V"), (15, "putInMethod", "(I)I"), (15, "hasWildArgument", "(IZ)Z"), (15, "nodeNamed", "(I)I"), (15, "args", "(I)I"), (15, "copyWith", "(III)V"), (15, "shutField", "(I)I"), (15, "classAt", "(I)I"), (15, "moveMember", "(II)I"), (15, "namedClass", "()I"), (15, "signature", "(I)I"), (15, "moveStatic", "(I)I"), (15, "isFrontOf", "(II)Z"), (15, "dropTold", "(I)I"), (15, "turnIf", "(I)I"), (15, "turned", "(II)V"), (15, "edits", "()I"), (15, "edit", "(II)I"), (15, "apply", "()I"), (15, "undo", "()I"), (15, "redo", "()I"), (15, "recipe", "()I"), (15, "readRecipe", "()V"), (15, "find", "()V"), (15, "mayBeFound", "(I)Z"), (15, "isMatch", "(I)Z"), (15, "matches", "(II)Z"), (15, "plainOf", "(LRefactorHouseModel$Program;I)I"), (15, "isSameTokens", "(II)Z"), (15, "matchesAll", "(II)Z"), (15, "found", "(II)I"), (15, "put", "()I"), (15, "putFound", "()I"), (15, "alike", "(I)I"), (15, "findAlike", "(I)V"), (15, "areAlike", "(III)Z"), (15, "pair", "(II)I")]
def mt_c : List ByteArray := [code, prog_1_method_1_code, prog_11_method_1_code, prog_8_method_1_code, prog_9_method_1_code, prog_4_method_1_code, prog_2_method_1_code, prog_6_method_1_code, prog_10_method_1_code, prog_7_method_1_code, prog_1_method_2_code, prog_1_method_3_code, prog_1_method_4_code, prog_1_method_5_code, prog_10_method_3_code, prog_10_method_9_code, prog_11_method_3_code, prog_11_method_2_code, prog_10_method_2_code, prog_26_method_103_code, prog_11_method_5_code, prog_11_method_6_code, prog_19_method_69_code, prog_11_method_7_code, prog_11_method_8_code, prog_1_method_41_code, prog_1_method_43_code, prog_1_method_44_code, prog_1_method_42_code, prog_11_method_9_code, prog_11_method_10_code, prog_11_method_11_code, prog_10_method_6_code, prog_10_method_11_code, prog_11_method_12_code, prog_11_method_19_code, prog_11_method_14_code, prog_11_method_13_code, prog_11_method_15_code, prog_11_method_18_code, prog_3_method_1_code, prog_3_method_2_code, prog_11_method_20_code, prog_11_method_16_code, prog_11_method_21_code, prog_11_method_22_code, prog_12_method_1_code, prog_12_method_2_code, prog_11_method_25_code, prog_11_method_17_code, prog_11_method_23_code, prog_11_method_26_code, prog_11_method_28_code, prog_11_method_31_code, prog_11_method_32_code, prog_11_method_33_code, prog_11_method_30_code, prog_5_method_1_code, prog_5_method_2_code, prog_11_method_34_code, prog_11_method_35_code, prog_11_method_27_code, prog_11_method_29_code, prog_10_method_4_code, prog_11_method_24_code, prog_1_method_6_code, prog_6_method_2_code, prog_7_method_2_code, prog_10_method_8_code, prog_1_method_7_code, prog_1_method_8_code, prog_1_method_9_code, prog_1_method_10_code, prog_10_method_7_code, prog_1_method_11_code, prog_1_method_12_code, prog_1_method_13_code, prog_8_method_2_code, prog_8_method_6_code, prog_8_method_5_code, prog_8_method_3_code, prog_3_method_4_code, prog_8_method_7_code, prog_8_method_8_code, prog_8_method_9_code, prog_3_method_3_code, prog_8_method_10_code, prog_10_method_28_code, prog_8_method_11_code, prog_8_method_12_code, prog_8_method_4_code, prog_8_method_16_code, prog_8_method_18_code, prog_8_method_19_code, prog_8_method_21_code, prog_8_method_20_code, prog_8_method_17_code, prog_8_method_23_code, prog_8_method_22_code, prog_10_method_26_code, prog_8_method_24_code, prog_8_method_25_code, prog_10_method_22_code, prog_10_method_27_code, prog_8_method_26_code, prog_10_method_29_code, prog_8_method_27_code, prog_8_method_13_code, prog_8_method_14_code, prog_8_method_15_code, prog_8_method_28_code, prog_8_method_33_code, prog_8_method_30_code, prog_8_method_29_code, prog_8_method_31_code, prog_8_method_32_code, prog_8_method_34_code, prog_8_method_35_code, prog_8_method_36_code, prog_8_method_38_code, prog_8_method_37_code, prog_1_method_14_code, prog_10_method_12_code, prog_1_method_15_code, prog_10_method_25_code, prog_1_method_16_code, prog_10_method_14_code, prog_1_method_17_code, prog_10_method_15_code, prog_1_method_18_code, prog_10_method_13_code, prog_10_method_17_code, prog_10_method_16_code, prog_1_method_19_code, prog_10_method_18_code, prog_1_method_20_code, prog_10_method_20_code, prog_1_method_21_code, prog_1_method_22_code, prog_1_method_23_code, prog_1_method_24_code, prog_7_method_5_code, prog_9_method_2_code, prog_9_method_3_code, prog_9_method_5_code, prog_9_method_4_code, prog_9_method_6_code, prog_9_method_20_code, prog_9_method_22_code, prog_9_method_23_code, prog_9_method_10_code, prog_9_method_9_code, prog_9_method_18_code, prog_9_method_7_code, prog_9_method_12_code, prog_9_method_13_code, prog_9_method_8_code, prog_9_method_15_code, prog_9_method_16_code, prog_9_method_17_code, prog_19_method_65_code, prog_9_method_11_code, prog_9_method_19_code, prog_26_method_104_code, prog_26_method_30_code, prog_9_method_14_code, prog_9_method_21_code, prog_9_method_26_code, prog_9_method_28_code, prog_9_method_30_code, prog_9_method_27_code, prog_9_method_24_code, prog_9_method_29_code, prog_9_method_25_code, prog_1_method_25_code, prog_1_method_26_code, prog_1_method_27_code, prog_1_method_28_code, prog_1_method_29_code, prog_2_method_2_code, prog_4_method_2_code, prog_2_method_3_code, prog_2_method_4_code, prog_2_method_8_code, prog_2_method_7_code, prog_2_method_5_code, prog_2_method_6_code, prog_2_method_16_code, prog_10_method_21_code, prog_4_method_4_code, prog_10_method_5_code, prog_4_method_3_code, prog_4_method_8_code, prog_4_method_6_code, prog_4_method_5_code, prog_2_method_17_code, prog_2_method_11_code, prog_2_method_12_code, prog_10_method_30_code, prog_2_method_10_code, prog_2_method_18_code, prog_10_method_19_code, prog_2_method_9_code, prog_2_method_14_code, prog_4_method_11_code, prog_4_method_9_code, prog_4_method_7_code, prog_2_method_19_code, prog_4_method_13_code, prog_2_method_15_code, prog_4_method_10_code, prog_2_method_20_code, prog_2_method_22_code, prog_2_method_23_code, prog_2_method_21_code, prog_10_method_10_code, prog_2_method_24_code, prog_4_method_12_code, prog_2_method_25_code, prog_2_method_26_code, prog_2_method_13_code, prog_2_method_27_code, prog_2_method_28_code, prog_10_method_23_code, prog_2_method_30_code, prog_2_method_29_code, prog_10_method_24_code, prog_2_method_31_code, prog_2_method_32_code, prog_2_method_34_code, prog_2_method_33_code, prog_2_method_35_code, prog_2_method_36_code, prog_2_method_37_code, prog_2_method_38_code, prog_2_method_39_code, prog_2_method_40_code, prog_4_method_15_code, prog_2_method_41_code, prog_4_method_16_code, prog_4_method_17_code, prog_4_method_18_code, prog_2_method_43_code, prog_2_method_42_code, prog_4_method_19_code, prog_2_method_44_code, prog_2_method_45_code, prog_1_method_30_code, prog_1_method_31_code, prog_4_method_14_code, prog_1_method_32_code, prog_7_method_3_code, prog_7_method_4_code, prog_1_method_33_code, prog_1_method_35_code, prog_7_method_6_code, prog_1_method_34_code, prog_1_method_36_code, prog_6_method_3_code, prog_11_method_4_code, prog_6_method_4_code, prog_6_method_5_code, prog_6_method_6_code, prog_6_method_8_code, prog_6_method_9_code, prog_6_method_11_code, prog_6_method_12_code, prog_6_method_13_code, prog_6_method_10_code, prog_1_method_37_code, prog_6_method_7_code, prog_1_method_38_code, prog_6_method_14_code, prog_6_method_15_code, prog_1_method_39_code, prog_6_method_16_code, prog_6_method_17_code, prog_6_method_18_code, prog_1_method_40_code, prog_14_method_34_code, prog_15_method_1_code, prog_16_method_1_code, prog_15_method_73_code, prog_15_method_72_code, prog_15_method_74_code, prog_15_method_19_code, prog_16_method_5_code, prog_16_method_2_code, prog_16_method_3_code, prog_14_method_1_code, prog_14_method_2_code, prog_14_method_3_code, prog_16_method_4_code, prog_15_method_3_code, prog_15_method_2_code, prog_14_method_4_code, prog_15_method_8_code, prog_15_method_4_code, prog_15_method_20_code, prog_15_method_6_code, prog_15_method_5_code, prog_15_method_13_code, prog_15_method_18_code, prog_15_method_10_code, prog_15_method_12_code, prog_15_method_11_code, prog_15_method_9_code, prog_15_method_7_code, prog_15_method_21_code, prog_15_method_14_code, prog_15_method_22_code, prog_15_method_15_code, prog_15_method_24_code, prog_15_method_23_code, prog_15_method_28_code, prog_15_method_29_code, prog_15_method_30_code, prog_15_method_16_code, prog_15_method_17_code, prog_15_method_32_code, prog_15_method_31_code, prog_15_method_34_code, prog_15_method_33_code, prog_14_method_6_code, prog_14_method_5_code, prog_15_method_37_code, prog_15_method_36_code, prog_15_method_35_code, prog_15_method_27_code, prog_15_method_26_code, prog_15_method_25_code, prog_15_method_46_code, prog_15_method_42_code, prog_15_method_47_code, prog_15_method_38_code, prog_15_method_40_code, prog_15_method_48_code, prog_15_method_39_code, prog_15_method_44_code, prog_15_method_43_code, prog_15_method_49_code, prog_15_method_50_code, prog_15_method_53_code, prog_15_method_56_code, prog_15_method_58_code, prog_15_method_61_code, prog_15_method_52_code, prog_15_method_60_code, prog_15_method_64_code, prog_15_method_65_code, prog_15_method_41_code, prog_15_method_66_code, prog_15_method_45_code, prog_15_method_67_code, prog_15_method_63_code, prog_15_method_62_code, prog_15_method_57_code, prog_15_method_59_code, prog_15_method_51_code, prog_15_method_54_code, prog_15_method_55_code, prog_15_method_69_code, prog_15_method_68_code, prog_14_method_35_code, prog_14_method_105_code, prog_14_method_106_code, prog_14_method_107_code, prog_14_method_111_code, prog_14_method_108_code, prog_14_method_110_code, prog_14_method_109_code, prog_14_method_38_code, prog_14_method_112_code, prog_14_method_113_code, prog_14_method_114_code, prog_14_method_115_code, prog_15_method_75_code, prog_14_method_116_code, prog_14_method_117_code, prog_15_method_76_code, prog_14_method_118_code, prog_15_method_78_code, prog_15_method_79_code, prog_14_method_119_code, prog_14_method_120_code, prog_14_method_122_code, prog_14_method_121_code, prog_15_method_77_code, prog_14_method_64_code, prog_14_method_123_code, prog_14_method_124_code, prog_15_method_71_code, prog_15_method_70_code, prog_14_method_125_code, prog_14_method_126_code, prog_14_method_127_code, prog_14_method_36_code, prog_14_method_17_code, prog_14_method_14_code, prog_14_method_8_code, prog_14_method_7_code, prog_14_method_9_code, prog_14_method_10_code, prog_14_method_12_code, prog_14_method_11_code, prog_14_method_13_code, prog_14_method_30_code, prog_14_method_31_code, prog_14_method_20_code, prog_14_method_25_code, prog_14_method_26_code, prog_14_method_21_code, prog_14_method_15_code, prog_14_method_28_code, prog_14_method_16_code, prog_14_method_22_code, prog_14_method_33_code, prog_14_method_29_code, prog_14_method_24_code, prog_15_method_80_code, prog_14_method_27_code, prog_14_method_32_code, prog_14_method_23_code, prog_14_method_18_code, prog_14_method_19_code, prog_14_method_128_code, prog_14_method_129_code, prog_14_method_130_code, prog_14_method_131_code, prog_14_method_74_code, prog_14_method_65_code, prog_14_method_75_code, prog_14_method_59_code, prog_14_method_61_code, prog_14_method_55_code, prog_14_method_48_code, prog_14_method_42_code, prog_14_method_39_code, prog_14_method_37_code, prog_14_method_40_code, prog_14_method_60_code, prog_14_method_54_code, prog_14_method_52_code, prog_14_method_50_code, prog_14_method_49_code, prog_14_method_53_code, prog_14_method_57_code, prog_14_method_56_code, prog_14_method_51_code, prog_14_method_58_code, prog_14_method_76_code, prog_14_method_72_code, prog_14_method_73_code, prog_14_method_66_code, prog_14_method_77_code, prog_14_method_68_code, prog_14_method_47_code, prog_14_method_41_code, prog_14_method_43_code, prog_14_method_78_code, prog_14_method_67_code, prog_14_method_46_code, prog_14_method_44_code, prog_14_method_45_code, prog_14_method_79_code, prog_14_method_80_code, prog_14_method_81_code, prog_14_method_62_code, prog_14_method_82_code, prog_14_method_83_code, prog_14_method_85_code, prog_14_method_70_code, prog_14_method_71_code, prog_14_method_84_code, prog_14_method_86_code, prog_14_method_69_code, prog_14_method_87_code, prog_14_method_63_code, prog_14_method_88_code, prog_14_method_89_code, prog_14_method_90_code, prog_14_method_91_code, prog_14_method_92_code, prog_14_method_93_code, prog_14_method_132_code, prog_14_method_133_code, prog_14_method_134_code, prog_14_method_135_code, prog_14_method_136_code, prog_14_method_137_code, prog_14_method_94_code, prog_14_method_100_code, prog_14_method_101_code, prog_14_method_99_code, prog_14_method_97_code, prog_14_method_95_code, prog_14_method_96_code, prog_14_method_98_code, prog_14_method_138_code, prog_14_method_139_code, prog_14_method_102_code, prog_14_method_140_code, prog_14_method_103_code, prog_14_method_104_code, prog_14_method_141_code]
/-- locals, what it returns, the place of its code, of its being static or not, of its class being initialized or of its selection -/
def mt_i : List (Nat × Option FieldType × (Nat × Nat) × (Nat × Nat) × (Nat × Nat)) := [(4, some .boolean, (99, 0), (99, 0), (99, 0)), (1, none, (0, 31), (0, 30), (99, 0)), (1, none, (0, 39), (0, 38), (99, 0)), (1, none, (0, 108), (0, 107), (99, 0)), (1, none, (0, 126), (0, 125), (99, 0)), (1, none, (0, 195), (0, 194), (99, 0)), (2, none, (0, 239), (0, 238), (99, 0)), (1, none, (1, 40), (1, 39), (99, 0)), (4, none, (1, 46), (1, 45), (99, 0)), (1, none, (2, 5), (2, 4), (99, 0)), (6, some .int, (2, 93), (2, 91), (2, 92)), (3, none, (2, 97), (2, 96), (16, 0)), (2, some .int, (2, 101), (2, 99), (2, 100)), (4, some .int, (2, 105), (2, 103), (2, 104)), (3, none, (2, 109), (2, 107), (2, 108)), (4, some .int, (2, 117), (2, 115), (2, 116)), (6, some .int, (2, 121), (2, 119), (2, 120)), (2, none, (2, 125), (2, 124), (16, 1)), (1, none, (2, 129), (2, 127), (2, 128)), (4, none, (2, 132), (2, 131), (0, 22)), (3, none, (2, 136), (2, 135), (16, 2)), (8, none, (2, 140), (2, 139), (16, 3)), (2, some .int, (2, 143), (2, 142), (0, 23)), (6, some .int, (2, 146), (2, 145), (0, 2)), (6, some .int, (2, 150), (2, 149), (16, 4)), (1, some .boolean, (2, 153), (2, 152), (0, 1)), (1, some .boolean, (2, 156), (2, 155), (0, 1)), (6, some .int, (2, 159), (2, 158), (0, 1)), (1, some .boolean, (2, 203), (2, 202), (0, 1)), (3, some .int, (2, 207), (2, 206), (16, 5)), (2, some .int, (2, 211), (2, 210), (16, 6)), (5, some .int, (2, 215), (2, 214), (16, 7)), (4, some .int, (2, 219), (2, 217), (2, 218)), (5, some .boolean, (2, 223), (2, 221), (2, 222)), (1, some .int, (2, 229), (2, 228), (16, 8)), (8, none, (2, 233), (2, 232), (16, 9)), (3, none, (2, 237), (2, 236), (16, 10)), (2, none, (3, 1), (3, 0), (16, 11)), (2, none, (3, 5), (3, 4), (16, 12)), (4, some (.object "RefactorHouse$Decl"), (3, 9), (3, 8), (16, 13)), (1, none, (3, 14), (3, 13), (99, 0)), (4, none, (3, 151), (3, 149), (3, 150)), (10, some (.object "RefactorHouse$Decl"), (3, 155), (3, 154), (16, 14)), (2, some .boolean, (3, 159), (3, 158), (16, 15)), (7, none, (3, 163), (3, 162), (16, 16)), (4, some (.object "RefactorHouse$Stat"), (3, 167), (3, 166), (16, 17)), (1, none, (3, 172), (3, 171), (99, 0)), (3, none, (4, 27), (4, 25), (4, 26)), (6, none, (4, 31), (4, 30), (16, 18)), (3, none, (4, 35), (4, 34), (16, 19)), (5, some (.object "RefactorHouse$Stat"), (4, 39), (4, 38), (16, 20)), (4, none, (4, 43), (4, 42), (16, 21)), (5, some (.object "RefactorHouse$Exp"), (4, 47), (4, 46), (16, 22)), (6, some (.object "RefactorHouse$Exp"), (4, 51), (4, 50), (16, 23)), (6, some (.object "RefactorHouse$Exp"), (4, 55), (4, 54), (16, 24)), (8, some (.object "RefactorHouse$Exp"), (4, 59), (4, 58), (16, 25)), (7, some (.object "RefactorHouse$Exp"), (4, 63), (4, 62), (16, 26)), (1, none, (4, 67), (4, 66), (99, 0)), (3, none, (4, 190), (4, 188), (4, 189)), (4, some .int, (4, 194), (4, 193), (16, 27)), (11, some (.object "RefactorHouse$Exp"), (4, 198), (4, 197), (16, 28)), (1, some .int, (4, 201), (4, 200), (0, 2)), (8, some (.object "RefactorHouse$Exp"), (4, 205), (4, 204), (16, 29)), (2, some .int, (4, 209), (4, 207), (4, 208)), (5, none, (4, 213), (4, 212), (16, 30)), (2, none, (4, 217), (4, 216), (16, 31)), (1, none, (4, 221), (4, 219), (4, 220)), (1, none, (4, 225), (4, 223), (4, 224)), (4, some .int, (4, 229), (4, 227), (4, 228)), (1, some .int, (4, 233), (4, 231), (4, 232)), (2, some .int, (4, 237), (4, 235), (4, 236)), (3, some .int, (5, 1), (4, 239), (5, 0)), (4, some .int, (5, 5), (5, 3), (5, 4)), (6, some .int, (5, 9), (5, 7), (5, 8)), (1, some .int, (5, 12), (5, 11), (0, 1)), (1, some .int, (5, 16), (5, 14), (5, 15)), (1, some .boolean, (5, 20), (5, 19), (16, 32)), (4, none, (5, 24), (5, 22), (5, 23)), (3, none, (5, 28), (5, 27), (16, 33)), (3, some (.object "RefactorHouse$Decl"), (5, 32), (5, 31), (16, 34)), (4, none, (5, 36), (5, 35), (16, 35)), (4, some .boolean, (5, 40), (5, 38), (5, 39)), (3, none, (5, 44), (5, 43), (16, 36)), (3, some .int, (5, 48), (5, 47), (16, 37)), (3, none, (5, 53), (5, 52), (16, 38)), (1, some .boolean, (5, 57), (5, 55), (5, 56)), (4, none, (5, 61), (5, 60), (16, 39)), (5, some .boolean, (5, 65), (5, 63), (5, 64)), (5, none, (5, 69), (5, 68), (16, 40)), (3, some .int, (5, 73), (5, 72), (16, 41)), (3, some .int, (5, 77), (5, 76), (16, 42)), (3, some .int, (5, 81), (5, 80), (16, 43)), (4, some (.object "RefactorHouse$Decl"), (5, 85), (5, 84), (16, 44)), (3, some .boolean, (5, 88), (5, 87), (0, 3)), (6, some (.object "RefactorHouse$Decl"), (5, 92), (5, 91), (16, 45)), (2, some .boolean, (5, 95), (5, 94), (0, 3)), (3, some .int, (5, 99), (5, 98), (16, 46)), (3, some .int, (5, 103), (5, 102), (16, 47)), (3, some (.object "RefactorHouse$Decl"), (5, 107), (5, 106), (16, 48)), (3, some (.object "RefactorHouse$Decl"), (5, 111), (5, 109), (5, 110)), (9, some .int, (5, 115), (5, 114), (16, 49)), (6, some .boolean, (5, 119), (5, 118), (16, 50)), (4, some (.object "RefactorHouse$Decl"), (5, 123), (5, 121), (5, 122)), (6, some .boolean, (5, 127), (5, 125), (5, 126)), (6, some (.object "RefactorHouse$Decl"), (5, 131), (5, 130), (16, 51)), (3, some .boolean, (5, 135), (5, 133), (5, 134)), (6, some .boolean, (5, 141), (5, 140), (16, 52)), (3, some .boolean, (5, 145), (5, 144), (16, 53)), (6, some .int, (5, 149), (5, 148), (16, 54)), (6, some .int, (5, 153), (5, 152), (16, 55)), (3, none, (5, 157), (5, 156), (16, 56)), (2, some .boolean, (5, 160), (5, 159), (0, 3)), (3, none, (5, 164), (5, 163), (16, 57)), (1, some .boolean, (5, 167), (5, 166), (0, 3)), (3, none, (5, 171), (5, 170), (16, 58)), (3, none, (5, 175), (5, 174), (16, 59)), (3, none, (5, 179), (5, 178), (16, 60)), (5, none, (5, 183), (5, 182), (16, 61)), (3, some .int, (5, 187), (5, 186), (0, 3)), (5, some (.object "RefactorHouse$Decl"), (5, 191), (5, 190), (16, 62)), (3, none, (5, 194), (5, 193), (0, 3)), (4, some .int, (5, 198), (5, 196), (5, 197)), (3, some (.object "RefactorHouse$Decl"), (5, 202), (5, 200), (5, 201)), (4, some .int, (5, 207), (5, 205), (5, 206)), (7, some (.object "RefactorHouse$Exp"), (5, 211), (5, 209), (5, 210)), (2, some .int, (5, 215), (5, 213), (5, 214)), (4, some .int, (5, 219), (5, 217), (5, 218)), (4, some .int, (5, 223), (5, 221), (5, 222)), (4, some (.object "RefactorHouse$Decl"), (5, 227), (5, 225), (5, 226)), (3, some .int, (5, 231), (5, 229), (5, 230)), (3, some (.object "RefactorHouse$Decl"), (5, 235), (5, 233), (5, 234)), (4, some .int, (6, 0), (5, 238), (5, 239)), (3, some .boolean, (6, 4), (6, 2), (6, 3)), (5, some .int, (6, 8), (6, 6), (6, 7)), (5, some .int, (6, 12), (6, 10), (6, 11)), (3, some .int, (6, 16), (6, 14), (6, 15)), (4, some .int, (6, 20), (6, 18), (6, 19)), (2, some .int, (6, 24), (6, 22), (6, 23)), (2, some .int, (6, 28), (6, 26), (6, 27)), (3, some .int, (6, 32), (6, 30), (6, 31)), (1, some .boolean, (6, 36), (6, 35), (16, 63)), (5, none, (6, 40), (6, 38), (6, 39)), (7, some .int, (6, 45), (6, 43), (6, 44)), (3, none, (6, 51), (6, 50), (16, 64)), (3, none, (6, 55), (6, 54), (16, 65)), (3, some .int, (6, 58), (6, 57), (0, 4)), (5, none, (6, 62), (6, 61), (16, 66)), (3, none, (6, 67), (6, 66), (16, 67)), (2, none, (6, 71), (6, 70), (16, 68)), (2, some .boolean, (6, 74), (6, 73), (0, 4)), (1, some .boolean, (6, 79), (6, 78), (16, 69)), (3, none, (6, 83), (6, 82), (16, 70)), (6, none, (6, 87), (6, 86), (16, 71)), (2, none, (6, 91), (6, 90), (16, 72)), (4, none, (6, 96), (6, 95), (16, 73)), (3, some .boolean, (6, 100), (6, 99), (16, 74)), (1, some .int, (6, 104), (6, 103), (16, 75)), (3, none, (6, 108), (6, 107), (16, 76)), (3, none, (6, 112), (6, 111), (16, 77)), (7, none, (6, 116), (6, 115), (16, 78)), (2, some .int, (6, 119), (6, 118), (0, 23)), (1, some .boolean, (6, 123), (6, 122), (16, 79)), (5, none, (6, 127), (6, 126), (16, 80)), (5, none, (6, 130), (6, 129), (0, 22)), (3, none, (6, 133), (6, 132), (0, 22)), (4, none, (6, 137), (6, 136), (16, 81)), (4, none, (6, 141), (6, 140), (16, 82)), (4, none, (6, 145), (6, 144), (16, 83)), (6, none, (6, 149), (6, 148), (16, 84)), (5, none, (6, 153), (6, 152), (16, 85)), (2, none, (6, 157), (6, 156), (16, 86)), (4, none, (6, 161), (6, 160), (16, 87)), (5, none, (6, 165), (6, 164), (16, 88)), (3, none, (6, 170), (6, 169), (16, 89)), (2, some .int, (6, 174), (6, 172), (6, 173)), (2, some .int, (6, 178), (6, 176), (6, 177)), (6, some .int, (6, 182), (6, 180), (6, 181)), (4, some .boolean, (6, 187), (6, 186), (16, 90)), (6, some .int, (6, 191), (6, 189), (6, 190)), (4, none, (6, 195), (6, 193), (6, 194)), (2, none, (6, 199), (6, 197), (6, 198)), (5, some .int, (6, 204), (6, 202), (6, 203)), (5, some .boolean, (6, 208), (6, 207), (16, 91)), (4, some .boolean, (6, 215), (6, 214), (16, 92)), (4, some (.object "RefactorHouse$Stat"), (6, 219), (6, 218), (16, 93)), (3, some .boolean, (6, 224), (6, 223), (16, 94)), (2, some .boolean, (6, 228), (6, 227), (16, 95)), (2, some .int, (6, 236), (6, 235), (16, 96)), (3, some .boolean, (7, 0), (6, 238), (6, 239)), (3, none, (7, 4), (7, 2), (7, 3)), (2, some .int, (7, 8), (7, 6), (7, 7)), (4, none, (7, 12), (7, 10), (7, 11)), (5, none, (7, 17), (7, 15), (7, 16)), (4, none, (7, 21), (7, 19), (7, 20)), (1, none, (7, 27), (7, 25), (7, 26)), (6, some .int, (7, 31), (7, 30), (16, 97)), (2, some .boolean, (7, 34), (7, 33), (0, 6)), (3, some .int, (7, 38), (7, 37), (16, 98)), (6, some .boolean, (7, 42), (7, 40), (7, 41)), (3, some (.object "RefactorHouse$Stat"), (7, 45), (7, 44), (0, 6)), (2, some .boolean, (7, 49), (7, 48), (16, 99)), (5, some .int, (7, 53), (7, 51), (7, 52)), (3, some .boolean, (7, 56), (7, 55), (0, 6)), (3, none, (7, 60), (7, 59), (16, 100)), (3, none, (7, 65), (7, 63), (7, 64)), (5, none, (7, 69), (7, 67), (7, 68)), (3, none, (7, 74), (7, 72), (7, 73)), (2, some .int, (7, 88), (7, 87), (16, 101)), (4, none, (7, 93), (7, 91), (7, 92)), (1, none, (7, 102), (7, 101), (16, 102)), (3, none, (7, 107), (7, 105), (7, 106)), (6, some .int, (7, 112), (7, 111), (16, 103)), (7, some .int, (7, 116), (7, 115), (16, 104)), (2, some .boolean, (7, 120), (7, 119), (16, 105)), (2, some .boolean, (7, 123), (7, 122), (0, 6)), (5, some .boolean, (7, 128), (7, 126), (7, 127)), (2, none, (7, 132), (7, 131), (16, 106)), (5, none, (7, 136), (7, 134), (7, 135)), (6, none, (7, 141), (7, 140), (16, 107)), (5, some .int, (7, 154), (7, 153), (16, 108)), (5, some .int, (7, 159), (7, 158), (16, 109)), (7, none, (7, 163), (7, 162), (16, 110)), (3, some .int, (7, 169), (7, 168), (16, 111)), (3, some (.object "RefactorHouse$Decl"), (7, 175), (7, 173), (7, 174)), (2, some .int, (7, 180), (7, 179), (16, 112)), (2, some .int, (7, 184), (7, 183), (16, 113)), (4, some (.object "RefactorHouse$Decl"), (7, 188), (7, 186), (7, 187)), (5, some .int, (7, 193), (7, 192), (16, 114)), (4, some .boolean, (7, 197), (7, 196), (16, 115)), (4, none, (7, 201), (7, 200), (16, 116)), (3, none, (7, 205), (7, 204), (16, 117)), (5, none, (7, 210), (7, 209), (16, 118)), (3, some .int, (7, 214), (7, 213), (16, 119)), (6, none, (7, 218), (7, 217), (16, 120)), (4, some .int, (7, 225), (7, 224), (16, 121)), (1, some .int, (7, 230), (7, 229), (16, 122)), (3, none, (7, 235), (7, 234), (16, 123)), (7, none, (8, 1), (7, 239), (8, 0)), (4, some .int, (8, 5), (8, 3), (8, 4)), (6, none, (8, 9), (8, 7), (8, 8)), (6, none, (8, 13), (8, 12), (16, 124)), (6, none, (8, 17), (8, 16), (16, 125)), (6, some .int, (8, 23), (8, 22), (16, 126)), (4, some (.object "RefactorHouse$Decl"), (8, 27), (8, 26), (16, 127)), (5, some .int, (8, 31), (8, 29), (8, 30)), (8, some .int, (8, 36), (8, 35), (16, 128)), (3, some (.object "RefactorHouse$Decl"), (8, 40), (8, 39), (16, 129)), (1, some .int, (8, 45), (8, 43), (8, 44)), (3, some .int, (8, 49), (8, 47), (8, 48)), (3, some .int, (8, 53), (8, 51), (8, 52)), (1, some .int, (8, 57), (8, 55), (8, 56)), (3, none, (8, 62), (8, 60), (8, 61)), (5, none, (8, 66), (8, 65), (16, 130)), (1, some .int, (8, 70), (8, 68), (8, 69)), (2, some .int, (8, 74), (8, 73), (16, 131)), (2, none, (8, 78), (8, 76), (8, 77)), (1, some .int, (8, 82), (8, 80), (8, 81)), (3, some .int, (8, 86), (8, 84), (8, 85)), (6, some .int, (8, 90), (8, 88), (8, 89)), (2, some .int, (8, 95), (8, 93), (8, 94)), (6, some .int, (8, 99), (8, 98), (16, 132)), (3, some .int, (8, 105), (8, 104), (16, 133)), (4, some .int, (8, 110), (8, 108), (8, 109)), (2, some .boolean, (8, 114), (8, 113), (0, 7)), (6, some .boolean, (8, 118), (8, 117), (16, 134)), (4, some .boolean, (8, 122), (8, 121), (16, 135)), (3, some (.object "RefactorHouse$Exp"), (8, 126), (8, 125), (0, 7)), (5, some .boolean, (8, 131), (8, 130), (16, 136)), (4, some .boolean, (8, 135), (8, 134), (16, 137)), (4, some .int, (8, 139), (8, 137), (8, 138)), (2, some (.object "RefactorHouse$Exp"), (8, 143), (8, 141), (8, 142)), (2, some .int, (8, 147), (8, 145), (8, 146)), (6, none, (8, 151), (8, 149), (8, 150)), (4, none, (8, 159), (8, 158), (16, 138)), (2, some .int, (8, 167), (8, 165), (8, 166)), (6, some .int, (8, 171), (8, 169), (8, 170)), (4, some .boolean, (8, 174), (8, 173), (0, 7)), (9, some .boolean, (8, 178), (8, 177), (16, 139)), (3, some .int, (8, 182), (8, 180), (8, 181)), (1, none, (8, 187), (8, 186), (99, 0)), (2, none, (9, 19), (9, 18), (99, 0)), (1, none, (9, 26), (9, 25), (99, 0)), (4, some .int, (10, 49), (10, 48), (16, 140)), (1, none, (10, 53), (10, 52), (16, 141)), (3, some .int, (10, 57), (10, 56), (16, 142)), (4, none, (10, 61), (10, 60), (16, 143)), (9, none, (10, 65), (10, 64), (16, 144)), (3, some .int, (10, 68), (10, 67), (0, 16)), (10, some .int, (10, 72), (10, 71), (16, 145)), (1, some .boolean, (10, 75), (10, 74), (0, 10)), (1, some .boolean, (10, 78), (10, 77), (0, 10)), (8, some .int, (10, 81), (10, 80), (0, 10)), (2, some .int, (10, 87), (10, 86), (0, 16)), (1, some .int, (10, 91), (10, 90), (16, 146)), (2, some .int, (10, 95), (10, 94), (16, 147)), (3, none, (10, 99), (10, 98), (16, 148)), (2, some .boolean, (10, 103), (10, 102), (16, 149)), (1, none, (10, 107), (10, 106), (16, 150)), (7, none, (10, 111), (10, 110), (16, 151)), (1, some .int, (10, 115), (10, 114), (16, 152)), (1, none, (10, 119), (10, 118), (16, 153)), (2, some .int, (10, 123), (10, 122), (16, 154)), (8, some .int, (10, 127), (10, 126), (16, 155)), (2, some .boolean, (10, 131), (10, 130), (16, 156)), (1, some .int, (10, 135), (10, 134), (16, 157)), (2, none, (10, 139), (10, 138), (16, 158)), (2, some .boolean, (10, 143), (10, 142), (16, 159)), (2, some .boolean, (10, 147), (10, 146), (16, 160)), (13, none, (10, 151), (10, 150), (16, 161)), (1, some .boolean, (10, 155), (10, 154), (16, 162)), (5, some .int, (10, 159), (10, 158), (16, 163)), (1, none, (10, 163), (10, 162), (16, 164)), (7, some .int, (10, 167), (10, 166), (16, 165)), (1, some .boolean, (10, 171), (10, 170), (16, 166)), (1, some .int, (10, 175), (10, 174), (16, 167)), (6, some .int, (10, 179), (10, 178), (16, 168)), (5, some .int, (10, 183), (10, 182), (16, 169)), (8, some .int, (10, 187), (10, 186), (16, 170)), (4, none, (10, 191), (10, 190), (16, 171)), (6, some .int, (10, 195), (10, 194), (16, 172)), (4, some .int, (10, 199), (10, 198), (16, 173)), (5, some .int, (10, 203), (10, 202), (16, 174)), (3, none, (10, 207), (10, 206), (16, 175)), (5, some .int, (10, 210), (10, 209), (0, 10)), (2, some .int, (10, 213), (10, 212), (0, 10)), (4, some .int, (10, 217), (10, 216), (16, 176)), (6, some .boolean, (10, 221), (10, 220), (16, 177)), (3, some .byte, (10, 225), (10, 224), (16, 178)), (2, some .int, (10, 229), (10, 228), (16, 179)), (2, some .int, (10, 233), (10, 232), (16, 180)), (2, some .int, (10, 237), (10, 236), (16, 181)), (2, some .int, (11, 1), (11, 0), (16, 182)), (3, none, (11, 5), (11, 4), (16, 183)), (3, none, (11, 9), (11, 8), (16, 184)), (4, none, (11, 14), (11, 13), (16, 185)), (5, some .boolean, (11, 18), (11, 17), (16, 186)), (3, none, (11, 22), (11, 21), (16, 187)), (2, some .int, (11, 26), (11, 25), (16, 188)), (6, some .boolean, (11, 30), (11, 29), (16, 189)), (2, some .int, (11, 34), (11, 33), (16, 190)), (3, none, (11, 38), (11, 37), (16, 191)), (2, none, (11, 42), (11, 41), (16, 192)), (4, none, (11, 46), (11, 45), (16, 193)), (3, some .int, (11, 50), (11, 49), (16, 194)), (3, some .int, (11, 54), (11, 53), (16, 195)), (4, some .int, (11, 58), (11, 57), (16, 196)), (3, some .int, (11, 62), (11, 61), (16, 197)), (6, some .int, (11, 66), (11, 65), (16, 198)), (12, some .int, (11, 70), (11, 69), (16, 199)), (6, some .boolean, (11, 74), (11, 73), (16, 200)), (3, some .boolean, (11, 78), (11, 77), (16, 201)), (6, some .int, (11, 82), (11, 81), (16, 202)), (3, some .boolean, (11, 86), (11, 85), (16, 203)), (5, some .boolean, (11, 90), (11, 89), (16, 204)), (6, some .int, (11, 94), (11, 93), (16, 205)), (2, some .int, (11, 98), (11, 97), (16, 206)), (4, some .boolean, (11, 102), (11, 101), (16, 207)), (6, some .int, (11, 106), (11, 105), (16, 208)), (2, none, (11, 110), (11, 109), (16, 209)), (5, some .boolean, (11, 114), (11, 113), (16, 210)), (5, none, (11, 118), (11, 117), (16, 211)), (6, none, (11, 122), (11, 121), (16, 212)), (4, none, (11, 126), (11, 125), (16, 213)), (3, none, (11, 130), (11, 129), (16, 214)), (6, some .int, (12, 232), (12, 230), (12, 231)), (3, none, (12, 236), (12, 235), (16, 215)), (2, some .int, (13, 0), (12, 238), (12, 239)), (5, some .int, (13, 4), (13, 2), (13, 3)), (2, some .boolean, (13, 7), (13, 6), (0, 10)), (2, none, (13, 11), (13, 10), (16, 216)), (1, none, (13, 17), (13, 16), (16, 217)), (1, none, (13, 21), (13, 20), (16, 218)), (1, some .int, (13, 25), (13, 23), (13, 24)), (2, some .int, (13, 29), (13, 27), (13, 28)), (3, some .int, (13, 33), (13, 31), (13, 32)), (4, some .int, (13, 37), (13, 35), (13, 36)), (3, some .int, (13, 41), (13, 40), (16, 219)), (1, some .int, (13, 45), (13, 43), (13, 44)), (5, some .int, (13, 49), (13, 47), (13, 48)), (3, some .int, (13, 53), (13, 52), (16, 220)), (4, some .int, (13, 59), (13, 57), (13, 58)), (5, some .int, (13, 63), (13, 62), (16, 221)), (2, some .boolean, (13, 67), (13, 66), (16, 222)), (4, some .int, (13, 71), (13, 69), (13, 70)), (5, some .int, (13, 75), (13, 73), (13, 74)), (5, some .int, (13, 79), (13, 77), (13, 78)), (2, some .int, (13, 83), (13, 82), (16, 223)), (3, some .int, (13, 87), (13, 86), (16, 224)), (2, some .int, (13, 92), (13, 91), (16, 225)), (6, some .int, (13, 96), (13, 94), (13, 95)), (3, some .int, (13, 100), (13, 98), (13, 99)), (4, some .int, (13, 104), (13, 103), (16, 226)), (3, some .boolean, (13, 108), (13, 107), (16, 227)), (2, some .int, (13, 112), (13, 110), (13, 111)), (2, some .int, (13, 116), (13, 114), (13, 115)), (2, some .int, (13, 120), (13, 118), (13, 119)), (4, none, (13, 124), (13, 123), (16, 228)), (5, some .int, (13, 128), (13, 127), (16, 229)), (4, none, (13, 132), (13, 131), (16, 230)), (4, some .int, (13, 137), (13, 136), (16, 231)), (3, some (.array .int), (13, 140), (13, 139), (0, 10)), (4, none, (13, 145), (13, 144), (16, 232)), (5, none, (13, 149), (13, 148), (16, 233)), (6, none, (13, 154), (13, 153), (16, 234)), (6, none, (13, 158), (13, 157), (16, 235)), (6, none, (13, 162), (13, 161), (16, 236)), (2, none, (13, 166), (13, 165), (16, 237)), (6, none, (13, 170), (13, 169), (16, 238)), (2, none, (13, 174), (13, 173), (16, 239)), (2, some .int, (13, 178), (13, 177), (16, 240)), (6, some .int, (13, 182), (13, 181), (16, 241)), (1, some .int, (13, 186), (13, 185), (16, 242)), (2, none, (13, 190), (13, 189), (16, 243)), (4, none, (13, 194), (13, 193), (16, 244)), (1, none, (13, 198), (13, 197), (16, 245)), (1, none, (13, 202), (13, 201), (16, 246)), (4, some .int, (13, 206), (13, 205), (16, 247)), (6, none, (13, 210), (13, 209), (16, 248)), (6, none, (13, 214), (13, 213), (16, 249)), (3, some .int, (13, 218), (13, 217), (16, 250)), (9, some .int, (13, 222), (13, 221), (16, 251)), (5, none, (13, 227), (13, 226), (16, 252)), (1, none, (13, 231), (13, 230), (16, 253)), (3, some .int, (13, 235), (13, 234), (16, 254)), (3, some .boolean, (13, 239), (13, 238), (16, 255)), (2, some .int, (14, 3), (14, 1), (14, 2)), (2, some .int, (14, 7), (14, 5), (14, 6)), (11, some .int, (14, 11), (14, 9), (14, 10)), (4, some .int, (14, 16), (14, 14), (14, 15)), (4, some .int, (14, 20), (14, 19), (16, 256)), (2, none, (14, 24), (14, 23), (16, 257)), (6, some .int, (14, 28), (14, 27), (16, 258)), (3, some .int, (14, 32), (14, 31), (16, 259)), (3, some .boolean, (14, 36), (14, 35), (16, 260)), (1, some .boolean, (14, 40), (14, 39), (0, 10)), (3, none, (14, 47), (14, 46), (16, 261)), (2, some .int, (14, 51), (14, 50), (16, 262)), (3, none, (14, 55), (14, 54), (16, 263)), (3, some (.array .boolean), (14, 58), (14, 57), (0, 10)), (4, none, (14, 62), (14, 61), (16, 264)), (11, some .int, (14, 66), (14, 65), (16, 265)), (6, none, (14, 70), (14, 69), (16, 266)), (7, none, (14, 74), (14, 73), (16, 267)), (3, some .byte, (14, 78), (14, 77), (16, 268)), (2, some .byte, (14, 82), (14, 81), (16, 269)), (4, some .boolean, (14, 86), (14, 85), (16, 270)), (6, none, (14, 90), (14, 89), (16, 271)), (4, none, (14, 94), (14, 93), (16, 272)), (3, some .int, (14, 98), (14, 97), (16, 273)), (3, some .int, (14, 104), (14, 103), (16, 274)), (8, some .int, (14, 108), (14, 107), (16, 275)), (3, none, (14, 112), (14, 111), (16, 276)), (1, some .boolean, (14, 116), (14, 115), (16, 277)), (2, some .boolean, (14, 120), (14, 119), (16, 278)), (6, some .boolean, (14, 124), (14, 123), (16, 279)), (4, some .boolean, (14, 128), (14, 127), (16, 280)), (3, none, (14, 132), (14, 131), (16, 281)), (6, none, (14, 137), (14, 136), (16, 282)), (3, none, (14, 141), (14, 140), (16, 283)), (6, some .int, (14, 146), (14, 145), (16, 284)), (3, some .int, (14, 150), (14, 149), (16, 285)), (2, none, (14, 154), (14, 153), (16, 286)), (2, none, (14, 158), (14, 157), (16, 287)), (1, none, (14, 166), (14, 165), (16, 288)), (13, some .int, (14, 172), (14, 171), (16, 289)), (3, some .boolean, (14, 176), (14, 175), (16, 290)), (5, some .boolean, (14, 180), (14, 179), (16, 291)), (4, some .boolean, (14, 184), (14, 183), (16, 292)), (8, none, (14, 190), (14, 189), (16, 293)), (7, some .int, (14, 200), (14, 199), (16, 294)), (6, some .boolean, (14, 204), (14, 203), (16, 295)), (3, some .int, (14, 208), (14, 207), (16, 296)), (2, some .int, (14, 212), (14, 211), (16, 297)), (10, none, (14, 216), (14, 215), (16, 298)), (5, some .int, (14, 221), (14, 220), (16, 299)), (4, some .int, (14, 225), (14, 224), (16, 300)), (6, some .int, (14, 232), (14, 231), (16, 301)), (2, some .int, (14, 236), (14, 235), (16, 302)), (13, some .int, (15, 0), (14, 239), (16, 303)), (10, some .int, (15, 4), (15, 3), (16, 304)), (3, some .boolean, (15, 9), (15, 8), (16, 305)), (4, some .int, (15, 13), (15, 12), (16, 306)), (5, some .int, (15, 17), (15, 16), (16, 307)), (3, none, (15, 22), (15, 21), (16, 308)), (1, some .int, (15, 28), (15, 26), (15, 27)), (5, some .int, (15, 32), (15, 30), (15, 31)), (5, some .int, (15, 36), (15, 34), (15, 35)), (1, some .int, (15, 40), (15, 38), (15, 39)), (1, some .int, (15, 44), (15, 42), (15, 43)), (2, some .int, (15, 48), (15, 46), (15, 47)), (2, none, (15, 52), (15, 51), (16, 309)), (5, none, (15, 62), (15, 61), (16, 310)), (3, some .boolean, (15, 67), (15, 66), (16, 311)), (3, some .boolean, (15, 71), (15, 70), (16, 312)), (6, some .boolean, (15, 75), (15, 74), (16, 313)), (4, some .int, (15, 79), (15, 78), (16, 314)), (8, some .boolean, (15, 84), (15, 83), (16, 315)), (5, some .boolean, (15, 89), (15, 88), (16, 316)), (3, some .int, (15, 93), (15, 91), (15, 92)), (1, some .int, (15, 97), (15, 95), (15, 96)), (5, some .int, (15, 101), (15, 100), (16, 317)), (2, some .int, (15, 105), (15, 103), (15, 104)), (6, none, (15, 109), (15, 108), (16, 318)), (9, some .boolean, (15, 113), (15, 112), (16, 319)), (3, some .int, (15, 117), (15, 115), (15, 116))]
/-- private methods: method, slots of its class, the places of three words -/
def mt_v : List (Nat × Nat × (Nat × Nat) × (Nat × Nat) × (Nat × Nat)) := [(11, 20, (0, 28), (2, 95), (2, 96)), (17, 18, (0, 36), (2, 123), (2, 124)), (20, 18, (0, 36), (2, 134), (2, 135)), (21, 18, (0, 36), (2, 138), (2, 139)), (24, 18, (0, 36), (2, 148), (2, 149)), (29, 18, (0, 36), (2, 205), (2, 206)), (30, 18, (0, 36), (2, 209), (2, 210)), (31, 18, (0, 36), (2, 213), (2, 214)), (34, 18, (0, 36), (2, 227), (2, 228)), (35, 18, (0, 36), (2, 231), (2, 232)), (36, 18, (0, 36), (2, 235), (2, 236)), (37, 18, (0, 36), (2, 239), (3, 0)), (38, 18, (0, 36), (3, 3), (3, 4)), (39, 18, (0, 36), (3, 7), (3, 8)), (42, 18, (0, 36), (3, 153), (3, 154)), (43, 18, (0, 36), (3, 157), (3, 158)), (44, 18, (0, 36), (3, 161), (3, 162)), (45, 18, (0, 36), (3, 165), (3, 166)), (48, 18, (0, 36), (4, 29), (4, 30)), (49, 18, (0, 36), (4, 33), (4, 34)), (50, 18, (0, 36), (4, 37), (4, 38)), (51, 18, (0, 36), (4, 41), (4, 42)), (52, 18, (0, 36), (4, 45), (4, 46)), (53, 18, (0, 36), (4, 49), (4, 50)), (54, 18, (0, 36), (4, 53), (4, 54)), (55, 18, (0, 36), (4, 57), (4, 58)), (56, 18, (0, 36), (4, 61), (4, 62)), (59, 18, (0, 36), (4, 192), (4, 193)), (60, 18, (0, 36), (4, 196), (4, 197)), (62, 18, (0, 36), (4, 203), (4, 204)), (64, 18, (0, 36), (4, 211), (4, 212)), (65, 20, (0, 28), (4, 215), (4, 216)), (76, 20, (0, 28), (5, 18), (5, 19)), (78, 3, (0, 105), (5, 26), (5, 27)), (79, 3, (0, 105), (5, 30), (5, 31)), (80, 3, (0, 105), (5, 34), (5, 35)), (82, 3, (0, 105), (5, 42), (5, 43)), (83, 3, (0, 105), (5, 46), (5, 47)), (84, 3, (0, 105), (5, 51), (5, 52)), (86, 3, (0, 105), (5, 59), (5, 60)), (88, 3, (0, 105), (5, 67), (5, 68)), (89, 3, (0, 105), (5, 71), (5, 72)), (90, 3, (0, 105), (5, 75), (5, 76)), (91, 3, (0, 105), (5, 79), (5, 80)), (92, 3, (0, 105), (5, 83), (5, 84)), (94, 3, (0, 105), (5, 90), (5, 91)), (96, 3, (0, 105), (5, 97), (5, 98)), (97, 3, (0, 105), (5, 101), (5, 102)), (98, 3, (0, 105), (5, 105), (5, 106)), (100, 3, (0, 105), (5, 113), (5, 114)), (101, 3, (0, 105), (5, 117), (5, 118)), (104, 3, (0, 105), (5, 129), (5, 130)), (106, 3, (0, 105), (5, 139), (5, 140)), (107, 3, (0, 105), (5, 143), (5, 144)), (108, 3, (0, 105), (5, 147), (5, 148)), (109, 3, (0, 105), (5, 151), (5, 152)), (110, 3, (0, 105), (5, 155), (5, 156)), (112, 3, (0, 105), (5, 162), (5, 163)), (114, 3, (0, 105), (5, 169), (5, 170)), (115, 3, (0, 105), (5, 173), (5, 174)), (116, 3, (0, 105), (5, 177), (5, 178)), (117, 3, (0, 105), (5, 181), (5, 182)), (119, 3, (0, 105), (5, 189), (5, 190)), (140, 20, (0, 28), (6, 34), (6, 35)), (143, 19, (0, 123), (6, 49), (6, 50)), (144, 19, (0, 123), (6, 53), (6, 54)), (146, 19, (0, 123), (6, 60), (6, 61)), (147, 19, (0, 123), (6, 65), (6, 66)), (148, 19, (0, 123), (6, 69), (6, 70)), (150, 19, (0, 123), (6, 77), (6, 78)), (151, 19, (0, 123), (6, 81), (6, 82)), (152, 19, (0, 123), (6, 85), (6, 86)), (153, 19, (0, 123), (6, 89), (6, 90)), (154, 19, (0, 123), (6, 94), (6, 95)), (155, 19, (0, 123), (6, 98), (6, 99)), (156, 19, (0, 123), (6, 102), (6, 103)), (157, 19, (0, 123), (6, 106), (6, 107)), (158, 19, (0, 123), (6, 110), (6, 111)), (159, 19, (0, 123), (6, 114), (6, 115)), (161, 19, (0, 123), (6, 121), (6, 122)), (162, 19, (0, 123), (6, 125), (6, 126)), (165, 19, (0, 123), (6, 135), (6, 136)), (166, 19, (0, 123), (6, 139), (6, 140)), (167, 19, (0, 123), (6, 143), (6, 144)), (168, 19, (0, 123), (6, 147), (6, 148)), (169, 19, (0, 123), (6, 151), (6, 152)), (170, 19, (0, 123), (6, 155), (6, 156)), (171, 19, (0, 123), (6, 159), (6, 160)), (172, 19, (0, 123), (6, 163), (6, 164)), (173, 19, (0, 123), (6, 168), (6, 169)), (177, 20, (0, 28), (6, 185), (6, 186)), (182, 11, (0, 236), (6, 206), (6, 207)), (183, 11, (0, 236), (6, 213), (6, 214)), (184, 11, (0, 236), (6, 217), (6, 218)), (185, 11, (0, 236), (6, 222), (6, 223)), (186, 11, (0, 236), (6, 226), (6, 227)), (187, 11, (0, 236), (6, 234), (6, 235)), (195, 11, (0, 236), (7, 29), (7, 30)), (197, 11, (0, 236), (7, 36), (7, 37)), (200, 11, (0, 236), (7, 47), (7, 48)), (203, 11, (0, 236), (7, 58), (7, 59)), (207, 11, (0, 236), (7, 86), (7, 87)), (209, 11, (0, 236), (7, 100), (7, 101)), (211, 11, (0, 236), (7, 110), (7, 111)), (212, 11, (0, 236), (7, 114), (7, 115)), (213, 11, (0, 236), (7, 118), (7, 119)), (216, 11, (0, 236), (7, 130), (7, 131)), (218, 11, (0, 236), (7, 139), (7, 140)), (219, 11, (0, 236), (7, 152), (7, 153)), (220, 11, (0, 236), (7, 157), (7, 158)), (221, 11, (0, 236), (7, 161), (7, 162)), (222, 11, (0, 236), (7, 167), (7, 168)), (224, 11, (0, 236), (7, 178), (7, 179)), (225, 11, (0, 236), (7, 182), (7, 183)), (227, 11, (0, 236), (7, 191), (7, 192)), (228, 11, (0, 236), (7, 195), (7, 196)), (229, 11, (0, 236), (7, 199), (7, 200)), (230, 11, (0, 236), (7, 203), (7, 204)), (231, 11, (0, 236), (7, 208), (7, 209)), (232, 11, (0, 236), (7, 212), (7, 213)), (233, 11, (0, 236), (7, 216), (7, 217)), (234, 11, (0, 236), (7, 223), (7, 224)), (235, 11, (0, 236), (7, 228), (7, 229)), (236, 11, (0, 236), (7, 233), (7, 234)), (240, 11, (0, 192), (8, 11), (8, 12)), (241, 11, (0, 192), (8, 15), (8, 16)), (242, 11, (0, 236), (8, 21), (8, 22)), (243, 11, (0, 236), (8, 25), (8, 26)), (245, 11, (0, 236), (8, 34), (8, 35)), (246, 11, (0, 236), (8, 38), (8, 39)), (252, 5, (2, 2), (8, 64), (8, 65)), (254, 20, (0, 28), (8, 72), (8, 73)), (260, 15, (1, 37), (8, 97), (8, 98)), (261, 15, (1, 37), (8, 103), (8, 104)), (264, 15, (1, 37), (8, 116), (8, 117)), (265, 15, (1, 37), (8, 120), (8, 121)), (267, 15, (1, 37), (8, 129), (8, 130)), (268, 15, (1, 37), (8, 133), (8, 134)), (273, 15, (1, 37), (8, 157), (8, 158)), (277, 15, (1, 37), (8, 176), (8, 177)), (282, 59, (9, 16), (10, 47), (10, 48)), (283, 59, (9, 16), (10, 51), (10, 52)), (284, 59, (9, 16), (10, 55), (10, 56)), (285, 59, (9, 16), (10, 59), (10, 60)), (286, 6, (9, 23), (10, 63), (10, 64)), (288, 6, (9, 23), (10, 70), (10, 71)), (293, 59, (9, 16), (10, 89), (10, 90)), (294, 59, (9, 16), (10, 93), (10, 94)), (295, 112, (8, 184), (10, 97), (10, 98)), (296, 59, (9, 16), (10, 101), (10, 102)), (297, 59, (9, 16), (10, 105), (10, 106)), (298, 59, (9, 16), (10, 109), (10, 110)), (299, 59, (9, 16), (10, 113), (10, 114)), (300, 59, (9, 16), (10, 117), (10, 118)), (301, 59, (9, 16), (10, 121), (10, 122)), (302, 59, (9, 16), (10, 125), (10, 126)), (303, 59, (9, 16), (10, 129), (10, 130)), (304, 59, (9, 16), (10, 133), (10, 134)), (305, 59, (9, 16), (10, 137), (10, 138)), (306, 59, (9, 16), (10, 141), (10, 142)), (307, 59, (9, 16), (10, 145), (10, 146)), (308, 59, (9, 16), (10, 149), (10, 150)), (309, 59, (9, 16), (10, 153), (10, 154)), (310, 59, (9, 16), (10, 157), (10, 158)), (311, 59, (9, 16), (10, 161), (10, 162)), (312, 59, (9, 16), (10, 165), (10, 166)), (313, 59, (9, 16), (10, 169), (10, 170)), (314, 59, (9, 16), (10, 173), (10, 174)), (315, 59, (9, 16), (10, 177), (10, 178)), (316, 59, (9, 16), (10, 181), (10, 182)), (317, 59, (9, 16), (10, 185), (10, 186)), (318, 59, (9, 16), (10, 189), (10, 190)), (319, 59, (9, 16), (10, 193), (10, 194)), (320, 59, (9, 16), (10, 197), (10, 198)), (321, 59, (9, 16), (10, 201), (10, 202)), (322, 59, (9, 16), (10, 205), (10, 206)), (325, 59, (9, 16), (10, 215), (10, 216)), (326, 59, (9, 16), (10, 219), (10, 220)), (327, 59, (9, 16), (10, 223), (10, 224)), (328, 59, (9, 16), (10, 227), (10, 228)), (329, 59, (9, 16), (10, 231), (10, 232)), (330, 59, (9, 16), (10, 235), (10, 236)), (331, 59, (9, 16), (10, 239), (11, 0)), (332, 59, (9, 16), (11, 3), (11, 4)), (333, 59, (9, 16), (11, 7), (11, 8)), (334, 59, (9, 16), (11, 12), (11, 13)), (335, 59, (9, 16), (11, 16), (11, 17)), (336, 59, (9, 16), (11, 20), (11, 21)), (337, 59, (9, 16), (11, 24), (11, 25)), (338, 59, (9, 16), (11, 28), (11, 29)), (339, 59, (9, 16), (11, 32), (11, 33)), (340, 59, (9, 16), (11, 36), (11, 37)), (341, 59, (9, 16), (11, 40), (11, 41)), (342, 59, (9, 16), (11, 44), (11, 45)), (343, 59, (9, 16), (11, 48), (11, 49)), (344, 59, (9, 16), (11, 52), (11, 53)), (345, 59, (9, 16), (11, 56), (11, 57)), (346, 59, (9, 16), (11, 60), (11, 61)), (347, 59, (9, 16), (11, 64), (11, 65)), (348, 59, (9, 16), (11, 68), (11, 69)), (349, 59, (9, 16), (11, 72), (11, 73)), (350, 59, (9, 16), (11, 76), (11, 77)), (351, 59, (9, 16), (11, 80), (11, 81)), (352, 59, (9, 16), (11, 84), (11, 85)), (353, 59, (9, 16), (11, 88), (11, 89)), (354, 59, (9, 16), (11, 92), (11, 93)), (355, 59, (9, 16), (11, 96), (11, 97)), (356, 59, (9, 16), (11, 100), (11, 101)), (357, 59, (9, 16), (11, 104), (11, 105)), (358, 59, (9, 16), (11, 108), (11, 109)), (359, 59, (9, 16), (11, 112), (11, 113)), (360, 59, (9, 16), (11, 116), (11, 117)), (361, 59, (9, 16), (11, 120), (11, 121)), (362, 59, (9, 16), (11, 124), (11, 125)), (363, 112, (8, 184), (11, 128), (11, 129)), (365, 112, (8, 184), (12, 234), (12, 235)), (369, 112, (8, 184), (13, 9), (13, 10)), (370, 112, (8, 184), (13, 15), (13, 16)), (371, 112, (8, 184), (13, 19), (13, 20)), (376, 59, (9, 16), (13, 39), (13, 40)), (379, 59, (9, 16), (13, 51), (13, 52)), (381, 59, (9, 16), (13, 61), (13, 62)), (382, 59, (9, 16), (13, 65), (13, 66)), (386, 112, (8, 184), (13, 81), (13, 82)), (387, 59, (9, 16), (13, 85), (13, 86)), (388, 112, (8, 184), (13, 90), (13, 91)), (391, 59, (9, 16), (13, 102), (13, 103)), (392, 59, (9, 16), (13, 106), (13, 107)), (396, 112, (8, 184), (13, 122), (13, 123)), (397, 112, (8, 184), (13, 126), (13, 127)), (398, 112, (8, 184), (13, 130), (13, 131)), (399, 112, (8, 184), (13, 135), (13, 136)), (401, 112, (8, 184), (13, 143), (13, 144)), (402, 112, (8, 184), (13, 147), (13, 148)), (403, 112, (8, 184), (13, 152), (13, 153)), (404, 112, (8, 184), (13, 156), (13, 157)), (405, 112, (8, 184), (13, 160), (13, 161)), (406, 112, (8, 184), (13, 164), (13, 165)), (407, 112, (8, 184), (13, 168), (13, 169)), (408, 112, (8, 184), (13, 172), (13, 173)), (409, 112, (8, 184), (13, 176), (13, 177)), (410, 112, (8, 184), (13, 180), (13, 181)), (411, 112, (8, 184), (13, 184), (13, 185)), (412, 112, (8, 184), (13, 188), (13, 189)), (413, 112, (8, 184), (13, 192), (13, 193)), (414, 112, (8, 184), (13, 196), (13, 197)), (415, 112, (8, 184), (13, 200), (13, 201)), (416, 112, (8, 184), (13, 204), (13, 205)), (417, 112, (8, 184), (13, 208), (13, 209)), (418, 112, (8, 184), (13, 212), (13, 213)), (419, 59, (9, 16), (13, 216), (13, 217)), (420, 112, (8, 184), (13, 220), (13, 221)), (421, 112, (8, 184), (13, 225), (13, 226)), (422, 112, (8, 184), (13, 229), (13, 230)), (423, 112, (8, 184), (13, 233), (13, 234)), (424, 112, (8, 184), (13, 237), (13, 238)), (429, 112, (8, 184), (14, 18), (14, 19)), (430, 112, (8, 184), (14, 22), (14, 23)), (431, 112, (8, 184), (14, 26), (14, 27)), (432, 112, (8, 184), (14, 30), (14, 31)), (433, 112, (8, 184), (14, 34), (14, 35)), (435, 112, (8, 184), (14, 45), (14, 46)), (436, 112, (8, 184), (14, 49), (14, 50)), (437, 112, (8, 184), (14, 53), (14, 54)), (439, 112, (8, 184), (14, 60), (14, 61)), (440, 112, (8, 184), (14, 64), (14, 65)), (441, 112, (8, 184), (14, 68), (14, 69)), (442, 112, (8, 184), (14, 72), (14, 73)), (443, 112, (8, 184), (14, 76), (14, 77)), (444, 112, (8, 184), (14, 80), (14, 81)), (445, 112, (8, 184), (14, 84), (14, 85)), (446, 112, (8, 184), (14, 88), (14, 89)), (447, 112, (8, 184), (14, 92), (14, 93)), (448, 112, (8, 184), (14, 96), (14, 97)), (449, 112, (8, 184), (14, 102), (14, 103)), (450, 112, (8, 184), (14, 106), (14, 107)), (451, 112, (8, 184), (14, 110), (14, 111)), (452, 112, (8, 184), (14, 114), (14, 115)), (453, 112, (8, 184), (14, 118), (14, 119)), (454, 112, (8, 184), (14, 122), (14, 123)), (455, 112, (8, 184), (14, 126), (14, 127)), (456, 112, (8, 184), (14, 130), (14, 131)), (457, 112, (8, 184), (14, 135), (14, 136)), (458, 112, (8, 184), (14, 139), (14, 140)), (459, 112, (8, 184), (14, 144), (14, 145)), (460, 112, (8, 184), (14, 148), (14, 149)), (461, 112, (8, 184), (14, 152), (14, 153)), (462, 112, (8, 184), (14, 156), (14, 157)), (463, 112, (8, 184), (14, 164), (14, 165)), (464, 112, (8, 184), (14, 170), (14, 171)), (465, 112, (8, 184), (14, 174), (14, 175)), (466, 112, (8, 184), (14, 178), (14, 179)), (467, 112, (8, 184), (14, 182), (14, 183)), (468, 112, (8, 184), (14, 188), (14, 189)), (469, 112, (8, 184), (14, 198), (14, 199)), (470, 112, (8, 184), (14, 202), (14, 203)), (471, 112, (8, 184), (14, 206), (14, 207)), (472, 112, (8, 184), (14, 210), (14, 211)), (473, 112, (8, 184), (14, 214), (14, 215)), (474, 112, (8, 184), (14, 219), (14, 220)), (475, 112, (8, 184), (14, 223), (14, 224)), (476, 112, (8, 184), (14, 230), (14, 231)), (477, 112, (8, 184), (14, 234), (14, 235)), (478, 112, (8, 184), (14, 238), (14, 239)), (479, 112, (8, 184), (15, 2), (15, 3)), (480, 112, (8, 184), (15, 7), (15, 8)), (481, 112, (8, 184), (15, 11), (15, 12)), (482, 112, (8, 184), (15, 15), (15, 16)), (483, 112, (8, 184), (15, 20), (15, 21)), (490, 112, (8, 184), (15, 50), (15, 51)), (491, 112, (8, 184), (15, 60), (15, 61)), (492, 112, (8, 184), (15, 65), (15, 66)), (493, 112, (8, 184), (15, 69), (15, 70)), (494, 112, (8, 184), (15, 73), (15, 74)), (495, 112, (8, 184), (15, 77), (15, 78)), (496, 112, (8, 184), (15, 82), (15, 83)), (497, 112, (8, 184), (15, 87), (15, 88)), (500, 112, (8, 184), (15, 99), (15, 100)), (502, 112, (8, 184), (15, 107), (15, 108)), (503, 112, (8, 184), (15, 111), (15, 112))]
def mt_h : List (Nat × List (Nat × Nat × Nat × Nat)) := [(367, [(135, 144, 147, 273)]), (397, [(132, 183, 186, 273)]), (440, [(63, 72, 75, 273)]), (489, [(49, 53, 56, 273)])]
/-- classes: name, slots, fields (whose, name, type, final, place of the word), the places of being instantiable and initialized -/
def mt_k : List (Nat × Nat × List (Nat × String × String × Bool × (Nat × Nat)) × (Nat × Nat) × (Nat × Nat)) := [(1, 20, [(1, "tape", "[B", true, (2, 49)), (1, "tapeSize", "I", false, (2, 51)), (1, "reader", "LRefactorHouse$Reader;", true, (2, 53)), (1, "judge", "LRefactorHouse$Judge;", true, (2, 55)), (1, "machine", "LRefactorHouse$Machine;", true, (2, 57)), (1, "edits", "LRefactorHouse$Edits;", true, (2, 59)), (1, "change", "LRefactorHouse$Change;", true, (2, 61)), (1, "finder", "LRefactorHouse$Finder;", true, (2, 63)), (1, "history", "LRefactorHouse$History;", true, (2, 65)), (1, "now", "LRefactorHouse$Prog;", false, (2, 67)), (1, "spare", "LRefactorHouse$Prog;", false, (2, 69)), (1, "place", "I", false, (2, 71)), (1, "sound", "Z", false, (2, 73)), (1, "inputs", "[I", true, (2, 75)), (1, "inputCount", "I", false, (2, 77)), (1, "hasRun", "Z", false, (2, 79)), (1, "lastRun", "[I", true, (2, 81)), (1, "lastNumbers", "[I", true, (2, 83)), (1, "twinInputs", "[I", true, (2, 85)), (1, "twinNumbers", "[I", true, (2, 87))], (0, 28), (0, 1)), (2, 18, [(2, "buckets", "[I", true, (0, 65)), (2, "waiting", "[LRefactorHouse$Exp;", true, (0, 67)), (2, "operators", "[I", true, (0, 69)), (2, "waits", "I", false, (0, 71)), (2, "p", "LRefactorHouse$Prog;", false, (0, 73)), (2, "begin", "I", false, (0, 75)), (2, "at", "I", false, (0, 77)), (2, "tail", "I", false, (0, 79)), (2, "tailPlace", "I", false, (0, 81)), (2, "limit", "I", false, (0, 83)), (2, "code", "I", false, (0, 85)), (2, "inRecipe", "Z", false, (0, 87)), (2, "mayType", "Z", false, (0, 89)), (2, "member", "LRefactorHouse$Decl;", false, (0, 91)), (2, "stat", "LRefactorHouse$Stat;", false, (0, 93)), (2, "fault", "I", false, (0, 95)), (2, "faultPlace", "I", false, (0, 97)), (2, "pattern", "LRefactorHouse$Exp;", false, (0, 99))], (0, 36), (0, 2)), (3, 3, [(3, "choice", "[LRefactorHouse$Decl;", true, (0, 115)), (3, "numbers", "[I", true, (0, 117)), (3, "p", "LRefactorHouse$Prog;", false, (0, 119))], (0, 105), (0, 3)), (4, 19, [(4, "ran", "[I", true, (0, 152)), (4, "numbers", "[I", true, (0, 154)), (4, "p", "LRefactorHouse$Prog;", false, (0, 156)), (4, "inputs", "[I", false, (0, 158)), (4, "inputCount", "I", false, (0, 160)), (4, "stack", "[I", true, (0, 162)), (4, "top", "I", false, (0, 164)), (4, "heap", "[I", true, (0, 166)), (4, "heapUsed", "I", false, (0, 168)), (4, "objectAt", "[I", true, (0, 170)), (4, "objectClass", "[I", true, (0, 172)), (4, "statics", "[I", true, (0, 174)), (4, "frames", "[[I", true, (0, 176)), (4, "depth", "I", false, (0, 178)), (4, "rows", "[[I", true, (0, 180)), (4, "rowSize", "[I", true, (0, 182)), (4, "target", "[[I", true, (0, 184)), (4, "fail", "I", false, (0, 186)), (4, "going", "Z", false, (0, 188))], (0, 123), (0, 4)), (5, 11, [(5, "place", "[I", true, (0, 212)), (5, "gone", "[I", true, (0, 214)), (5, "length", "[I", true, (0, 216)), (5, "start", "[I", true, (0, 218)), (5, "count", "I", false, (0, 220)), (5, "bytes", "[B", true, (0, 222)), (5, "copied", "[I", true, (0, 224)), (5, "used", "I", false, (0, 226)), (5, "came", "[I", true, (0, 228)), (5, "origin", "[I", true, (0, 230)), (5, "p", "LRefactorHouse$Prog;", false, (0, 232))], (0, 192), (0, 5)), (6, 11, [(6, "edits", "LRefactorHouse$Edits;", true, (1, 13)), (6, "p", "LRefactorHouse$Prog;", false, (1, 15)), (6, "name", "[B", false, (1, 17)), (6, "nameSize", "I", false, (1, 19)), (6, "where", "I", false, (1, 21)), (6, "told", "LRefactorHouse$Decl;", false, (1, 23)), (6, "exp", "LRefactorHouse$Exp;", false, (1, 25)), (6, "from", "LRefactorHouse$Stat;", false, (1, 27)), (6, "to", "LRefactorHouse$Stat;", false, (1, 29)), (6, "out", "LRefactorHouse$Decl;", false, (1, 31)), (6, "digits", "[I", true, (1, 33))], (0, 236), (0, 6)), (7, 15, [(7, "recipe", "LRefactorHouse$Prog;", true, (1, 210)), (7, "p", "LRefactorHouse$Prog;", false, (1, 212)), (7, "pattern", "LRefactorHouse$Exp;", false, (1, 214)), (7, "arrow", "I", false, (1, 216)), (7, "learned", "Z", false, (1, 218)), (7, "faultPlace", "I", false, (1, 220)), (7, "found", "[I", true, (1, 222)), (7, "foundCount", "I", false, (1, 224)), (7, "bound", "[LRefactorHouse$Exp;", true, (1, 226)), (7, "latest", "[I", true, (1, 228)), (7, "earlier", "[I", true, (1, 230)), (7, "runs", "[I", true, (1, 232)), (7, "pairFirst", "[I", true, (1, 234)), (7, "pairSecond", "[I", true, (1, 236)), (7, "pairCount", "I", false, (1, 238))], (1, 37), (0, 7)), (8, 19, [(8, "text", "[[B", true, (1, 149)), (8, "size", "[I", true, (1, 151)), (8, "at", "[I", true, (1, 153)), (8, "length", "[I", true, (1, 155)), (8, "code", "[I", true, (1, 157)), (8, "sym", "[I", true, (1, 159)), (8, "means", "[LRefactorHouse$Decl;", true, (1, 161)), (8, "tokens", "I", false, (1, 163)), (8, "exps", "[LRefactorHouse$Exp;", true, (1, 165)), (8, "expCount", "I", false, (1, 167)), (8, "stats", "[LRefactorHouse$Stat;", true, (1, 169)), (8, "statCount", "I", false, (1, 171)), (8, "decls", "[LRefactorHouse$Decl;", true, (1, 173)), (8, "declCount", "I", false, (1, 175)), (8, "classes", "[LRefactorHouse$Decl;", true, (1, 177)), (8, "classCount", "I", false, (1, 179)), (8, "judged", "Z", false, (1, 181)), (8, "error", "I", false, (1, 183)), (8, "errorPlace", "I", false, (1, 185))], (1, 43), (0, 8)), (9, 5, [(9, "texts", "[[B", true, (2, 16)), (9, "sizes", "[[I", true, (2, 18)), (9, "oldest", "I", false, (2, 20)), (9, "done", "I", false, (2, 22)), (9, "undone", "I", false, (2, 24))], (2, 2), (0, 9)), (12, 19, [(12, "index", "I", false, (3, 109)), (12, "kind", "I", false, (3, 111)), (12, "number", "I", false, (3, 113)), (12, "tok", "I", false, (3, 115)), (12, "typeTok", "I", false, (3, 117)), (12, "type", "I", false, (3, 119)), (12, "first", "I", false, (3, 121)), (12, "last", "I", false, (3, 123)), (12, "isStatic", "Z", false, (3, 125)), (12, "owner", "LRefactorHouse$Decl;", false, (3, 127)), (12, "above", "LRefactorHouse$Decl;", false, (3, 129)), (12, "sub", "LRefactorHouse$Decl;", false, (3, 131)), (12, "next", "LRefactorHouse$Decl;", false, (3, 133)), (12, "exp", "LRefactorHouse$Exp;", false, (3, 135)), (12, "stat", "LRefactorHouse$Stat;", false, (3, 137)), (12, "params", "I", false, (3, 139)), (12, "slot", "I", false, (3, 141)), (12, "slots", "I", false, (3, 143)), (12, "family", "LRefactorHouse$Decl;", false, (3, 145))], (3, 11), (0, 24)), (13, 14, [(13, "index", "I", false, (3, 235)), (13, "kind", "I", false, (3, 237)), (13, "first", "I", false, (3, 239)), (13, "last", "I", false, (4, 1)), (13, "inBlock", "Z", false, (4, 3)), (13, "canEnd", "Z", false, (4, 5)), (13, "up", "LRefactorHouse$Stat;", false, (4, 7)), (13, "sub", "LRefactorHouse$Stat;", false, (4, 9)), (13, "otherwise", "LRefactorHouse$Stat;", false, (4, 11)), (13, "next", "LRefactorHouse$Stat;", false, (4, 13)), (13, "exp", "LRefactorHouse$Exp;", false, (4, 15)), (13, "value", "LRefactorHouse$Exp;", false, (4, 17)), (13, "local", "LRefactorHouse$Decl;", false, (4, 19)), (13, "member", "LRefactorHouse$Decl;", false, (4, 21))], (3, 169), (0, 25)), (14, 18, [(14, "index", "I", false, (4, 150)), (14, "lo", "I", false, (4, 152)), (14, "kind", "I", false, (4, 154)), (14, "first", "I", false, (4, 156)), (14, "last", "I", false, (4, 158)), (14, "tok", "I", false, (4, 160)), (14, "value", "I", false, (4, 162)), (14, "type", "I", false, (4, 164)), (14, "args", "I", false, (4, 166)), (14, "left", "LRefactorHouse$Exp;", false, (4, 168)), (14, "right", "LRefactorHouse$Exp;", false, (4, 170)), (14, "arg", "LRefactorHouse$Exp;", false, (4, 172)), (14, "next", "LRefactorHouse$Exp;", false, (4, 174)), (14, "guard", "LRefactorHouse$Exp;", false, (4, 176)), (14, "means", "LRefactorHouse$Decl;", false, (4, 178)), (14, "stat", "LRefactorHouse$Stat;", false, (4, 180)), (14, "member", "LRefactorHouse$Decl;", false, (4, 182)), (14, "isTarget", "Z", false, (4, 184))], (4, 64), (0, 26)), (15, 112, [(15, "tape", "[B", true, (12, 4)), (15, "taped", "I", false, (12, 6)), (15, "stop", "Ljava/lang/IllegalStateException;", true, (12, 8)), (15, "fault", "I", false, (12, 10)), (15, "faultPlace", "I", false, (12, 12)), (15, "failing", "Ljava/lang/IllegalStateException;", true, (12, 14)), (15, "run", "LRefactorHouseModel$Program;", false, (12, 16)), (15, "fail", "I", false, (12, 18)), (15, "failPlace", "I", false, (12, 20)), (15, "steps", "I", false, (12, 22)), (15, "calls", "I", false, (12, 24)), (15, "objects", "I", false, (12, 26)), (15, "printed", "I", false, (12, 28)), (15, "numbers", "[I", true, (12, 30)), (15, "inputs", "[I", true, (12, 32)), (15, "inputCount", "I", false, (12, 34)), (15, "reading", "[I", false, (12, 36)), (15, "readCount", "I", false, (12, 38)), (15, "readMost", "I", false, (12, 40)), (15, "statics", "[I", true, (12, 42)), (15, "objectClasses", "[I", true, (12, 44)), (15, "objectFields", "[I", true, (12, 46)), (15, "fieldCells", "[I", false, (12, 48)), (15, "fieldsUsed", "I", false, (12, 50)), (15, "frame", "[I", false, (12, 52)), (15, "frameBase", "I", false, (12, 54)), (15, "frameTop", "I", false, (12, 56)), (15, "frameMethod", "I", false, (12, 58)), (15, "self", "I", false, (12, 60)), (15, "at", "I", false, (12, 62)), (15, "acts", "I", false, (12, 64)), (15, "actSorts", "[I", false, (12, 66)), (15, "actFirsts", "[I", false, (12, 68)), (15, "actSeconds", "[I", false, (12, 70)), (15, "methodActs", "[I", true, (12, 72)), (15, "makingActs", "[I", true, (12, 74)), (15, "aboves", "[I", true, (12, 76)), (15, "leasts", "[I", true, (12, 78)), (15, "links", "[I", true, (12, 80)), (15, "pile", "[I", false, (12, 82)), (15, "height", "I", false, (12, 84)), (15, "pc", "I", false, (12, 86)), (15, "underWay", "I", false, (12, 88)), (15, "oldActs", "[I", false, (12, 90)), (15, "oldBases", "[I", false, (12, 92)), (15, "oldTops", "[I", false, (12, 94)), (15, "oldMethods", "[I", false, (12, 96)), (15, "oldSelves", "[I", false, (12, 98)), (15, "oldPlaces", "[I", false, (12, 100)), (15, "runNumber", "I", false, (12, 102)), (15, "chosenRuns", "[I", true, (12, 104)), (15, "chosenMethods", "[I", true, (12, 106)), (15, "now", "LRefactorHouseModel$Program;", false, (12, 108)), (15, "next", "LRefactorHouseModel$Program;", false, (12, 110)), (15, "before", "LRefactorHouseModel$Program;", false, (12, 112)), (15, "pattern", "LRefactorHouseModel$Program;", true, (12, 114)), (15, "place", "I", false, (12, 116)), (15, "kept", "[[[B", true, (12, 118)), (15, "keptSizes", "[I", true, (12, 120)), (15, "step0", "I", false, (12, 122)), (15, "lastStep", "I", false, (12, 124)), (15, "ranOne", "Z", false, (12, 126)), (15, "edits", "I", false, (12, 128)), (15, "editPlaces", "[I", false, (12, 130)), (15, "editGoes", "[I", false, (12, 132)), (15, "editFirsts", "[I", false, (12, 134)), (15, "editSizes", "[I", false, (12, 136)), (15, "editBlanks", "[Z", false, (12, 138)), (15, "pieces", "I", false, (12, 140)), (15, "pieceSorts", "[I", false, (12, 142)), (15, "pieceFroms", "[I", false, (12, 144)), (15, "pieceSizes", "[I", false, (12, 146)), (15, "sound", "Z", false, (12, 148)), (15, "letters", "[B", true, (12, 150)), (15, "lettered", "I", false, (12, 152)), (15, "named", "[B", true, (12, 154)), (15, "namedSize", "I", false, (12, 156)), (15, "starts", "[I", false, (12, 158)), (15, "stops", "[I", false, (12, 160)), (15, "olds", "[I", true, (12, 162)), (15, "newSizes", "[I", true, (12, 164)), (15, "listed", "[I", true, (12, 166)), (15, "fronts", "[Z", true, (12, 168)), (15, "leastPlace", "I", false, (12, 170)), (15, "foundCount", "I", false, (12, 172)), (15, "foundNodes", "[I", true, (12, 174)), (15, "hasRecipe", "Z", false, (12, 176)), (15, "firstExp", "I", false, (12, 178)), (15, "secondFirst", "I", false, (12, 180)), (15, "secondLast", "I", false, (12, 182)), (15, "bound", "[I", true, (12, 184)), (15, "pairs", "I", false, (12, 186)), (15, "pairFirsts", "[I", true, (12, 188)), (15, "pairSeconds", "[I", true, (12, 190)), (15, "nameIds", "[I", true, (12, 192)), (15, "runStarts", "[I", true, (12, 194)), (15, "partners", "[I", true, (12, 196)), (15, "partnersOf", "[I", true, (12, 198)), (15, "stamps", "[I", true, (12, 200)), (15, "stampsOf", "[I", true, (12, 202)), (15, "stamp", "I", false, (12, 204)), (15, "isStart", "[Z", true, (12, 206)), (15, "hasRun", "Z", false, (12, 208)), (15, "ranFail", "I", false, (12, 210)), (15, "ranSteps", "I", false, (12, 212)), (15, "ranObjects", "I", false, (12, 214)), (15, "ranRead", "I", false, (12, 216)), (15, "ranPlace", "I", false, (12, 218)), (15, "ranPrinted", "I", false, (12, 220)), (15, "ranNumbers", "[I", true, (12, 222)), (15, "drawn", "[I", true, (12, 224)), (15, "firstNumbers", "[I", true, (12, 226))], (8, 184), (0, 10)), (18, 6, [], (8, 190), (0, 14)), (16, 59, [(16, "texts", "[[B", true, (9, 164)), (16, "sizes", "[I", true, (9, 166)), (16, "tokens", "LRefactorHouseModel$Tokens;", true, (9, 168)), (16, "firstTokens", "[I", true, (9, 170)), (16, "nodes", "I", false, (9, 172)), (16, "ops", "[I", true, (9, 174)), (16, "xs", "[I", true, (9, 176)), (16, "ys", "[I", true, (9, 178)), (16, "zs", "[I", true, (9, 180)), (16, "names", "[I", true, (9, 182)), (16, "firsts", "[I", true, (9, 184)), (16, "lasts", "[I", true, (9, 186)), (16, "nexts", "[I", true, (9, 188)), (16, "parents", "[I", true, (9, 190)), (16, "types", "[I", true, (9, 192)), (16, "homes", "[I", true, (9, 194)), (16, "told", "I", false, (9, 196)), (16, "sorts", "[I", true, (9, 198)), (16, "nameTokens", "[I", true, (9, 200)), (16, "typeTokens", "[I", true, (9, 202)), (16, "owners", "[I", true, (9, 204)), (16, "statics", "[Z", true, (9, 206)), (16, "bodies", "[I", true, (9, 208)), (16, "begins", "[I", true, (9, 210)), (16, "ends", "[I", true, (9, 212)), (16, "toldTypes", "[I", true, (9, 214)), (16, "paramCounts", "[I", true, (9, 216)), (16, "classes", "I", false, (9, 218)), (16, "classTold", "[I", true, (9, 220)), (16, "supers", "[I", true, (9, 222)), (16, "classNumbers", "[I", true, (9, 224)), (16, "means", "[I", true, (9, 226)), (16, "families", "[I", true, (9, 228)), (16, "error", "I", false, (9, 230)), (16, "errorPlace", "I", false, (9, 232)), (16, "t", "I", false, (9, 234)), (16, "fileFirst", "I", false, (9, 236)), (16, "deep", "I", false, (9, 238)), (16, "home", "I", false, (10, 0)), (16, "otherClasses", "I", false, (10, 2)), (16, "recipe", "Z", false, (10, 4)), (16, "most", "I", false, (10, 6)), (16, "second", "Z", false, (10, 8)), (16, "dollars", "I", false, (10, 10)), (16, "dollarTypes", "[I", true, (10, 12)), (16, "lateFault", "I", false, (10, 14)), (16, "latePlace", "I", false, (10, 16)), (16, "known", "[I", true, (10, 18)), (16, "knows", "I", false, (10, 20)), (16, "here", "I", false, (10, 22)), (16, "isStatic", "Z", false, (10, 24)), (16, "method", "I", false, (10, 26)), (16, "mightBe", "[I", true, (10, 28)), (16, "kept", "[I", true, (10, 30)), (16, "fieldSlots", "[I", true, (10, 32)), (16, "fieldCounts", "[I", true, (10, 34)), (16, "byteTokens", "[I", true, (10, 36)), (16, "mapped", "Z", false, (10, 38)), (16, "this$0", "LRefactorHouseModel;", true, (10, 40))], (9, 16), (0, 15)), (17, 6, [(17, "sorts", "[I", true, (9, 46)), (17, "codes", "[I", true, (9, 48)), (17, "froms", "[I", true, (9, 50)), (17, "sizes", "[I", true, (9, 52)), (17, "files", "[I", true, (9, 54)), (17, "count", "I", false, (9, 56))], (9, 23), (0, 16))]
/-- types of arrays: what their places are -/
def mt_L : List FieldType := [.int, .byte, .boolean, (.object "RefactorHouse$Exp"), (.object "RefactorHouse$Decl"), (.array .int), (.array .byte), (.object "RefactorHouse$Stat"), (.array (.array .byte))]
/-- fields by class and constant pool number: class, place, whether by the nest, its host, place of the word -/
def mt_F : List (List (Nat × Nat × Nat × Bool × String × (Nat × Nat))) := [[], [(9, 0, 0, false, "", (2, 29)), (16, 0, 2, false, "", (2, 31)), (23, 0, 3, false, "", (2, 32)), (30, 0, 4, false, "", (2, 33)), (37, 0, 5, false, "", (2, 34)), (46, 0, 6, false, "", (2, 35)), (53, 0, 7, false, "", (2, 36)), (60, 0, 8, false, "", (2, 37)), (69, 0, 9, false, "", (2, 38)), (73, 0, 10, false, "", (2, 39)), (76, 0, 11, false, "", (2, 40)), (80, 0, 13, false, "", (2, 42)), (84, 0, 16, false, "", (2, 45)), (87, 0, 17, false, "", (2, 46)), (90, 0, 18, false, "", (2, 47)), (93, 0, 19, false, "", (2, 48)), (96, 0, 1, false, "", (2, 30)), (107, 7, 0, false, "", (1, 57)), (117, 7, 1, false, "", (1, 64)), (128, 1, 16, false, "", (0, 61)), (137, 0, 15, false, "", (2, 44)), (144, 0, 12, false, "", (2, 41)), (151, 7, 3, false, "", (1, 76)), (154, 7, 4, false, "", (1, 82)), (164, 7, 18, false, "", (1, 147)), (167, 7, 17, false, "", (1, 143)), (170, 7, 16, false, "", (1, 140)), (179, 7, 2, false, "", (1, 73)), (182, 9, 3, false, "", (3, 38)), (187, 9, 1, false, "", (3, 26)), (194, 11, 7, false, "", (4, 108)), (220, 0, 14, false, "", (2, 43)), (230, 3, 0, false, "", (0, 132)), (233, 3, 1, false, "", (0, 134)), (236, 8, 3, false, "", (2, 13)), (259, 5, 4, false, "", (1, 6)), (262, 4, 4, false, "", (0, 205)), (265, 4, 0, false, "", (0, 198)), (267, 4, 1, false, "", (0, 200)), (270, 4, 2, false, "", (0, 202)), (285, 8, 4, false, "", (2, 15)), (295, 6, 5, false, "", (1, 196)), (304, 11, 3, false, "", (4, 89)), (307, 11, 4, false, "", (4, 94)), (310, 6, 4, false, "", (1, 194)), (313, 6, 7, false, "", (1, 199)), (323, 6, 14, false, "", (1, 209)), (326, 6, 12, false, "", (1, 205)), (329, 6, 13, false, "", (1, 207))], [(9, 1, 0, false, "", (0, 43)), (17, 1, 1, false, "", (0, 44)), (21, 1, 2, false, "", (0, 45)), (24, 1, 4, false, "", (0, 47)), (39, 1, 15, false, "", (0, 58)), (47, 1, 11, false, "", (0, 54)), (51, 1, 12, false, "", (0, 55)), (54, 7, 1, false, "", (1, 61)), (57, 1, 16, false, "", (0, 60)), (80, 1, 17, false, "", (0, 64)), (84, 1, 3, false, "", (0, 46)), (87, 1, 13, false, "", (0, 56)), (91, 1, 14, false, "", (0, 57)), (95, 1, 9, false, "", (0, 52)), (98, 7, 7, false, "", (1, 94)), (101, 1, 5, false, "", (0, 48)), (104, 1, 6, false, "", (0, 49)), (111, 7, 0, false, "", (1, 58)), (121, 1, 7, false, "", (0, 50)), (131, 7, 2, false, "", (1, 70)), (133, 7, 3, false, "", (1, 75)), (136, 7, 4, false, "", (1, 81)), (139, 1, 10, false, "", (0, 53)), (141, 7, 6, false, "", (1, 90)), (145, 7, 5, false, "", (1, 86)), (152, 1, 8, false, "", (0, 51)), (184, 7, 13, false, "", (1, 126)), (187, 7, 12, false, "", (1, 121)), (200, 7, 15, false, "", (1, 137)), (207, 9, 2, false, "", (3, 31)), (210, 7, 14, false, "", (1, 132)), (213, 9, 4, false, "", (3, 42)), (220, 9, 11, false, "", (3, 77)), (223, 9, 12, false, "", (3, 81)), (226, 9, 6, false, "", (3, 51)), (229, 9, 7, false, "", (3, 55)), (236, 9, 9, false, "", (3, 67)), (239, 9, 8, false, "", (3, 62)), (250, 9, 14, false, "", (3, 91)), (255, 10, 3, false, "", (3, 190)), (258, 9, 13, false, "", (3, 84)), (260, 9, 15, false, "", (3, 94)), (263, 7, 11, false, "", (1, 116)), (266, 7, 10, false, "", (1, 111)), (274, 10, 2, false, "", (3, 185)), (275, 10, 13, false, "", (3, 233)), (279, 10, 1, false, "", (3, 179)), (282, 10, 10, false, "", (3, 221)), (287, 11, 17, false, "", (4, 149)), (290, 10, 11, false, "", (3, 225)), (293, 10, 12, false, "", (3, 229)), (303, 10, 4, false, "", (3, 195)), (306, 10, 7, false, "", (3, 203)), (308, 10, 9, false, "", (3, 215)), (310, 10, 8, false, "", (3, 209)), (326, 11, 3, false, "", (4, 88)), (331, 11, 4, false, "", (4, 93)), (332, 11, 10, false, "", (4, 123)), (335, 11, 6, false, "", (4, 103)), (337, 7, 8, false, "", (1, 101)), (340, 11, 1, false, "", (4, 76)), (343, 11, 13, false, "", (4, 134)), (346, 7, 9, false, "", (1, 106)), (352, 11, 5, false, "", (4, 98)), (355, 11, 9, false, "", (4, 120)), (358, 11, 15, false, "", (4, 142)), (359, 11, 16, false, "", (4, 144)), (373, 11, 12, false, "", (4, 131)), (375, 11, 11, false, "", (4, 127)), (378, 11, 8, false, "", (4, 115))], [(11, 2, 0, false, "", (0, 112)), (17, 2, 1, false, "", (0, 113)), (21, 2, 2, false, "", (0, 114)), (25, 7, 16, false, "", (1, 138)), (31, 7, 17, false, "", (1, 141)), (35, 7, 18, false, "", (1, 146)), (47, 7, 9, false, "", (1, 103)), (50, 7, 8, false, "", (1, 97)), (54, 11, 16, false, "", (4, 143)), (64, 11, 7, false, "", (4, 106)), (76, 7, 2, false, "", (1, 67)), (83, 7, 15, false, "", (1, 135)), (86, 7, 5, false, "", (1, 85)), (89, 7, 14, false, "", (1, 130)), (92, 9, 3, false, "", (3, 33)), (95, 9, 10, false, "", (3, 72)), (98, 7, 6, false, "", (1, 89)), (105, 9, 4, false, "", (3, 41)), (112, 7, 13, false, "", (1, 125)), (115, 7, 12, false, "", (1, 120)), (118, 9, 1, false, "", (3, 24)), (121, 9, 2, false, "", (3, 29)), (124, 9, 5, false, "", (3, 46)), (143, 9, 9, false, "", (3, 66)), (146, 9, 11, false, "", (3, 76)), (153, 9, 12, false, "", (3, 80)), (156, 9, 8, false, "", (3, 61)), (159, 11, 2, false, "", (4, 80)), (160, 11, 5, false, "", (4, 96)), (174, 11, 14, false, "", (4, 137)), (176, 11, 9, false, "", (4, 117)), (180, 11, 6, false, "", (4, 102)), (190, 11, 3, false, "", (4, 85)), (193, 11, 10, false, "", (4, 122)), (216, 9, 0, false, "", (3, 18)), (223, 9, 14, false, "", (3, 90)), (227, 10, 4, false, "", (3, 194)), (232, 10, 6, false, "", (3, 200)), (235, 10, 3, false, "", (3, 189)), (248, 11, 11, false, "", (4, 126)), (251, 11, 12, false, "", (4, 130)), (260, 9, 15, false, "", (3, 97)), (263, 11, 8, false, "", (4, 114)), (275, 7, 11, false, "", (1, 117)), (278, 7, 10, false, "", (1, 112)), (286, 10, 5, false, "", (3, 197)), (288, 10, 1, false, "", (3, 181)), (289, 10, 10, false, "", (3, 223)), (292, 10, 12, false, "", (3, 231)), (299, 10, 11, false, "", (3, 227)), (309, 10, 2, false, "", (3, 186)), (314, 10, 13, false, "", (3, 234)), (315, 10, 7, false, "", (3, 206)), (317, 10, 8, false, "", (3, 210)), (320, 10, 9, false, "", (3, 217)), (322, 9, 13, false, "", (3, 85)), (329, 9, 17, false, "", (3, 103)), (340, 9, 18, false, "", (3, 108)), (343, 9, 16, false, "", (3, 100))], [(11, 3, 0, false, "", (0, 131)), (15, 3, 1, false, "", (0, 133)), (18, 3, 5, false, "", (0, 138)), (22, 3, 7, false, "", (0, 140)), (25, 3, 9, false, "", (0, 142)), (28, 3, 10, false, "", (0, 143)), (31, 3, 11, false, "", (0, 144)), (36, 3, 12, false, "", (0, 145)), (39, 3, 14, false, "", (0, 147)), (42, 3, 15, false, "", (0, 148)), (45, 3, 16, false, "", (0, 149)), (48, 3, 2, false, "", (0, 135)), (52, 3, 3, false, "", (0, 136)), (61, 3, 4, false, "", (0, 137)), (71, 3, 6, false, "", (0, 139)), (74, 3, 8, false, "", (0, 141)), (77, 3, 13, false, "", (0, 146)), (80, 3, 17, false, "", (0, 150)), (83, 3, 18, false, "", (0, 151)), (95, 7, 8, false, "", (1, 98)), (108, 7, 10, false, "", (1, 108)), (116, 7, 13, false, "", (1, 124)), (119, 7, 12, false, "", (1, 119)), (123, 9, 1, false, "", (3, 22)), (128, 9, 8, false, "", (3, 59)), (131, 9, 13, false, "", (3, 83)), (139, 7, 15, false, "", (1, 134)), (142, 7, 14, false, "", (1, 129)), (153, 9, 10, false, "", (3, 71)), (157, 9, 0, false, "", (3, 17)), (160, 9, 2, false, "", (3, 28)), (169, 9, 11, false, "", (3, 75)), (172, 9, 18, false, "", (3, 105)), (175, 9, 12, false, "", (3, 79)), (178, 7, 2, false, "", (1, 71)), (181, 9, 3, false, "", (3, 36)), (184, 10, 2, false, "", (3, 183)), (193, 11, 13, false, "", (4, 133)), (202, 11, 0, false, "", (4, 71)), (203, 11, 2, false, "", (4, 81)), (204, 11, 6, false, "", (4, 101)), (210, 11, 17, false, "", (4, 147)), (213, 11, 14, false, "", (4, 138)), (237, 9, 16, false, "", (3, 99)), (240, 11, 8, false, "", (4, 113)), (243, 11, 9, false, "", (4, 118)), (260, 9, 14, false, "", (3, 89)), (264, 10, 0, false, "", (3, 175)), (265, 9, 17, false, "", (3, 102)), (271, 11, 1, false, "", (4, 75)), (281, 9, 5, false, "", (3, 47)), (284, 9, 15, false, "", (3, 96)), (287, 7, 3, false, "", (1, 78)), (294, 10, 1, false, "", (3, 180)), (295, 10, 10, false, "", (3, 222)), (296, 10, 11, false, "", (3, 226)), (298, 10, 7, false, "", (3, 205)), (300, 10, 12, false, "", (3, 230)), (306, 11, 7, false, "", (4, 110)), (307, 10, 8, false, "", (3, 208)), (323, 10, 9, false, "", (3, 216)), (325, 10, 6, false, "", (3, 201))], [(9, 4, 0, false, "", (0, 197)), (15, 4, 1, false, "", (0, 199)), (18, 4, 2, false, "", (0, 201)), (21, 4, 3, false, "", (0, 203)), (24, 4, 5, false, "", (0, 206)), (28, 4, 6, false, "", (0, 207)), (31, 4, 8, false, "", (0, 209)), (34, 4, 9, false, "", (0, 210)), (37, 4, 10, false, "", (0, 211)), (41, 4, 4, false, "", (0, 204)), (45, 4, 7, false, "", (0, 208)), (60, 7, 2, false, "", (1, 68)), (103, 7, 3, false, "", (1, 77)), (112, 9, 3, false, "", (3, 37)), (117, 7, 1, false, "", (1, 65)), (128, 7, 0, false, "", (1, 59))], [(9, 5, 10, false, "", (1, 12)), (15, 5, 0, false, "", (1, 1)), (19, 5, 1, false, "", (1, 2)), (23, 5, 2, false, "", (1, 3)), (27, 5, 3, false, "", (1, 4)), (31, 5, 4, false, "", (1, 5)), (34, 5, 5, false, "", (1, 7)), (38, 5, 6, false, "", (1, 8)), (42, 5, 7, false, "", (1, 9)), (46, 5, 8, false, "", (1, 10)), (49, 5, 9, false, "", (1, 11)), (85, 9, 9, false, "", (3, 65)), (90, 9, 10, false, "", (3, 70)), (124, 9, 1, false, "", (3, 23)), (135, 9, 8, false, "", (3, 60)), (143, 10, 1, false, "", (3, 177)), (167, 7, 11, false, "", (1, 114)), (170, 7, 10, false, "", (1, 109)), (174, 10, 2, false, "", (3, 182)), (177, 10, 4, false, "", (3, 192)), (180, 10, 6, false, "", (3, 199)), (183, 10, 3, false, "", (3, 187)), (186, 10, 9, false, "", (3, 213)), (189, 10, 10, false, "", (3, 220)), (190, 11, 14, false, "", (4, 136)), (195, 7, 2, false, "", (1, 72)), (198, 7, 9, false, "", (1, 105)), (201, 7, 8, false, "", (1, 100)), (205, 11, 2, false, "", (4, 82)), (210, 11, 11, false, "", (4, 125)), (217, 11, 3, false, "", (4, 86)), (218, 11, 12, false, "", (4, 129)), (230, 7, 7, false, "", (1, 95)), (233, 7, 4, false, "", (1, 83)), (236, 7, 6, false, "", (1, 91)), (239, 9, 14, false, "", (3, 88)), (246, 11, 5, false, "", (4, 97)), (257, 10, 13, false, "", (3, 232)), (271, 9, 3, false, "", (3, 39)), (276, 11, 4, false, "", (4, 91)), (284, 11, 15, false, "", (4, 141)), (285, 11, 7, false, "", (4, 109)), (288, 11, 17, false, "", (4, 148)), (314, 9, 7, false, "", (3, 56)), (318, 9, 0, false, "", (3, 19)), (321, 7, 13, false, "", (1, 127)), (324, 7, 12, false, "", (1, 122)), (330, 9, 15, false, "", (3, 93)), (364, 9, 5, false, "", (3, 48)), (377, 10, 7, false, "", (3, 204)), (386, 11, 9, false, "", (4, 119)), (389, 9, 6, false, "", (3, 53)), (415, 9, 18, false, "", (3, 107)), (431, 9, 4, false, "", (3, 43)), (445, 9, 13, false, "", (3, 86)), (452, 10, 8, false, "", (3, 211)), (474, 1, 16, false, "", (0, 62)), (482, 7, 17, false, "", (1, 144)), (485, 7, 18, false, "", (1, 148))], [(14, 6, 0, false, "", (1, 189)), (20, 6, 5, false, "", (1, 195)), (24, 6, 6, false, "", (1, 197)), (30, 6, 8, false, "", (1, 200)), (34, 6, 9, false, "", (1, 201)), (37, 6, 10, false, "", (1, 202)), (40, 6, 11, false, "", (1, 203)), (43, 6, 12, false, "", (1, 204)), (46, 6, 13, false, "", (1, 206)), (49, 6, 4, false, "", (1, 193)), (53, 6, 7, false, "", (1, 198)), (56, 6, 14, false, "", (1, 208)), (59, 6, 1, false, "", (1, 190)), (62, 7, 0, false, "", (1, 55)), (72, 7, 1, false, "", (1, 62)), (81, 1, 16, false, "", (0, 59)), (82, 1, 17, false, "", (0, 63)), (86, 6, 2, false, "", (1, 191)), (91, 6, 3, false, "", (1, 192)), (94, 7, 7, false, "", (1, 93)), (97, 7, 4, false, "", (1, 80)), (100, 7, 2, false, "", (1, 69)), (113, 7, 9, false, "", (1, 104)), (116, 7, 8, false, "", (1, 99)), (119, 11, 2, false, "", (4, 79)), (122, 11, 4, false, "", (4, 90)), (125, 11, 5, false, "", (4, 95)), (128, 11, 7, false, "", (4, 107)), (131, 7, 15, false, "", (1, 136)), (134, 7, 14, false, "", (1, 131)), (138, 9, 3, false, "", (3, 34)), (145, 9, 5, false, "", (3, 45)), (152, 11, 3, false, "", (4, 84)), (162, 11, 15, false, "", (4, 140)), (166, 10, 1, false, "", (3, 178)), (169, 10, 10, false, "", (3, 219)), (172, 11, 17, false, "", (4, 146)), (175, 11, 0, false, "", (4, 70)), (178, 11, 1, false, "", (4, 74)), (188, 11, 6, false, "", (4, 100)), (191, 11, 8, false, "", (4, 112)), (194, 11, 9, false, "", (4, 116)), (209, 7, 5, false, "", (1, 87)), (242, 7, 11, false, "", (1, 115)), (245, 7, 10, false, "", (1, 110)), (253, 10, 2, false, "", (3, 184)), (258, 10, 4, false, "", (3, 193)), (261, 10, 3, false, "", (3, 188)), (262, 10, 9, false, "", (3, 214))], [(11, 7, 14, false, "", (1, 128)), (17, 7, 18, false, "", (1, 145)), (23, 7, 0, false, "", (1, 54)), (26, 7, 1, false, "", (1, 60)), (30, 7, 2, false, "", (1, 66)), (33, 7, 3, false, "", (1, 74)), (36, 7, 4, false, "", (1, 79)), (39, 7, 5, false, "", (1, 84)), (42, 7, 6, false, "", (1, 88)), (47, 7, 8, false, "", (1, 96)), (53, 7, 10, false, "", (1, 107)), (57, 7, 12, false, "", (1, 118)), (60, 7, 7, false, "", (1, 92)), (63, 7, 9, false, "", (1, 102)), (66, 7, 11, false, "", (1, 113)), (69, 7, 13, false, "", (1, 123)), (72, 7, 15, false, "", (1, 133)), (75, 7, 16, false, "", (1, 139)), (79, 7, 17, false, "", (1, 142)), (88, 9, 3, false, "", (3, 35)), (102, 9, 1, false, "", (3, 25)), (105, 9, 2, false, "", (3, 30)), (112, 9, 18, false, "", (3, 106)), (116, 9, 0, false, "", (3, 20)), (119, 9, 15, false, "", (3, 95)), (122, 9, 6, false, "", (3, 52)), (125, 9, 7, false, "", (3, 57)), (132, 11, 3, false, "", (4, 87)), (133, 11, 4, false, "", (4, 92)), (134, 11, 2, false, "", (4, 83)), (135, 9, 10, false, "", (3, 73)), (138, 9, 5, false, "", (3, 49)), (141, 9, 8, false, "", (3, 63)), (144, 9, 9, false, "", (3, 68)), (155, 11, 1, false, "", (4, 77)), (158, 11, 0, false, "", (4, 72)), (159, 11, 6, false, "", (4, 104)), (162, 11, 14, false, "", (4, 139))], [(11, 8, 0, false, "", (2, 9)), (19, 8, 1, false, "", (2, 10)), (22, 8, 3, false, "", (2, 12)), (26, 8, 4, false, "", (2, 14)), (33, 8, 2, false, "", (2, 11)), (36, 7, 0, false, "", (1, 56)), (41, 7, 1, false, "", (1, 63))], [], [], [(9, 9, 0, false, "", (3, 16)), (15, 9, 1, false, "", (3, 21)), (18, 9, 3, false, "", (3, 32)), (21, 9, 2, false, "", (3, 27)), (24, 9, 4, false, "", (3, 40)), (27, 9, 5, false, "", (3, 44)), (30, 9, 6, false, "", (3, 50)), (33, 9, 7, false, "", (3, 54)), (36, 9, 8, false, "", (3, 58)), (40, 9, 9, false, "", (3, 64)), (44, 9, 10, false, "", (3, 69)), (47, 9, 11, false, "", (3, 74)), (50, 9, 12, false, "", (3, 78)), (53, 9, 13, false, "", (3, 82)), (57, 9, 14, false, "", (3, 87)), (61, 9, 15, false, "", (3, 92)), (64, 9, 16, false, "", (3, 98)), (67, 9, 17, false, "", (3, 101)), (70, 9, 18, false, "", (3, 104))], [(7, 10, 0, false, "", (3, 174)), (13, 10, 6, false, "", (3, 198)), (17, 10, 1, false, "", (3, 176)), (20, 10, 4, false, "", (3, 191)), (24, 10, 5, false, "", (3, 196)), (27, 10, 7, false, "", (3, 202)), (30, 10, 8, false, "", (3, 207)), (33, 10, 9, false, "", (3, 212)), (36, 10, 10, false, "", (3, 218)), (40, 10, 11, false, "", (3, 224)), (43, 10, 12, false, "", (3, 228))], [(9, 11, 0, false, "", (4, 69)), (15, 11, 1, false, "", (4, 73)), (18, 11, 2, false, "", (4, 78)), (21, 11, 6, false, "", (4, 99)), (24, 11, 7, false, "", (4, 105)), (27, 11, 8, false, "", (4, 111)), (30, 11, 10, false, "", (4, 121)), (34, 11, 11, false, "", (4, 124)), (37, 11, 12, false, "", (4, 128)), (40, 11, 13, false, "", (4, 132)), (43, 11, 14, false, "", (4, 135)), (47, 11, 17, false, "", (4, 145))], [(15, 12, 3, false, "", (11, 135)), (19, 12, 4, false, "", (11, 136)), (22, 12, 2, false, "", (11, 134)), (26, 15, 1, true, "RefactorHouseModel", (9, 32)), (32, 15, 0, true, "RefactorHouseModel", (9, 30)), (57, 12, 31, false, "", (11, 163)), (60, 12, 30, false, "", (11, 162)), (67, 12, 32, false, "", (11, 164)), (70, 12, 33, false, "", (11, 165)), (73, 12, 37, false, "", (11, 169)), (80, 12, 6, false, "", (11, 138)), (84, 14, 13, true, "RefactorHouseModel", (9, 86)), (87, 14, 5, true, "RefactorHouseModel", (9, 70)), (90, 14, 6, true, "RefactorHouseModel", (9, 72)), (93, 14, 8, true, "RefactorHouseModel", (9, 76)), (96, 12, 38, false, "", (11, 170)), (103, 14, 2, true, "RefactorHouseModel", (9, 64)), (107, 15, 3, true, "RefactorHouseModel", (9, 38)), (110, 14, 9, true, "RefactorHouseModel", (9, 78)), (117, 14, 31, true, "RefactorHouseModel", (9, 122)), (120, 14, 17, true, "RefactorHouseModel", (9, 94)), (121, 14, 21, true, "RefactorHouseModel", (9, 102)), (125, 14, 30, true, "RefactorHouseModel", (9, 120)), (128, 14, 7, true, "RefactorHouseModel", (9, 74)), (131, 14, 12, true, "RefactorHouseModel", (9, 84)), (137, 15, 4, true, "RefactorHouseModel", (9, 42)), (140, 14, 10, true, "RefactorHouseModel", (9, 80)), (143, 15, 2, true, "RefactorHouseModel", (9, 36)), (153, 12, 36, false, "", (11, 168)), (156, 14, 29, true, "RefactorHouseModel", (9, 118)), (159, 14, 28, true, "RefactorHouseModel", (9, 116)), (162, 14, 16, true, "RefactorHouseModel", (9, 91)), (165, 14, 22, true, "RefactorHouseModel", (9, 104)), (168, 14, 18, true, "RefactorHouseModel", (9, 96)), (175, 14, 4, true, "RefactorHouseModel", (9, 67)), (181, 12, 34, false, "", (11, 166)), (184, 14, 27, true, "RefactorHouseModel", (9, 113)), (187, 12, 35, false, "", (11, 167)), (193, 12, 7, false, "", (11, 139)), (196, 12, 29, false, "", (11, 161)), (199, 12, 8, false, "", (11, 140)), (202, 12, 5, false, "", (11, 137)), (205, 12, 9, false, "", (11, 141)), (211, 12, 49, false, "", (11, 181)), (214, 12, 10, false, "", (11, 142)), (217, 12, 11, false, "", (11, 143)), (220, 12, 12, false, "", (11, 144)), (223, 12, 16, false, "", (11, 148)), (226, 12, 18, false, "", (11, 150)), (229, 12, 17, false, "", (11, 149)), (232, 12, 23, false, "", (11, 155)), (235, 12, 25, false, "", (11, 157)), (238, 12, 26, false, "", (11, 158)), (241, 12, 27, false, "", (11, 159)), (244, 12, 28, false, "", (11, 160)), (247, 12, 40, false, "", (11, 172)), (250, 12, 42, false, "", (11, 174)), (253, 12, 19, false, "", (11, 151)), (259, 12, 41, false, "", (11, 173)), (279, 14, 26, true, "RefactorHouseModel", (9, 112)), (282, 14, 25, true, "RefactorHouseModel", (9, 110)), (285, 12, 39, false, "", (11, 171)), (288, 12, 43, false, "", (11, 175)), (291, 12, 44, false, "", (11, 176)), (294, 12, 45, false, "", (11, 177)), (297, 12, 46, false, "", (11, 178)), (300, 12, 47, false, "", (11, 179)), (303, 12, 48, false, "", (11, 180)), (315, 12, 24, false, "", (11, 156)), (318, 12, 20, false, "", (11, 152)), (321, 12, 21, false, "", (11, 153)), (324, 14, 20, true, "RefactorHouseModel", (9, 100)), (327, 14, 55, true, "RefactorHouseModel", (9, 160)), (330, 14, 54, true, "RefactorHouseModel", (9, 158)), (333, 12, 50, false, "", (11, 182)), (336, 12, 51, false, "", (11, 183)), (343, 12, 22, false, "", (11, 154)), (380, 12, 13, false, "", (11, 145)), (388, 12, 0, false, "", (11, 132)), (397, 12, 14, false, "", (11, 146)), (403, 12, 52, false, "", (11, 185)), (406, 12, 53, false, "", (11, 186)), (409, 12, 54, false, "", (11, 187)), (412, 12, 55, false, "", (11, 188)), (415, 12, 56, false, "", (11, 189)), (420, 12, 57, false, "", (11, 190)), (423, 12, 58, false, "", (11, 191)), (426, 12, 63, false, "", (11, 195)), (429, 12, 64, false, "", (11, 196)), (432, 12, 65, false, "", (11, 197)), (435, 12, 66, false, "", (11, 198)), (438, 12, 67, false, "", (11, 199)), (441, 12, 69, false, "", (11, 201)), (444, 12, 70, false, "", (11, 202)), (447, 12, 71, false, "", (11, 203)), (450, 12, 73, false, "", (11, 205)), (453, 12, 75, false, "", (11, 207)), (456, 12, 77, false, "", (11, 209)), (459, 12, 78, false, "", (11, 210)), (462, 12, 79, false, "", (11, 211)), (465, 12, 80, false, "", (11, 212)), (468, 12, 81, false, "", (11, 213)), (471, 12, 82, false, "", (11, 214)), (474, 12, 85, false, "", (11, 217)), (477, 12, 90, false, "", (11, 222)), (480, 12, 92, false, "", (11, 224)), (483, 12, 93, false, "", (11, 225)), (486, 12, 94, false, "", (11, 226)), (489, 12, 95, false, "", (11, 227)), (492, 12, 96, false, "", (11, 228)), (495, 12, 97, false, "", (11, 229)), (498, 12, 98, false, "", (11, 230)), (501, 12, 99, false, "", (11, 231)), (504, 12, 101, false, "", (11, 233)), (507, 12, 107, false, "", (11, 239)), (510, 12, 109, false, "", (12, 1)), (513, 12, 110, false, "", (12, 2)), (516, 12, 111, false, "", (12, 3)), (525, 14, 1, true, "RefactorHouseModel", (9, 62)), (526, 14, 0, true, "RefactorHouseModel", (9, 60)), (530, 12, 62, false, "", (11, 194)), (533, 12, 68, false, "", (11, 200)), (536, 12, 74, false, "", (11, 206)), (539, 12, 72, false, "", (11, 204)), (553, 12, 76, false, "", (11, 208)), (568, 14, 11, true, "RefactorHouseModel", (9, 82)), (631, 14, 3, true, "RefactorHouseModel", (9, 66)), (634, 15, 5, true, "RefactorHouseModel", (9, 45)), (640, 14, 34, true, "RefactorHouseModel", (9, 127)), (656, 14, 23, true, "RefactorHouseModel", (9, 106)), (659, 14, 24, true, "RefactorHouseModel", (9, 108)), (662, 12, 83, false, "", (11, 215)), (729, 14, 15, true, "RefactorHouseModel", (9, 90)), (748, 14, 14, true, "RefactorHouseModel", (9, 88)), (825, 14, 19, true, "RefactorHouseModel", (9, 98)), (842, 14, 36, true, "RefactorHouseModel", (9, 131)), (845, 14, 35, true, "RefactorHouseModel", (9, 129)), (848, 14, 41, true, "RefactorHouseModel", (9, 139)), (851, 14, 37, true, "RefactorHouseModel", (9, 133)), (854, 14, 38, true, "RefactorHouseModel", (9, 135)), (857, 14, 42, true, "RefactorHouseModel", (9, 141)), (860, 14, 43, true, "RefactorHouseModel", (9, 143)), (863, 14, 45, true, "RefactorHouseModel", (9, 147)), (873, 12, 87, false, "", (11, 219)), (879, 12, 88, false, "", (11, 220)), (882, 12, 89, false, "", (11, 221)), (891, 14, 46, true, "RefactorHouseModel", (9, 149)), (907, 14, 44, true, "RefactorHouseModel", (9, 145)), (922, 12, 84, false, "", (11, 216)), (931, 12, 91, false, "", (11, 223)), (937, 12, 100, false, "", (11, 232)), (940, 12, 1, false, "", (11, 133)), (946, 12, 86, false, "", (11, 218)), (955, 12, 59, false, "", (11, 192)), (958, 12, 60, false, "", (11, 193)), (964, 12, 102, false, "", (11, 234)), (967, 14, 33, true, "RefactorHouseModel", (9, 125)), (973, 12, 15, false, "", (11, 147)), (984, 12, 103, false, "", (11, 235)), (987, 12, 104, false, "", (11, 236)), (990, 12, 105, false, "", (11, 237)), (993, 12, 106, false, "", (11, 238)), (996, 12, 108, false, "", (12, 0))], [(3, 14, 58, false, "", (9, 163)), (17, 14, 0, false, "", (9, 59)), (20, 14, 1, false, "", (9, 61)), (27, 14, 2, false, "", (9, 63)), (31, 14, 3, false, "", (9, 65)), (34, 14, 5, false, "", (9, 69)), (37, 14, 6, false, "", (9, 71)), (40, 14, 7, false, "", (9, 73)), (43, 14, 8, false, "", (9, 75)), (46, 14, 9, false, "", (9, 77)), (49, 14, 10, false, "", (9, 79)), (52, 14, 11, false, "", (9, 81)), (55, 14, 12, false, "", (9, 83)), (58, 14, 13, false, "", (9, 85)), (61, 14, 14, false, "", (9, 87)), (64, 14, 15, false, "", (9, 89)), (67, 14, 17, false, "", (9, 93)), (70, 14, 18, false, "", (9, 95)), (73, 14, 19, false, "", (9, 97)), (76, 14, 20, false, "", (9, 99)), (79, 14, 21, false, "", (9, 101)), (83, 14, 22, false, "", (9, 103)), (86, 14, 23, false, "", (9, 105)), (89, 14, 24, false, "", (9, 107)), (92, 14, 25, false, "", (9, 109)), (95, 14, 26, false, "", (9, 111)), (98, 14, 28, false, "", (9, 115)), (101, 14, 29, false, "", (9, 117)), (104, 14, 30, false, "", (9, 119)), (107, 14, 31, false, "", (9, 121)), (110, 14, 32, false, "", (9, 123)), (113, 14, 44, false, "", (9, 144)), (116, 14, 47, false, "", (9, 150)), (119, 14, 52, false, "", (9, 155)), (122, 14, 53, false, "", (9, 156)), (125, 14, 54, false, "", (9, 157)), (128, 14, 55, false, "", (9, 159)), (131, 14, 56, false, "", (9, 161)), (134, 15, 4, true, "RefactorHouseModel", (9, 41)), (137, 15, 2, true, "RefactorHouseModel", (9, 35)), (140, 15, 0, true, "RefactorHouseModel", (9, 29)), (141, 14, 35, false, "", (9, 128)), (157, 14, 36, false, "", (9, 130)), (160, 14, 41, false, "", (9, 138)), (166, 15, 1, true, "RefactorHouseModel", (9, 33)), (189, 14, 37, false, "", (9, 132)), (192, 14, 4, false, "", (9, 68)), (195, 14, 38, false, "", (9, 134)), (201, 14, 16, false, "", (9, 92)), (204, 15, 5, true, "RefactorHouseModel", (9, 44)), (207, 14, 39, false, "", (9, 136)), (210, 14, 40, false, "", (9, 137)), (285, 14, 45, false, "", (9, 146)), (288, 14, 46, false, "", (9, 148)), (291, 14, 43, false, "", (9, 142)), (294, 14, 42, false, "", (9, 140)), (300, 12, 52, true, "RefactorHouseModel", (11, 184)), (308, 15, 3, true, "RefactorHouseModel", (9, 39)), (313, 14, 27, false, "", (9, 114)), (320, 14, 33, false, "", (9, 124)), (323, 14, 34, false, "", (9, 126)), (373, 14, 48, false, "", (9, 151)), (376, 14, 49, false, "", (9, 152)), (379, 14, 50, false, "", (9, 153)), (382, 14, 51, false, "", (9, 154)), (441, 14, 57, false, "", (9, 162))], [(9, 15, 0, false, "", (9, 28)), (15, 15, 1, false, "", (9, 31)), (18, 15, 2, false, "", (9, 34)), (21, 15, 3, false, "", (9, 37)), (24, 15, 4, false, "", (9, 40)), (45, 15, 5, false, "", (9, 43))]]
def mt_N : List (List (Nat × Nat × (Nat × Nat))) := [[(7, 0, (0, 27)), (10, 12, (8, 183))], [(13, 1, (0, 35)), (20, 2, (0, 104)), (27, 3, (0, 122)), (34, 4, (0, 191)), (41, 5, (0, 235)), (50, 6, (1, 36)), (57, 8, (2, 1)), (64, 7, (2, 27))], [(15, 11, (0, 41)), (190, 9, (3, 10)), (256, 10, (3, 168))], [], [], [], [], [(9, 7, (1, 42))], [], [], [], [], [], [], [], [(40, 14, (9, 15)), (273, 13, (8, 189))], [(24, 15, (9, 22))]]
def mt_A : List (List (Nat × Nat × (Nat × Nat) × (Nat × Nat))) := [[], [], [(15, 3, (0, 41), (0, 42))], [(9, 4, (0, 110), (0, 111))], [], [], [], [(28, 3, (1, 188), (0, 42))], [(9, 4, (1, 48), (0, 111)), (45, 3, (1, 51), (0, 42)), (51, 7, (1, 52), (1, 53))], [(9, 6, (2, 7), (1, 50))]]
def mt_C : List (List (Nat × Nat × Nat × Nat × String × (Nat × Nat))) := [[(9, 4, 1, 0, "", (0, 29)), (12, 4, 279, 0, "", (8, 185)), (13, 2, 10, 5, "", (2, 90)), (17, 2, 364, 5, "", (12, 229)), (18, 2, 12, 1, "", (2, 98)), (22, 2, 366, 1, "", (12, 237)), (23, 2, 13, 1, "", (2, 102)), (26, 2, 367, 1, "", (13, 1)), (27, 2, 69, 0, "", (4, 230)), (31, 2, 372, 0, "", (13, 22)), (32, 2, 70, 1, "", (4, 234)), (35, 2, 373, 1, "", (13, 26)), (36, 2, 71, 2, "", (4, 238)), (40, 2, 374, 2, "", (13, 30)), (41, 2, 72, 2, "", (5, 2)), (44, 2, 375, 2, "", (13, 34)), (45, 2, 75, 0, "", (5, 13)), (48, 2, 377, 0, "", (13, 42)), (49, 2, 121, 2, "", (5, 195)), (52, 2, 378, 2, "", (13, 46)), (53, 2, 123, 2, "", (5, 204)), (56, 2, 380, 2, "", (13, 56)), (57, 2, 125, 1, "", (5, 212)), (60, 2, 383, 1, "", (13, 68)), (61, 2, 127, 2, "", (5, 220)), (64, 2, 384, 2, "", (13, 72)), (65, 2, 129, 1, "", (5, 228)), (68, 2, 385, 1, "", (13, 76)), (69, 2, 133, 2, "", (6, 5)), (72, 2, 389, 2, "", (13, 93)), (73, 2, 135, 1, "", (6, 13)), (76, 2, 390, 1, "", (13, 97)), (77, 2, 137, 1, "", (6, 21)), (80, 2, 393, 1, "", (13, 109)), (81, 2, 138, 0, "", (6, 25)), (84, 2, 394, 0, "", (13, 113)), (85, 2, 139, 1, "", (6, 29)), (88, 2, 395, 1, "", (13, 117)), (89, 2, 174, 1, "", (6, 171)), (92, 2, 425, 1, "", (14, 0)), (93, 2, 175, 1, "", (6, 175)), (96, 2, 426, 1, "", (14, 4)), (97, 2, 176, 2, "", (6, 179)), (100, 2, 427, 2, "", (14, 8)), (101, 2, 178, 3, "", (6, 188)), (105, 2, 428, 3, "", (14, 13)), (106, 2, 247, 0, "", (8, 42)), (109, 2, 484, 0, "", (15, 25)), (110, 2, 248, 2, "", (8, 46)), (113, 2, 485, 2, "", (15, 29)), (114, 2, 250, 0, "", (8, 54)), (117, 2, 486, 0, "", (15, 33)), (118, 2, 253, 0, "", (8, 67)), (121, 2, 487, 0, "", (15, 37)), (122, 2, 256, 0, "", (8, 79)), (125, 2, 488, 0, "", (15, 41)), (126, 2, 257, 0, "", (8, 83)), (129, 2, 489, 0, "", (15, 45)), (130, 2, 269, 2, "", (8, 136)), (133, 2, 498, 2, "", (15, 90)), (134, 2, 271, 0, "", (8, 144)), (137, 2, 499, 0, "", (15, 94)), (138, 2, 274, 1, "", (8, 164)), (141, 2, 501, 1, "", (15, 102)), (142, 2, 278, 2, "", (8, 179)), (145, 2, 504, 2, "", (15, 114))], [(3, 9, 0, 0, "", (0, 32)), (15, 5, 2, 0, "RefactorHouse", (0, 37)), (22, 5, 3, 0, "RefactorHouse", (0, 106)), (29, 5, 4, 0, "RefactorHouse", (0, 124)), (36, 5, 5, 0, "RefactorHouse", (0, 193)), (43, 4, 6, 1, "", (0, 237)), (52, 5, 7, 0, "RefactorHouse", (1, 38)), (59, 5, 9, 0, "RefactorHouse", (2, 3)), (66, 4, 8, 3, "", (2, 28)), (99, 2, 11, 1, "", (2, 94)), (103, 2, 14, 1, "", (2, 106)), (111, 7, 0, 5, "", (2, 113)), (120, 2, 15, 1, "", (2, 114)), (124, 2, 16, 3, "", (2, 118)), (131, 2, 65, 0, "", (4, 214)), (134, 2, 67, 0, "", (4, 222)), (141, 2, 68, 1, "", (4, 226)), (147, 2, 66, 0, "", (4, 218)), (148, 2, 73, 1, "", (5, 6)), (157, 0, 74, 1, "", (5, 10)), (160, 2, 76, 0, "", (5, 17)), (172, 2, 77, 1, "", (5, 21)), (175, 2, 122, 1, "", (5, 199)), (190, 2, 124, 2, "", (5, 208)), (199, 2, 126, 1, "", (5, 216)), (202, 2, 128, 2, "", (5, 224)), (206, 2, 130, 1, "", (5, 232)), (209, 2, 131, 1, "", (5, 237)), (213, 2, 134, 2, "", (6, 9)), (217, 2, 136, 1, "", (6, 17)), (223, 2, 140, 0, "", (6, 33)), (226, 2, 142, 3, "", (6, 42)), (239, 2, 141, 2, "", (6, 37)), (244, 2, 177, 0, "", (6, 184)), (247, 2, 179, 3, "", (6, 192)), (251, 2, 181, 3, "", (6, 201)), (255, 2, 238, 3, "", (8, 2)), (271, 2, 249, 2, "", (8, 50)), (275, 2, 239, 1, "", (8, 58)), (278, 2, 251, 2, "", (8, 59)), (282, 2, 254, 1, "", (8, 71)), (288, 2, 255, 1, "", (8, 75)), (291, 2, 258, 4, "", (8, 87)), (296, 2, 262, 0, "", (8, 107)), (300, 2, 270, 1, "", (8, 140)), (316, 2, 272, 1, "", (8, 148)), (319, 2, 275, 2, "", (8, 168))], [(3, 9, 0, 0, "", (0, 40)), (28, 2, 18, 0, "", (2, 126)), (33, 0, 19, 2, "", (2, 130)), (43, 2, 17, 1, "", (2, 122)), (60, 2, 20, 2, "", (2, 133)), (65, 2, 34, 0, "", (2, 226)), (69, 2, 35, 1, "", (2, 230)), (73, 2, 36, 1, "", (2, 234)), (76, 2, 52, 1, "", (4, 44)), (107, 2, 21, 1, "", (2, 137)), (115, 0, 22, 2, "", (2, 141)), (124, 0, 23, 3, "", (2, 144)), (128, 2, 24, 3, "", (2, 147)), (148, 2, 31, 1, "", (2, 212)), (155, 1, 25, 1, "RefactorHouse", (2, 151)), (159, 1, 26, 1, "RefactorHouse", (2, 154)), (162, 1, 27, 3, "RefactorHouse", (2, 157)), (165, 1, 28, 1, "RefactorHouse", (2, 201)), (168, 2, 29, 2, "", (2, 204)), (171, 2, 30, 1, "", (2, 208)), (174, 2, 32, 1, "", (2, 216)), (177, 2, 33, 3, "", (2, 220)), (181, 2, 37, 1, "", (2, 238)), (192, 5, 40, 0, "RefactorHouse", (3, 12)), (193, 2, 41, 3, "", (3, 148)), (197, 2, 38, 1, "", (3, 2)), (203, 2, 39, 2, "", (3, 6)), (216, 2, 42, 2, "", (3, 152)), (232, 2, 43, 0, "", (3, 156)), (242, 2, 44, 1, "", (3, 160)), (246, 2, 45, 1, "", (3, 164)), (251, 2, 48, 2, "", (4, 28)), (270, 5, 46, 0, "RefactorHouse", (3, 170)), (271, 2, 47, 2, "", (4, 24)), (276, 2, 51, 2, "", (4, 40)), (283, 2, 64, 1, "", (4, 210)), (296, 2, 49, 1, "", (4, 32)), (299, 2, 50, 2, "", (4, 36)), (313, 2, 53, 1, "", (4, 48)), (316, 0, 61, 1, "", (4, 199)), (319, 2, 62, 3, "", (4, 202)), (323, 2, 63, 1, "", (4, 206)), (327, 2, 56, 4, "", (4, 60)), (349, 5, 57, 0, "RefactorHouse", (4, 65)), (350, 2, 58, 2, "", (4, 187)), (360, 2, 54, 1, "", (4, 52)), (363, 2, 55, 1, "", (4, 56)), (366, 2, 60, 4, "", (4, 195)), (370, 2, 59, 1, "", (4, 191))], [(3, 9, 0, 0, "", (0, 109)), (38, 2, 78, 0, "", (5, 25)), (41, 2, 82, 0, "", (5, 41)), (44, 2, 84, 0, "", (5, 50)), (60, 2, 89, 1, "", (5, 70)), (67, 2, 110, 0, "", (5, 154)), (70, 2, 116, 0, "", (5, 176)), (73, 2, 117, 0, "", (5, 180)), (79, 2, 80, 2, "", (5, 33)), (101, 2, 79, 1, "", (5, 29)), (108, 2, 81, 1, "", (5, 37)), (125, 2, 83, 1, "", (5, 45)), (129, 2, 63, 1, "", (5, 49)), (132, 2, 85, 0, "", (5, 54)), (136, 2, 86, 1, "", (5, 58)), (140, 2, 88, 1, "", (5, 66)), (149, 2, 87, 2, "", (5, 62)), (161, 2, 90, 2, "", (5, 74)), (165, 2, 91, 1, "", (5, 78)), (168, 2, 97, 1, "", (5, 100)), (171, 2, 100, 1, "", (5, 112)), (183, 2, 107, 2, "", (5, 142)), (187, 2, 108, 1, "", (5, 146)), (196, 2, 109, 2, "", (5, 150)), (200, 2, 103, 2, "", (5, 124)), (204, 2, 92, 2, "", (5, 82)), (208, 2, 94, 3, "", (5, 89)), (212, 2, 96, 2, "", (5, 96)), (219, 0, 93, 2, "", (5, 86)), (238, 0, 95, 2, "", (5, 93)), (241, 2, 99, 1, "", (5, 108)), (244, 2, 98, 1, "", (5, 104)), (253, 2, 101, 2, "", (5, 116)), (257, 2, 104, 1, "", (5, 128)), (266, 2, 102, 2, "", (5, 120)), (269, 2, 105, 2, "", (5, 132)), (272, 2, 106, 2, "", (5, 138)), (282, 0, 111, 1, "", (5, 158)), (295, 2, 112, 2, "", (5, 161)), (301, 2, 114, 2, "", (5, 168)), (305, 0, 113, 1, "", (5, 165)), (310, 2, 115, 1, "", (5, 172)), (323, 0, 19, 2, "", (5, 184)), (332, 0, 118, 1, "", (5, 185)), (336, 2, 119, 1, "", (5, 188)), (346, 0, 120, 1, "", (5, 192))], [(5, 9, 0, 0, "", (0, 127)), (55, 0, 22, 2, "", (6, 46)), (65, 0, 19, 2, "", (6, 47)), (87, 2, 143, 0, "", (6, 48)), (90, 2, 147, 1, "", (6, 64)), (101, 2, 154, 2, "", (6, 93)), (105, 2, 166, 1, "", (6, 138)), (112, 2, 167, 2, "", (6, 142)), (135, 2, 144, 2, "", (6, 52)), (145, 0, 145, 1, "", (6, 56)), (149, 2, 146, 1, "", (6, 59)), (163, 7, 0, 5, "", (6, 63)), (189, 2, 151, 1, "", (6, 80)), (198, 2, 155, 1, "", (6, 97)), (207, 2, 153, 1, "", (6, 88)), (216, 2, 157, 2, "", (6, 105)), (220, 2, 158, 1, "", (6, 109)), (224, 2, 159, 2, "", (6, 113)), (227, 2, 162, 1, "", (6, 124)), (230, 2, 156, 0, "", (6, 101)), (234, 2, 165, 1, "", (6, 134)), (246, 0, 160, 2, "", (6, 117)), (249, 2, 150, 0, "", (6, 76)), (253, 2, 161, 0, "", (6, 120)), (256, 2, 152, 4, "", (6, 84)), (268, 0, 163, 4, "", (6, 128)), (274, 2, 148, 0, "", (6, 68)), (277, 0, 149, 2, "", (6, 72)), (290, 2, 32, 1, "", (6, 75)), (303, 2, 168, 2, "", (6, 146)), (310, 2, 169, 2, "", (6, 150)), (313, 2, 170, 1, "", (6, 154)), (316, 2, 171, 2, "", (6, 158)), (319, 2, 172, 2, "", (6, 162)), (328, 2, 173, 2, "", (6, 167))], [(3, 9, 0, 0, "", (0, 196)), (48, 0, 19, 2, "", (6, 200)), (54, 0, 22, 2, "", (7, 13)), (65, 2, 190, 1, "", (7, 5)), (69, 2, 191, 2, "", (7, 9)), (73, 1, 26, 1, "RefactorHouse", (7, 22)), (77, 2, 32, 1, "", (7, 23)), (89, 2, 193, 2, "", (7, 18)), (92, 2, 205, 2, "", (7, 66)), (97, 2, 206, 1, "", (7, 71)), (104, 2, 99, 1, "", (7, 94)), (120, 2, 240, 4, "", (8, 10)), (124, 2, 241, 4, "", (8, 14))], [(3, 9, 0, 0, "", (1, 0)), (52, 2, 180, 1, "", (6, 196)), (58, 2, 182, 3, "", (6, 205)), (62, 2, 185, 1, "", (6, 221)), (66, 2, 187, 0, "", (6, 233)), (70, 2, 195, 0, "", (7, 28)), (73, 2, 207, 0, "", (7, 85)), (76, 2, 211, 0, "", (7, 109)), (79, 2, 219, 0, "", (7, 151)), (82, 2, 222, 0, "", (7, 166)), (93, 2, 224, 1, "", (7, 177)), (97, 2, 225, 0, "", (7, 181)), (100, 2, 227, 0, "", (7, 190)), (103, 2, 232, 0, "", (7, 211)), (106, 2, 234, 0, "", (7, 222)), (109, 2, 235, 0, "", (7, 227)), (112, 2, 237, 0, "", (7, 238)), (115, 2, 122, 1, "", (6, 209)), (121, 2, 130, 1, "", (6, 210)), (127, 2, 124, 2, "", (6, 211)), (131, 2, 183, 2, "", (6, 212)), (139, 2, 184, 1, "", (6, 216)), (146, 2, 186, 0, "", (6, 225)), (150, 1, 28, 1, "RefactorHouse", (6, 232)), (153, 1, 25, 1, "RefactorHouse", (6, 229)), (156, 1, 26, 1, "RefactorHouse", (6, 230)), (159, 1, 27, 3, "RefactorHouse", (6, 231)), (163, 2, 73, 1, "", (6, 220)), (206, 2, 188, 2, "", (6, 237)), (213, 2, 198, 1, "", (7, 39)), (220, 2, 189, 2, "", (7, 1)), (224, 2, 194, 0, "", (7, 24)), (227, 2, 192, 3, "", (7, 14)), (242, 0, 196, 2, "", (7, 32)), (249, 2, 197, 2, "", (7, 35)), (253, 0, 199, 1, "", (7, 43)), (260, 2, 200, 1, "", (7, 46)), (264, 0, 202, 3, "", (7, 54)), (268, 2, 203, 2, "", (7, 57)), (272, 2, 132, 2, "", (7, 61)), (277, 2, 204, 2, "", (7, 62)), (280, 2, 201, 3, "", (7, 50)), (291, 2, 191, 2, "", (7, 89)), (294, 2, 208, 1, "", (7, 90)), (300, 2, 206, 1, "", (7, 98)), (304, 2, 209, 0, "", (7, 99)), (309, 2, 210, 2, "", (7, 104)), (315, 2, 212, 1, "", (7, 113)), (327, 2, 213, 1, "", (7, 117)), (333, 0, 214, 2, "", (7, 121)), (336, 2, 215, 3, "", (7, 125)), (340, 2, 216, 1, "", (7, 129)), (344, 2, 81, 1, "", (7, 124)), (347, 2, 217, 3, "", (7, 133)), (353, 2, 218, 2, "", (7, 138)), (359, 2, 190, 1, "", (7, 144)), (380, 2, 136, 1, "", (7, 155)), (383, 2, 220, 0, "", (7, 156)), (390, 2, 221, 1, "", (7, 160)), (396, 2, 205, 2, "", (7, 164)), (403, 2, 223, 1, "", (7, 172)), (408, 2, 226, 2, "", (7, 185)), (412, 2, 228, 1, "", (7, 194)), (418, 2, 229, 1, "", (7, 198)), (421, 2, 231, 1, "", (7, 207)), (424, 2, 230, 2, "", (7, 202)), (427, 2, 102, 2, "", (7, 206)), (434, 2, 233, 1, "", (7, 215)), (437, 2, 63, 1, "", (7, 219)), (442, 2, 85, 0, "", (7, 220)), (446, 0, 149, 2, "", (7, 226)), (457, 2, 236, 2, "", (7, 232)), (465, 2, 239, 1, "", (8, 6)), (468, 2, 16, 3, "", (8, 18)), (477, 2, 77, 1, "", (8, 19)), (488, 2, 242, 1, "", (8, 20)), (492, 2, 245, 1, "", (8, 33)), (495, 2, 244, 2, "", (8, 28)), (499, 2, 243, 2, "", (8, 24)), (503, 0, 22, 2, "", (8, 32)), (508, 2, 246, 2, "", (8, 37)), (512, 2, 105, 2, "", (8, 41))], [(3, 9, 0, 0, "", (1, 41)), (11, 4, 8, 3, "", (1, 44)), (66, 7, 0, 5, "", (8, 91)), (75, 2, 259, 1, "", (8, 92)), (87, 2, 260, 0, "", (8, 96)), (103, 2, 32, 1, "", (8, 100)), (107, 2, 63, 1, "", (8, 101)), (110, 2, 261, 1, "", (8, 102)), (141, 2, 33, 3, "", (8, 106)), (146, 0, 19, 2, "", (8, 111)), (155, 0, 263, 1, "", (8, 112)), (159, 2, 264, 1, "", (8, 115)), (181, 2, 265, 2, "", (8, 119)), (185, 2, 268, 2, "", (8, 132)), (197, 2, 103, 2, "", (8, 123)), (201, 0, 266, 1, "", (8, 124)), (205, 2, 267, 2, "", (8, 128)), (212, 2, 189, 2, "", (8, 152)), (220, 2, 206, 1, "", (8, 154)), (226, 2, 273, 2, "", (8, 156)), (232, 2, 194, 0, "", (8, 163)), (235, 2, 217, 3, "", (8, 160)), (239, 2, 204, 2, "", (8, 161)), (249, 0, 276, 2, "", (8, 172)), (254, 2, 277, 3, "", (8, 175))], [(3, 9, 0, 0, "", (1, 47)), (82, 7, 0, 5, "", (2, 110)), (91, 2, 32, 1, "", (2, 224)), (95, 2, 73, 1, "", (5, 203)), (98, 2, 122, 1, "", (5, 236)), (108, 2, 132, 2, "", (6, 1)), (128, 2, 215, 3, "", (7, 189)), (147, 2, 81, 1, "", (5, 136)), (151, 2, 87, 2, "", (5, 137))], [(3, 9, 0, 0, "", (2, 6)), (29, 2, 252, 2, "", (8, 63)), (45, 7, 0, 5, "", (6, 41))], [(13, 0, 164, 3, "", (6, 131))], [], [(3, 9, 0, 0, "", (3, 15))], [(1, 9, 0, 0, "", (3, 173))], [(3, 9, 0, 0, "", (4, 68))], [(35, 0, 324, 2, "", (10, 211)), (39, 3, 325, 2, "RefactorHouseModel", (10, 214)), (45, 0, 160, 2, "", (13, 141)), (51, 7, 0, 5, "", (11, 131)), (63, 0, 400, 2, "", (13, 138)), (76, 2, 402, 1, "", (13, 146)), (99, 2, 399, 3, "", (13, 134)), (113, 3, 327, 2, "RefactorHouseModel", (13, 150)), (134, 2, 401, 1, "", (13, 142)), (146, 2, 403, 1, "", (13, 151)), (149, 2, 404, 2, "", (13, 155)), (171, 3, 294, 1, "RefactorHouseModel", (13, 55)), (178, 0, 22, 2, "", (13, 133)), (190, 2, 405, 1, "", (13, 159)), (208, 2, 412, 1, "", (13, 187)), (255, 2, 398, 0, "", (13, 129)), (262, 2, 406, 0, "", (13, 163)), (265, 2, 423, 1, "", (13, 232)), (269, 2, 418, 4, "", (13, 211)), (275, 2, 424, 2, "", (13, 236)), (306, 2, 414, 0, "", (13, 195)), (309, 2, 415, 0, "", (13, 199)), (312, 3, 419, 1, "RefactorHouseModel", (13, 215)), (339, 3, 352, 2, "RefactorHouseModel", (13, 223)), (346, 2, 420, 2, "", (13, 219)), (349, 2, 407, 3, "", (13, 167)), (353, 2, 421, 2, "", (13, 224)), (356, 2, 408, 1, "", (13, 171)), (359, 2, 409, 1, "", (13, 175)), (362, 2, 410, 2, "", (13, 179)), (365, 2, 411, 0, "", (13, 183)), (368, 2, 413, 1, "", (13, 191)), (371, 2, 416, 3, "", (13, 203)), (374, 2, 417, 2, "", (13, 207)), (377, 2, 422, 0, "", (13, 228)), (383, 9, 0, 0, "", (8, 188)), (393, 8, 0, 1, "", (8, 229)), (400, 5, 280, 1, "RefactorHouseModel", (9, 17)), (519, 3, 282, 0, "RefactorHouseModel", (10, 46)), (522, 2, 363, 1, "", (11, 127)), (543, 0, 438, 2, "", (14, 56)), (547, 2, 439, 3, "", (14, 59)), (550, 2, 436, 1, "", (14, 48)), (556, 2, 462, 1, "", (14, 155)), (565, 2, 457, 1, "", (14, 134)), (573, 2, 458, 2, "", (14, 138)), (578, 2, 437, 2, "", (14, 52)), (581, 2, 444, 1, "", (14, 79)), (585, 2, 442, 0, "", (14, 71)), (588, 2, 443, 2, "", (14, 75)), (591, 0, 434, 1, "", (14, 38)), (595, 2, 445, 1, "", (14, 83)), (598, 0, 289, 1, "", (14, 37)), (601, 0, 290, 1, "", (14, 41)), (604, 2, 447, 3, "", (14, 91)), (607, 2, 448, 2, "", (14, 95)), (610, 3, 379, 1, "RefactorHouseModel", (13, 50)), (613, 2, 441, 0, "", (14, 67)), (616, 2, 446, 0, "", (14, 87)), (619, 3, 283, 0, "RefactorHouseModel", (13, 12)), (622, 2, 432, 2, "", (14, 29)), (625, 3, 285, 2, "RefactorHouseModel", (13, 13)), (628, 3, 284, 0, "RefactorHouseModel", (14, 99)), (637, 3, 331, 0, "RefactorHouseModel", (14, 100)), (643, 2, 449, 1, "", (14, 101)), (646, 0, 291, 3, "", (14, 42)), (650, 2, 467, 1, "", (14, 181)), (653, 2, 453, 1, "", (14, 117)), (665, 2, 371, 0, "", (13, 18)), (668, 2, 430, 0, "", (14, 21)), (671, 2, 431, 1, "", (14, 25)), (674, 2, 450, 1, "", (14, 105)), (677, 2, 459, 2, "", (14, 143)), (680, 2, 464, 2, "", (14, 169)), (683, 2, 469, 1, "", (14, 197)), (686, 2, 474, 1, "", (14, 218)), (689, 2, 476, 2, "", (14, 229)), (692, 2, 478, 1, "", (14, 237)), (695, 2, 479, 1, "", (15, 1)), (698, 2, 481, 1, "", (15, 10)), (701, 2, 482, 1, "", (15, 14)), (704, 2, 433, 0, "", (14, 33)), (708, 2, 388, 1, "", (13, 89)), (711, 3, 392, 2, "RefactorHouseModel", (14, 43)), (714, 2, 435, 2, "", (14, 44)), (717, 2, 440, 0, "", (14, 63)), (720, 3, 387, 1, "RefactorHouseModel", (13, 84)), (723, 2, 451, 1, "", (14, 109)), (726, 2, 452, 0, "", (14, 113)), (732, 2, 454, 3, "", (14, 121)), (736, 2, 455, 2, "", (14, 125)), (739, 2, 456, 1, "", (14, 129)), (742, 3, 376, 1, "RefactorHouseModel", (13, 38)), (745, 3, 381, 2, "RefactorHouseModel", (13, 60)), (751, 2, 460, 1, "", (14, 147)), (754, 2, 461, 1, "", (14, 151)), (759, 2, 463, 0, "", (14, 163)), (766, 2, 465, 2, "", (14, 173)), (769, 2, 466, 4, "", (14, 177)), (773, 3, 335, 2, "RefactorHouseModel", (14, 185)), (778, 2, 468, 4, "", (14, 187)), (794, 3, 391, 1, "RefactorHouseModel", (13, 101)), (797, 2, 470, 2, "", (14, 201)), (801, 2, 471, 1, "", (14, 205)), (804, 2, 472, 1, "", (14, 209)), (807, 2, 473, 3, "", (14, 213)), (810, 3, 339, 1, "RefactorHouseModel", (14, 217)), (813, 2, 475, 1, "", (14, 222)), (822, 2, 477, 0, "", (14, 233)), (830, 2, 480, 2, "", (15, 6)), (835, 2, 483, 2, "", (15, 19)), (866, 3, 286, 5, "RefactorHouseModel", (15, 53)), (870, 3, 314, 0, "RefactorHouseModel", (15, 54)), (876, 3, 305, 1, "RefactorHouseModel", (15, 55)), (885, 3, 293, 0, "RefactorHouseModel", (15, 56)), (888, 3, 297, 0, "RefactorHouseModel", (15, 57)), (894, 2, 295, 2, "", (15, 58)), (897, 2, 495, 2, "", (15, 76)), (900, 3, 326, 3, "RefactorHouseModel", (15, 85)), (904, 3, 382, 1, "RefactorHouseModel", (15, 63)), (910, 3, 350, 2, "RefactorHouseModel", (15, 80)), (913, 2, 496, 2, "", (15, 81)), (916, 2, 497, 2, "", (15, 86)), (919, 2, 494, 2, "", (15, 72)), (925, 2, 492, 1, "", (15, 64)), (928, 2, 493, 1, "", (15, 68)), (934, 2, 503, 3, "", (15, 110)), (943, 2, 365, 1, "", (12, 233)), (949, 0, 368, 2, "", (13, 5)), (952, 2, 369, 1, "", (13, 8)), (961, 2, 370, 0, "", (13, 14)), (970, 2, 386, 1, "", (13, 80)), (976, 2, 396, 2, "", (13, 121)), (980, 2, 397, 3, "", (13, 125)), (1000, 2, 429, 3, "", (14, 17)), (1003, 2, 490, 0, "", (15, 49)), (1006, 2, 491, 0, "", (15, 59)), (1009, 2, 500, 0, "", (15, 98)), (1012, 2, 502, 1, "", (15, 106))], [(9, 9, 0, 0, "", (9, 20)), (26, 5, 281, 0, "RefactorHouseModel", (9, 24)), (145, 2, 294, 1, "", (10, 92)), (149, 3, 295, 2, "RefactorHouseModel", (10, 96)), (153, 2, 293, 0, "", (10, 88)), (163, 2, 300, 0, "", (10, 116)), (169, 2, 307, 1, "", (10, 144)), (173, 2, 299, 0, "", (10, 112)), (176, 2, 296, 1, "", (10, 100)), (179, 2, 306, 1, "", (10, 140)), (182, 2, 297, 0, "", (10, 104)), (185, 2, 301, 1, "", (10, 120)), (198, 2, 318, 2, "", (10, 188)), (214, 3, 286, 5, "RefactorHouseModel", (10, 62)), (218, 2, 298, 1, "", (10, 108)), (222, 2, 302, 6, "", (10, 124)), (226, 2, 303, 1, "", (10, 128)), (229, 2, 304, 0, "", (10, 132)), (232, 2, 305, 1, "", (10, 136)), (235, 2, 308, 2, "", (10, 148)), (238, 2, 309, 0, "", (10, 152)), (242, 2, 310, 0, "", (10, 156)), (245, 2, 314, 0, "", (10, 172)), (248, 2, 311, 0, "", (10, 160)), (251, 2, 312, 0, "", (10, 164)), (254, 2, 317, 6, "", (10, 184)), (258, 2, 313, 0, "", (10, 168)), (261, 2, 329, 0, "", (10, 230)), (264, 2, 330, 0, "", (10, 234)), (267, 2, 315, 1, "", (10, 176)), (270, 2, 316, 0, "", (10, 180)), (273, 2, 328, 1, "", (10, 226)), (276, 2, 319, 0, "", (10, 192)), (279, 2, 320, 0, "", (10, 196)), (282, 2, 321, 1, "", (10, 200)), (297, 2, 322, 2, "", (10, 204)), (304, 1, 323, 4, "RefactorHouseModel", (10, 208)), (309, 2, 327, 2, "", (10, 222)), (316, 2, 326, 3, "", (10, 218)), (326, 2, 335, 2, "", (11, 15)), (330, 2, 339, 1, "", (11, 31)), (333, 2, 338, 2, "", (11, 27)), (336, 2, 332, 2, "", (11, 2)), (339, 2, 333, 0, "", (11, 6)), (342, 2, 336, 0, "", (11, 19)), (345, 2, 340, 0, "", (11, 35)), (348, 2, 361, 0, "", (11, 119)), (351, 2, 325, 2, "", (11, 10)), (355, 2, 334, 2, "", (11, 11)), (358, 2, 337, 1, "", (11, 23)), (361, 2, 341, 1, "", (11, 39)), (364, 2, 342, 2, "", (11, 43)), (367, 2, 358, 1, "", (11, 107)), (370, 2, 359, 1, "", (11, 111)), (385, 2, 346, 1, "", (11, 59)), (388, 2, 343, 1, "", (11, 47)), (391, 2, 350, 2, "", (11, 75)), (394, 2, 360, 1, "", (11, 115)), (397, 2, 344, 1, "", (11, 51)), (400, 2, 345, 1, "", (11, 55)), (403, 2, 348, 4, "", (11, 67)), (407, 2, 354, 1, "", (11, 91)), (410, 2, 356, 2, "", (11, 99)), (413, 2, 357, 1, "", (11, 103)), (416, 2, 347, 3, "", (11, 63)), (420, 2, 355, 1, "", (11, 95)), (423, 2, 349, 2, "", (11, 71)), (426, 2, 351, 1, "", (11, 79)), (429, 2, 352, 2, "", (11, 83)), (432, 2, 353, 2, "", (11, 87)), (435, 2, 362, 0, "", (11, 123)), (438, 2, 392, 2, "", (13, 105)), (444, 2, 283, 0, "", (10, 50)), (447, 2, 284, 0, "", (10, 54)), (450, 2, 285, 2, "", (10, 58)), (453, 2, 331, 0, "", (10, 238)), (456, 2, 376, 1, "", (13, 54)), (459, 2, 379, 1, "", (13, 88)), (462, 2, 382, 1, "", (13, 64))], [(3, 9, 0, 0, "", (9, 27)), (27, 0, 287, 3, "", (10, 66)), (31, 1, 289, 1, "RefactorHouseModel", (10, 73)), (35, 1, 290, 1, "RefactorHouseModel", (10, 76)), (38, 1, 291, 3, "RefactorHouseModel", (10, 79)), (41, 0, 292, 2, "", (10, 85)), (49, 2, 288, 5, "", (10, 69))]]
def mt_K : List (List (Nat × Int × (Nat × Nat))) := [[], [(243, 1103515245, (6, 183))], [(64, 1000000, (2, 225))], [], [(21, 76800, (0, 128)), (94, 100000000, (6, 92)), (322, 1000000, (6, 166))], [], [], [(208, 1000000, (8, 127))], [], [], [], [], [], [], [], [(999, 1103515245, (14, 12))]]
def mt_U : List (List (Nat × Nat × String × (Nat × Nat))) := [[], [(332, 0, "class   extends static  int     bool    void    if      else    while   return  print   read    new     this    null    true    false   ", (2, 160))], [], [], [], [(95, 1, "(", (7, 70)), (101, 2, ")", (7, 84)), (108, 6, "int", (7, 95)), (110, 7, "bool", (7, 96))], [(298, 3, " ", (7, 97)), (307, 4, " = ", (7, 103)), (312, 5, "; ", (7, 108)), (351, 8, "(", (7, 137)), (357, 9, ");", (7, 143)), (362, 10, " static ", (7, 145)), (365, 11, "void", (7, 146)), (367, 12, ") { ", (7, 147)), (369, 13, " return ", (7, 148)), (371, 14, ";", (7, 149)), (373, 15, " }", (7, 150)), (375, 16, ", ", (7, 142)), (394, 17, ")", (7, 165)), (399, 18, "() { return ", (7, 170)), (401, 19, "; }", (7, 171)), (406, 20, "()", (7, 176)), (440, 21, ".", (7, 221)), (455, 22, "!(", (7, 231)), (461, 23, " { ", (7, 236)), (463, 24, " } ", (7, 237))], [(218, 25, "(", (8, 153)), (224, 26, " ", (8, 155)), (230, 27, ")", (8, 162))], [], [], [], [], [], [], [], [(3, 30, "class extends static int bool void if else while return print read new this null true false ", (10, 82)), (392, 28, "stop", (8, 228)), (396, 29, "fail", (9, 14)), (559, 36, "int", (14, 159)), (561, 37, "bool", (14, 160)), (563, 38, "void", (14, 161)), (571, 31, "(", (14, 133)), (576, 32, ")", (14, 142)), (757, 33, " ", (14, 162)), (762, 34, " = ", (14, 167)), (764, 35, "; ", (14, 168)), (776, 39, "static ", (14, 186)), (782, 40, ") { ", (14, 192)), (784, 41, " return ", (14, 193)), (786, 42, ";", (14, 194)), (788, 43, " }", (14, 195)), (790, 44, ");", (14, 196)), (792, 45, ", ", (14, 191)), (816, 46, "() { return ", (14, 226)), (818, 47, "; }", (14, 227)), (820, 48, "()", (14, 228)), (828, 49, ".", (15, 5)), (833, 50, "!(", (15, 18)), (838, 51, " { ", (15, 23)), (840, 52, " } ", (15, 24))]]
def mt_M : List (List (Nat × Nat × Nat × Nat × (Nat × Nat) × (Nat × Nat) × (Nat × Nat))) := [[], [], [], [], [(34, 5, 0, 0, (0, 129), (0, 130), (99, 0))], [], [], [], [(21, 6, 1, 0, (1, 49), (1, 50), (99, 0))], [(17, 5, 0, 0, (2, 8), (0, 130), (99, 0))], [], [], [], [], [], [(418, 8, 6, 1, (10, 44), (10, 45), (1, 50))], [(15, 6, 1, 0, (9, 21), (1, 50), (99, 0))]]
/-- the places of the words of arrays of ints, bytes, booleans -/
def mt_ac : (Nat × Nat) × (Nat × Nat) × (Nat × Nat) := ((0, 103), (0, 102), (10, 43))
def mt_E : List (Nat × Nat) := [(3, 11), (4, 9), (7, 10)]
def mt_X : Nat := 13
end
section
/-! the tables as the small machine takes them -/
def mt_Nm (y : Nat) : MethodName := match mt_m[y]? with
  | some q => ⟨mt_own q.1, q.2.1, q.2.2⟩
  | none => ⟨"", "", ""⟩
def mt_Cd (y : Nat) : ByteArray := mt_c.getD y ⟨#[]⟩
def mt_pv : List (MethodName × Nat) := mt_v.map fun q => (mt_Nm q.1, q.2.1)
def mt_Ts : List Jvm.Cond := k2_sels mt_pv ++ tables_1
def mt_Us : List Jvm.Cond := [.laysStatic Bundle.tN "UNASSIGNED_STACK" Bundle.steD, .laysStatic Bundle.tN "SUPPRESSED_SENTINEL" Bundle.listD, .isRef (.static Bundle.tN "UNASSIGNED_STACK" Bundle.steD), .isRef (.static Bundle.tN "SUPPRESSED_SENTINEL" Bundle.listD)]
def mt_ch : Nat → List Jvm.Cond
  | 0 => tables_1_1
  | 1 => tables_1_2
  | 2 => tables_1_3
  | 3 => tables_1_4
  | 4 => tables_1_5
  | 5 => tables_1_6
  | 6 => tables_1_7
  | 7 => tables_1_8
  | 8 => tables_1_9
  | 9 => tables_1_10
  | 10 => tables_1_11
  | 11 => tables_1_12
  | 12 => tables_1_13
  | 13 => tables_1_14
  | 14 => tables_1_15
  | 15 => tables_1_16
  | 16 => k2_sels mt_pv
  | _ => []
def mt_in (q : Nat × Nat) (w : Jvm.Cond) : Bool := decide ((mt_ch q.1)[q.2]? = some w)
theorem mt_in_mem {q : Nat × Nat} {w : Jvm.Cond} (h : mt_in q w = true) : w ∈ mt_Ts := by
  have h1 : w ∈ mt_ch q.1 := List.mem_of_getElem? (of_decide_eq_true h)
  have h2 : w ∈ mt_ch q.1 → w ∈ mt_Ts := by
    unfold mt_ch mt_Ts tables_1
    split <;> intro h <;> first | (exact absurd h List.not_mem_nil) | simp only [List.mem_append, h, true_or, or_true]
  exact h2 h1
def mt_fl (ci : Nat) : List (Nat × String × String × Bool × (Nat × Nat)) := match mt_k[ci]? with
  | some q => q.2.2.1
  | none => []
def mt_T (ci : Nat) : u_T := fun k => match (mt_fl ci)[k]? with
  | some f => (mt_own f.1, f.2.1, f.2.2.1, f.2.2.2.1)
  | none => ("", "", "", false)
def mt_cn (ci : Nat) : String := match mt_k[ci]? with
  | some q => mt_own q.1
  | none => ""
def mt_cl : List vw_C := (List.range mt_k.length).map fun ci => (mt_cn ci, mt_T ci, (mt_fl ci).length)
theorem mt_cl_at {ci : Nat} (h : ci < mt_k.length) : mt_cl[ci]? = some (mt_cn ci, mt_T ci, (mt_fl ci).length) := by
  unfold mt_cl
  rw [List.getElem?_map, List.getElem?_range h]
  rfl
theorem mt_cl_of {ci : Nat} {r : vw_C} (h : mt_cl[ci]? = some r) : ci < mt_k.length ∧ r = (mt_cn ci, mt_T ci, (mt_fl ci).length) := by
  have h1 : ci < mt_cl.length := (List.getElem?_eq_some_iff.mp h).1
  have h2 : ci < mt_k.length := by simpa [mt_cl] using h1
  rw [mt_cl_at h2] at h
  exact ⟨h2, (Option.some.inj h).symm⟩
def mt_oc (y : Nat) : Nat := match mt_m[y]? with
  | some q => q.1
  | none => 99
def mt_pick {α : Type} (l : List (List (Nat × α))) (y idx : Nat) : Option α := ((l.getD (mt_oc y) []).find? (fun e => Nat.beq e.1 idx)).map (fun e => e.2)
theorem mt_pick_of {α : Type} {l : List (List (Nat × α))} {y idx : Nat} {r : α} (h : mt_pick l y idx = some r) : (idx, r) ∈ l.getD (mt_oc y) [] := by
  unfold mt_pick at h
  rw [Option.map_eq_some_iff] at h
  obtain ⟨e, h1, h2⟩ := h
  have h3 := List.mem_of_find?_eq_some h1
  have h4 := List.find?_some h1
  have h5 : e.1 = idx := Nat.eq_of_beq_eq_true h4
  obtain ⟨a, b⟩ := e
  cases h5
  cases h2
  exact h3
def mt_gT (ci k : Nat) : Option FieldType := match (mt_fl ci)[k]? with
  | some f => parseFieldDescriptor f.2.2.1
  | none => none
def mt_inf (y : Nat) : Nat × Option FieldType × (Nat × Nat) × (Nat × Nat) × (Nat × Nat) := mt_i.getD y (0, none, (99, 0), (99, 0), (99, 0))
def mt_gH (y : Nat) : List (Nat × Nat × Nat × Nat) := match mt_h.find? (fun e => Nat.beq e.1 y) with
  | some e => e.2
  | none => []
def mt_gW (z : Nat) : Nat := (mt_k.findIdx? (fun c => Nat.beq c.1 (mt_oc z))).getD 99
def mt_gD (ci : Nat) : List Value := (mt_fl ci).map fun f => match parseFieldDescriptor f.2.2.1 with
  | some ty => defaultValue ty
  | none => .null
/-- the tables, for a script of n ints f -/
def mt_G (n : Nat) (f : Nat → Int32) : mv_G :=
  (fun y pc => match decode (mt_Cd y) pc with
    | .ok q => some q
    | .error _ => none,
   fun y idx => (mt_pick mt_F y idx).map fun e => (e.1, e.2.1),
   fun y idx => (mt_pick mt_N y idx).map fun e => e.1,
   fun y idx => (mt_pick mt_A y idx).map fun e => e.1,
   fun y idx => (mt_pick mt_C y idx).map fun e => (e.1, e.2.1, e.2.2.1),
   fun y idx => match mt_pick mt_K y idx with
    | some e => some (.int (Int32.ofInt e.1))
    | none => (mt_pick mt_U y idx).map fun e => .ref (mv_big + 1 + e.1),
   fun y => (mt_inf y).1,
   mt_gH,
   fun ci => match mt_k[ci]? with
    | some q => q.2.1
    | none => 0,
   mt_gD,
   mt_gT,
   fun ci k => match (mt_fl ci)[k]? with
    | some f => f.2.2.2.1
    | none => false,
   fun y ci => match mt_m[y]?, mt_k[ci]? with
    | some q, some c => Nat.beq q.1 c.1 && decide (q.2.1 = "<init>")
    | _, _ => false,
   fun t => mt_L[t]?,
   fun t => (mt_E.find? (fun e => Nat.beq e.1 t)).map fun e => e.2,
   fun y => (mt_inf y).2.1,
   mt_gW,
   mt_X,
   fun y idx => (mt_pick mt_M y idx).map fun e => (e.1, e.2.1, e.2.2.1),
   fun a => if a = mv_big then some (n, f) else none)
end
section
/-! the tables are right -/
theorem mt_cls (y : Nat) : (mt_Nm y).cls = mt_own (mt_oc y) := by
  unfold mt_Nm mt_oc
  cases mt_m[y]? with
  | none => exact (by decide +kernel : "" = mt_own 99)
  | some q => rfl
def mt_mem (w : Jvm.Cond) : Bool := decide (w ∈ tables_1)
theorem mt_mem_mem {w : Jvm.Cond} (h : mt_mem w = true) : w ∈ mt_Ts := List.mem_append.mpr (Or.inr (of_decide_eq_true h))
def mt_all {α : Type} (l : List (List α)) (b : Nat → α → Bool) : Bool := (List.range l.length).all fun o => (l.getD o []).all (b o)
theorem mt_all_of {α : Type} {l : List (List α)} {b : Nat → α → Bool} (h : mt_all l b = true) {o : Nat} {e : α} (he : e ∈ l.getD o []) : b o e = true := by
  rcases Nat.lt_or_ge o l.length with q | q
  · exact List.all_eq_true.mp (List.all_eq_true.mp h o (List.mem_range.mpr q)) e he
  · rw [List.getD_eq_getElem?_getD, List.getElem?_eq_none q] at he
    exact absurd he List.not_mem_nil
/-- classes -/
def mt_okk (ci : Nat) : Bool := match mt_k[ci]? with
  | some q => (List.range q.2.2.1.length).all (fun k => match q.2.2.1[k]? with
      | some f => Nat.beq f.1 q.1 && mt_in f.2.2.2.2 (u_lay (mt_cn ci) (mt_T ci) k) && (parseFieldDescriptor f.2.2.1).isSome
      | none => false) && decide ((q.2.2.1.map fun f => f.2.1).Nodup) && mt_in q.2.2.2.1 (.instantiable (mt_cn ci) q.2.1) && mt_in q.2.2.2.2 (.initialized (mt_cn ci)) && (mt_gD ci).all (fun v => match v with
        | .null => true
        | .int _ => true
        | _ => false)
  | none => false
set_option maxRecDepth 100000 in
theorem mt_okk_all : (List.range mt_k.length).all mt_okk = true := by decide +kernel
def mt_okf (o : Nat) (e : Nat × Nat × Nat × Bool × String × (Nat × Nat)) : Bool := Nat.blt e.2.1 mt_k.length && Nat.blt e.2.2.1 (mt_fl e.2.1).length && mt_in e.2.2.2.2.2 (if e.2.2.2.1 = true then .fieldLinkNest (mt_own o) e.1 (mt_T e.2.1 e.2.2.1).1 (mt_T e.2.1 e.2.2.1).2.1 (mt_T e.2.1 e.2.2.1).2.2.1 e.2.2.2.2.1 else .fieldLink (mt_own o) e.1 (mt_T e.2.1 e.2.2.1).1 (mt_T e.2.1 e.2.2.1).2.1 (mt_T e.2.1 e.2.2.1).2.2.1) && (!e.2.2.2.1 || !decide (mt_own o = mt_cn e.2.1))
set_option maxRecDepth 100000 in
theorem mt_okf_all : mt_all mt_F mt_okf = true := by decide +kernel
def mt_okn (o : Nat) (e : Nat × Nat × (Nat × Nat)) : Bool := Nat.blt e.2.1 mt_k.length && mt_in e.2.2 (.classLink (mt_own o) e.1 (mt_cn e.2.1))
set_option maxRecDepth 100000 in
theorem mt_okn_all : mt_all mt_N mt_okn = true := by decide +kernel
def mt_oka (o : Nat) (e : Nat × Nat × (Nat × Nat) × (Nat × Nat)) : Bool := match mt_L[e.2.1]? with
  | some (.object C) => mt_in e.2.2.1 (.classLink (mt_own o) e.1 C) && mt_in e.2.2.2 (.arrayOver (.object C))
  | some (.array ty) => mt_in e.2.2.1 (.classLink (mt_own o) e.1 (FieldType.array ty).toString) && mt_in e.2.2.2 (.arrayOver (.array ty))
  | _ => false
set_option maxRecDepth 100000 in
theorem mt_oka_all : mt_all mt_A mt_oka = true := by decide +kernel
def mt_oki (o : Nat) (e : Nat × Int × (Nat × Nat)) : Bool := mt_in e.2.2 (.constant (mt_own o) e.1 (Int32.ofInt e.2.1))
set_option maxRecDepth 100000 in
theorem mt_oki_all : mt_all mt_K mt_oki = true := by decide +kernel
def mt_leq : List UInt8 → List UInt8 → Bool
  | [], [] => true
  | a :: r, b :: t => Nat.beq a.toNat b.toNat && mt_leq r t
  | _, _ => false
theorem mt_leq_eq : ∀ {a b : List UInt8}, mt_leq a b = true → a = b
  | [], [], _ => rfl
  | [], _ :: _, h => by cases h
  | _ :: _, [], h => by cases h
  | a :: r, b :: t, h => by
    unfold mt_leq at h
    obtain ⟨h1, h2⟩ := Bool.and_eq_true_iff.mp h
    rw [mt_leq_eq h2, UInt8.toNat_inj.mp (Nat.eq_of_beq_eq_true h1)]
def mt_beq (a b : ByteArray) : Bool := mt_leq a.data.toList b.data.toList
theorem mt_beq_eq {a b : ByteArray} (h : mt_beq a b = true) : a = b := by
  have h1 := mt_leq_eq h
  obtain ⟨⟨x⟩⟩ := a
  obtain ⟨⟨y⟩⟩ := b
  cases h1
  rfl
def mt_inC (q : Nat × Nat) (m : MethodName) (b : ByteArray) (l : Nat) (r : Option FieldType) : Bool := match (mt_ch q.1)[q.2]? with
  | some (.code m' b' l' r') => decide (m' = m) && mt_beq b' b && Nat.beq l' l && decide (r' = r)
  | _ => false
def mt_inH (q : Nat × Nat) (m : MethodName) (b : ByteArray) (l : Nat) (r : Option FieldType) (h : List (Nat × Nat × Nat × Nat)) : Bool := match (mt_ch q.1)[q.2]? with
  | some (.codeWith m' b' l' r' h') => decide (m' = m) && mt_beq b' b && Nat.beq l' l && decide (r' = r) && decide (h' = h)
  | _ => false
def mt_okm (z : Nat) : Bool := (match mt_gH z with
  | [] => mt_inC (mt_inf z).2.2.1 (mt_Nm z) (mt_Cd z) (mt_inf z).1 (mt_inf z).2.1
  | h => mt_inH (mt_inf z).2.2.1 (mt_Nm z) (mt_Cd z) (mt_inf z).1 (mt_inf z).2.1 h) && !decide ((mt_Nm z).cls = "java/lang/invoke/MethodHandle") && !decide ((mt_Nm z).cls = "java/lang/invoke/VarHandle")
set_option maxRecDepth 100000 in
theorem mt_okm_all : ((List.range mt_m.length).drop 1).all mt_okm = true := by decide +kernel
set_option maxRecDepth 100000 in
theorem mt_okp_all : ((List.range mt_m.length).drop 1).all (fun z => plainFor (mt_Nm z)) = true := by decide +kernel
end
section
/-! the tables are right: calls, constants, grids, handlers, the private methods' selection -/
def mt_okl (o : Nat) (e : Nat × Nat × Nat × Nat × String × (Nat × Nat)) : Bool := if e.2.1 = 1 ∨ e.2.1 = 3 ∨ e.2.1 = 5 then mt_in e.2.2.2.2.2 (.methodLinkNest (mt_own o) e.1 (mt_Nm e.2.2.1) e.2.2.2.2.1) else mt_in e.2.2.2.2.2 (.methodLink (mt_own o) e.1 (mt_Nm e.2.2.1))
def mt_okd (z n : Nat) : Bool := match parseMethodDescriptor (mt_Nm z).desc with
  | some sig => Nat.beq n sig.parameters.length
  | none => true
def mt_zin (z : Nat) : Bool := Nat.blt 0 z && Nat.blt z mt_m.length
def mt_okc (o : Nat) (e : Nat × Nat × Nat × Nat × String × (Nat × Nat)) : Bool :=
  if e.2.1 ≤ 1 then mt_zin e.2.2.1 && mt_okl o e && mt_okd e.2.2.1 e.2.2.2.1 && mt_in (mt_inf e.2.2.1).2.2.2.1 (.static (mt_Nm e.2.2.1)) && mt_in (mt_inf e.2.2.1).2.2.2.2 (.initialized (mt_Nm e.2.2.1).cls)
  else if e.2.1 ≤ 3 then mt_zin e.2.2.1 && mt_okl o e && mt_okd e.2.2.1 e.2.2.2.1 && mt_in (mt_inf e.2.2.1).2.2.2.1 (.instanceMethod (mt_Nm e.2.2.1)) && mt_in (mt_inf e.2.2.1).2.2.2.2 (.selects (mt_Nm e.2.2.1).cls (mt_Nm e.2.2.1) (mt_Nm e.2.2.1)) && Nat.blt (mt_gW e.2.2.1) mt_k.length && decide (mt_cn (mt_gW e.2.2.1) = (mt_Nm e.2.2.1).cls)
  else if e.2.1 ≤ 5 then mt_zin e.2.2.1 && mt_okl o e && mt_okd e.2.2.1 e.2.2.2.1 && mt_in (mt_inf e.2.2.1).2.2.2.1 (.instanceMethod (mt_Nm e.2.2.1)) && decide ((mt_Nm e.2.2.1).name = "<init>") && mt_inC (mt_inf e.2.2.1).2.2.1 (mt_Nm e.2.2.1) (mt_Cd e.2.2.1) (mt_inf e.2.2.1).1 none
  else if e.2.1 = 7 then mt_in e.2.2.2.2.2 (.methodLink (mt_own o) e.1 arraycopyName)
  else if e.2.1 = 9 then mt_in e.2.2.2.2.2 (.methodLink (mt_own o) e.1 Lib.objectInit)
  else true
def mt_stayb : Jvm.Cond → Bool
  | .arrayClass _ => true
  | .arrayOver (.object _) => true
  | .arrayOver (.array _) => true
  | .declares _ => true
  | .castable _ _ => true
  | w => w.onTables && w.keepsH
def mt_ok8 (o : Nat) (e : Nat × Nat × Nat × Nat × String × (Nat × Nat)) : Bool := !(Nat.beq e.2.1 8) || (Bundle.ownAtoms (mt_own o) e.1 mv_ISE mv_up).all (fun w => (mt_mem w && mt_stayb w) || decide (w ∈ mt_Us))
set_option maxRecDepth 100000 in
theorem mt_ok8_all : mt_all mt_C mt_ok8 = true := by decide +kernel
def mt_seg {α : Type} (l : List α) (i : Nat) : List α := (l.drop (40 * i)).take 40
theorem mt_seg_of {α : Type} {l : List α} {p : α → Bool} {k : Nat} (hl : l.length ≤ 40 * k) (h : ∀ i, i < k → (mt_seg l i).all p = true) : l.all p = true := by
  refine List.all_eq_true.mpr fun e he => ?_
  obtain ⟨j, hj⟩ := List.mem_iff_getElem?.mp he
  have hlt : j < l.length := (List.getElem?_eq_some_iff.mp hj).1
  refine List.all_eq_true.mp (h (j / 40) (by omega)) e (List.mem_of_getElem? (i := j % 40) ?_)
  unfold mt_seg
  rw [List.getElem?_take, if_pos (by omega), List.getElem?_drop, show 40 * (j / 40) + j % 40 = j by omega]
  exact hj
set_option maxRecDepth 100000 in
theorem mt_sg_0_0 : (mt_seg (mt_C.getD 0 []) 0).all (mt_okc 0) = true := by decide +kernel
set_option maxRecDepth 100000 in
theorem mt_sg_0_1 : (mt_seg (mt_C.getD 0 []) 1).all (mt_okc 0) = true := by decide +kernel
set_option maxRecDepth 100000 in
theorem mt_sg_1_0 : (mt_seg (mt_C.getD 1 []) 0).all (mt_okc 1) = true := by decide +kernel
set_option maxRecDepth 100000 in
theorem mt_sg_1_1 : (mt_seg (mt_C.getD 1 []) 1).all (mt_okc 1) = true := by decide +kernel
set_option maxRecDepth 100000 in
theorem mt_sg_2_0 : (mt_seg (mt_C.getD 2 []) 0).all (mt_okc 2) = true := by decide +kernel
set_option maxRecDepth 100000 in
theorem mt_sg_2_1 : (mt_seg (mt_C.getD 2 []) 1).all (mt_okc 2) = true := by decide +kernel
set_option maxRecDepth 100000 in
theorem mt_sg_3_0 : (mt_seg (mt_C.getD 3 []) 0).all (mt_okc 3) = true := by decide +kernel
set_option maxRecDepth 100000 in
theorem mt_sg_3_1 : (mt_seg (mt_C.getD 3 []) 1).all (mt_okc 3) = true := by decide +kernel
set_option maxRecDepth 100000 in
theorem mt_sg_4_0 : (mt_seg (mt_C.getD 4 []) 0).all (mt_okc 4) = true := by decide +kernel
set_option maxRecDepth 100000 in
theorem mt_sg_5_0 : (mt_seg (mt_C.getD 5 []) 0).all (mt_okc 5) = true := by decide +kernel
set_option maxRecDepth 100000 in
theorem mt_sg_6_0 : (mt_seg (mt_C.getD 6 []) 0).all (mt_okc 6) = true := by decide +kernel
set_option maxRecDepth 100000 in
theorem mt_sg_6_1 : (mt_seg (mt_C.getD 6 []) 1).all (mt_okc 6) = true := by decide +kernel
set_option maxRecDepth 100000 in
theorem mt_sg_6_2 : (mt_seg (mt_C.getD 6 []) 2).all (mt_okc 6) = true := by decide +kernel
set_option maxRecDepth 100000 in
theorem mt_sg_7_0 : (mt_seg (mt_C.getD 7 []) 0).all (mt_okc 7) = true := by decide +kernel
set_option maxRecDepth 100000 in
theorem mt_sg_8_0 : (mt_seg (mt_C.getD 8 []) 0).all (mt_okc 8) = true := by decide +kernel
set_option maxRecDepth 100000 in
theorem mt_sg_9_0 : (mt_seg (mt_C.getD 9 []) 0).all (mt_okc 9) = true := by decide +kernel
set_option maxRecDepth 100000 in
theorem mt_sg_10_0 : (mt_seg (mt_C.getD 10 []) 0).all (mt_okc 10) = true := by decide +kernel
set_option maxRecDepth 100000 in
theorem mt_sg_12_0 : (mt_seg (mt_C.getD 12 []) 0).all (mt_okc 12) = true := by decide +kernel
set_option maxRecDepth 100000 in
theorem mt_sg_13_0 : (mt_seg (mt_C.getD 13 []) 0).all (mt_okc 13) = true := by decide +kernel
set_option maxRecDepth 100000 in
theorem mt_sg_14_0 : (mt_seg (mt_C.getD 14 []) 0).all (mt_okc 14) = true := by decide +kernel
set_option maxRecDepth 100000 in
theorem mt_sg_15_0 : (mt_seg (mt_C.getD 15 []) 0).all (mt_okc 15) = true := by decide +kernel
set_option maxRecDepth 100000 in
theorem mt_sg_15_1 : (mt_seg (mt_C.getD 15 []) 1).all (mt_okc 15) = true := by decide +kernel
set_option maxRecDepth 100000 in
theorem mt_sg_15_2 : (mt_seg (mt_C.getD 15 []) 2).all (mt_okc 15) = true := by decide +kernel
set_option maxRecDepth 100000 in
theorem mt_sg_15_3 : (mt_seg (mt_C.getD 15 []) 3).all (mt_okc 15) = true := by decide +kernel
set_option maxRecDepth 100000 in
theorem mt_sg_16_0 : (mt_seg (mt_C.getD 16 []) 0).all (mt_okc 16) = true := by decide +kernel
set_option maxRecDepth 100000 in
theorem mt_sg_16_1 : (mt_seg (mt_C.getD 16 []) 1).all (mt_okc 16) = true := by decide +kernel
set_option maxRecDepth 100000 in
theorem mt_sg_17_0 : (mt_seg (mt_C.getD 17 []) 0).all (mt_okc 17) = true := by decide +kernel
theorem mt_sg_0 : (mt_C.getD 0 []).all (mt_okc 0) = true := mt_seg_of (k := 2) (by decide +kernel) fun i hi => match i, hi with
  | 0, _ => mt_sg_0_0
  | 1, _ => mt_sg_0_1
  | n + 2, h => absurd h (by omega)
theorem mt_sg_1 : (mt_C.getD 1 []).all (mt_okc 1) = true := mt_seg_of (k := 2) (by decide +kernel) fun i hi => match i, hi with
  | 0, _ => mt_sg_1_0
  | 1, _ => mt_sg_1_1
  | n + 2, h => absurd h (by omega)
theorem mt_sg_2 : (mt_C.getD 2 []).all (mt_okc 2) = true := mt_seg_of (k := 2) (by decide +kernel) fun i hi => match i, hi with
  | 0, _ => mt_sg_2_0
  | 1, _ => mt_sg_2_1
  | n + 2, h => absurd h (by omega)
theorem mt_sg_3 : (mt_C.getD 3 []).all (mt_okc 3) = true := mt_seg_of (k := 2) (by decide +kernel) fun i hi => match i, hi with
  | 0, _ => mt_sg_3_0
  | 1, _ => mt_sg_3_1
  | n + 2, h => absurd h (by omega)
theorem mt_sg_4 : (mt_C.getD 4 []).all (mt_okc 4) = true := mt_seg_of (k := 1) (by decide +kernel) fun i hi => match i, hi with
  | 0, _ => mt_sg_4_0
  | n + 1, h => absurd h (by omega)
theorem mt_sg_5 : (mt_C.getD 5 []).all (mt_okc 5) = true := mt_seg_of (k := 1) (by decide +kernel) fun i hi => match i, hi with
  | 0, _ => mt_sg_5_0
  | n + 1, h => absurd h (by omega)
theorem mt_sg_6 : (mt_C.getD 6 []).all (mt_okc 6) = true := mt_seg_of (k := 3) (by decide +kernel) fun i hi => match i, hi with
  | 0, _ => mt_sg_6_0
  | 1, _ => mt_sg_6_1
  | 2, _ => mt_sg_6_2
  | n + 3, h => absurd h (by omega)
theorem mt_sg_7 : (mt_C.getD 7 []).all (mt_okc 7) = true := mt_seg_of (k := 1) (by decide +kernel) fun i hi => match i, hi with
  | 0, _ => mt_sg_7_0
  | n + 1, h => absurd h (by omega)
theorem mt_sg_8 : (mt_C.getD 8 []).all (mt_okc 8) = true := mt_seg_of (k := 1) (by decide +kernel) fun i hi => match i, hi with
  | 0, _ => mt_sg_8_0
  | n + 1, h => absurd h (by omega)
theorem mt_sg_9 : (mt_C.getD 9 []).all (mt_okc 9) = true := mt_seg_of (k := 1) (by decide +kernel) fun i hi => match i, hi with
  | 0, _ => mt_sg_9_0
  | n + 1, h => absurd h (by omega)
theorem mt_sg_10 : (mt_C.getD 10 []).all (mt_okc 10) = true := mt_seg_of (k := 1) (by decide +kernel) fun i hi => match i, hi with
  | 0, _ => mt_sg_10_0
  | n + 1, h => absurd h (by omega)
theorem mt_sg_11 : (mt_C.getD 11 []).all (mt_okc 11) = true := by decide +kernel
theorem mt_sg_12 : (mt_C.getD 12 []).all (mt_okc 12) = true := mt_seg_of (k := 1) (by decide +kernel) fun i hi => match i, hi with
  | 0, _ => mt_sg_12_0
  | n + 1, h => absurd h (by omega)
theorem mt_sg_13 : (mt_C.getD 13 []).all (mt_okc 13) = true := mt_seg_of (k := 1) (by decide +kernel) fun i hi => match i, hi with
  | 0, _ => mt_sg_13_0
  | n + 1, h => absurd h (by omega)
theorem mt_sg_14 : (mt_C.getD 14 []).all (mt_okc 14) = true := mt_seg_of (k := 1) (by decide +kernel) fun i hi => match i, hi with
  | 0, _ => mt_sg_14_0
  | n + 1, h => absurd h (by omega)
theorem mt_sg_15 : (mt_C.getD 15 []).all (mt_okc 15) = true := mt_seg_of (k := 4) (by decide +kernel) fun i hi => match i, hi with
  | 0, _ => mt_sg_15_0
  | 1, _ => mt_sg_15_1
  | 2, _ => mt_sg_15_2
  | 3, _ => mt_sg_15_3
  | n + 4, h => absurd h (by omega)
theorem mt_sg_16 : (mt_C.getD 16 []).all (mt_okc 16) = true := mt_seg_of (k := 2) (by decide +kernel) fun i hi => match i, hi with
  | 0, _ => mt_sg_16_0
  | 1, _ => mt_sg_16_1
  | n + 2, h => absurd h (by omega)
theorem mt_sg_17 : (mt_C.getD 17 []).all (mt_okc 17) = true := mt_seg_of (k := 1) (by decide +kernel) fun i hi => match i, hi with
  | 0, _ => mt_sg_17_0
  | n + 1, h => absurd h (by omega)
theorem mt_okc_all : mt_all mt_C mt_okc = true := List.all_eq_true.mpr fun o ho => match o, ho with
  | 0, _ => mt_sg_0
  | 1, _ => mt_sg_1
  | 2, _ => mt_sg_2
  | 3, _ => mt_sg_3
  | 4, _ => mt_sg_4
  | 5, _ => mt_sg_5
  | 6, _ => mt_sg_6
  | 7, _ => mt_sg_7
  | 8, _ => mt_sg_8
  | 9, _ => mt_sg_9
  | 10, _ => mt_sg_10
  | 11, _ => mt_sg_11
  | 12, _ => mt_sg_12
  | 13, _ => mt_sg_13
  | 14, _ => mt_sg_14
  | 15, _ => mt_sg_15
  | 16, _ => mt_sg_16
  | 17, _ => mt_sg_17
  | n + 18, h => absurd (List.mem_range.mp h) (by rw [show mt_C.length = 18 by decide +kernel]; omega)
set_option maxRecDepth 100000 in
theorem mt_okc_79 : (mt_mem (.native arraycopyName) && mt_mem (.static arraycopyName) && mt_mem (.initialized "java/lang/System") && mt_mem (.instanceMethod Lib.objectInit)) = true := by decide +kernel
theorem mt_objc : Cond.code Lib.objectInit ⟨#[0xb1]⟩ 1 none ∈ mt_Ts := List.mem_append.mpr (Or.inr (List.mem_of_getElem? (i := 34) rfl))
def mt_okv (q : Nat × Nat × (Nat × Nat) × (Nat × Nat) × (Nat × Nat)) : Bool := decide ((mt_ch q.2.2.1.1)[q.2.2.1.2]? = some (.instantiable (mt_Nm q.1).cls q.2.1)) && decide ((mt_ch q.2.2.2.1.1)[q.2.2.2.1.2]? = some (.privateMethod (mt_Nm q.1))) && decide ((mt_ch q.2.2.2.2.1)[q.2.2.2.2.2]? = some (.instanceMethod (mt_Nm q.1))) && Nat.blt q.2.2.1.1 16 && Nat.blt q.2.2.2.1.1 16 && Nat.blt q.2.2.2.2.1 16 && mt_zin q.1
set_option maxRecDepth 100000 in
theorem mt_okv_all : mt_v.all mt_okv = true := by decide +kernel
def mt_is (t : Nat) (ty : FieldType) : Bool := decide (mt_L[t]? = some ty)
def mt_okr (o : Nat) (e : Nat × Nat × Nat × Nat × (Nat × Nat) × (Nat × Nat) × (Nat × Nat)) (ty : FieldType) : Bool :=
  if e.2.2.2.1 = 0 then mt_is e.2.1 (.array ty) && mt_is e.2.2.1 ty && mt_in e.2.2.2.2.2.1 (.arrayOver (.array ty)) && mt_in e.2.2.2.2.1 (.classLink (mt_own o) e.1 ("[" ++ (FieldType.array ty).toString))
  else mt_is e.2.1 (.array (.array ty)) && mt_is e.2.2.1 (.array ty) && mt_is e.2.2.2.1 ty && mt_in e.2.2.2.2.2.1 (.arrayOver (.array (.array ty))) && mt_in e.2.2.2.2.2.2 (.arrayOver (.array ty)) && mt_in e.2.2.2.2.1 (.classLink (mt_own o) e.1 ("[" ++ (FieldType.array (.array ty)).toString))
set_option maxRecDepth 100000 in
theorem mt_okr_all : mt_all mt_M (fun o e => mt_okr o e .int || mt_okr o e .byte) = true := by decide +kernel
set_option maxRecDepth 100000 in
theorem mt_okac : (mt_in mt_ac.1 (.arrayClass .int) && mt_in mt_ac.2.1 (.arrayClass .byte) && mt_in mt_ac.2.2 (.arrayClass .boolean) && mt_is 0 .int && mt_is 1 .byte && mt_is 2 .boolean) = true := by decide +kernel
def mt_okh (e : Nat × List (Nat × Nat × Nat × Nat)) : Bool := e.2.all fun h => Nat.blt 0 h.2.2.2 && mt_mem (.classLink (mt_Nm e.1).cls h.2.2.2 mv_ISE)
set_option maxRecDepth 100000 in
theorem mt_okh_all : mt_h.all mt_okh = true := by decide +kernel
set_option maxRecDepth 100000 in
theorem mt_okX : (Nat.blt mt_X mt_k.length && decide (mt_cn mt_X = mv_ISE) && Nat.beq (mt_fl mt_X).length 0) = true := by decide +kernel
set_option maxRecDepth 100000 in
theorem mt_okE_all : mt_E.all (fun e => Nat.blt e.2 mt_k.length && mt_is e.1 (.object (mt_cn e.2))) = true := by decide +kernel
end
section
/-! the tables are right, as the machine asks -/
def mt_Tg : List Jvm.Cond := mt_Ts.filter mt_stayb
theorem mt_g {w : Jvm.Cond} (h : w ∈ mt_Ts) (hs : mt_stayb w = true) : w ∈ mt_Tg := List.mem_filter.mpr ⟨h, hs⟩
theorem mt_stay_ac (t : FieldType) : mv_stay (.arrayClass t) := fun args a' s U hW h => by
  have h1 : (Cond.arrayClass t).before args (s.setVm U.vm) = true := Cond.before_shiftedFace (State.Shifted.of_warmed hW) _ rfl h
  exact h1
theorem mt_stay_de (t : MethodName) : mv_stay (.declares t) := fun args a' s U hW h => by
  have h1 : (Cond.declares t).before args (s.setVm U.vm) = true := Cond.before_shiftedFace (State.Shifted.of_warmed hW) _ rfl h
  exact h1
theorem mt_stay_ca (t u : String) : mv_stay (.castable t u) := fun args a' s U hW h => by
  have h1 : (Cond.castable t u).before args (s.setVm U.vm) = true := Cond.before_shiftedFace (State.Shifted.of_warmed hW) _ rfl h
  exact h1
theorem mt_stay_oa (t : FieldType) : mv_stay (.arrayOver (.array t)) := fun args a' s U hW h => over_moved hW.alike h
theorem mt_stay_oo (n : String) : mv_stay (.arrayOver (.object n)) := fun args a' s U hW h => by
  have hal := hW.alike
  obtain ⟨comp, c, k, hc, hi, hk, hkind, hn⟩ := Cond.arrayOver_spec h
  have e1 : U.vm.findClass n = some comp := by first | (rw [← hal.findClass]; exact hc) | (rw [hal.findClass]; exact hc)
  have e3 : U.vm.findClass ("[" ++ (FieldType.object n).toString) = some c := by first | (rw [← hal.findClass]; exact hn) | (rw [hal.findClass]; exact hn)
  have e2 : (U.vm.classes.findIdx? fun x => match x.kind with | .array component _ => component == comp | _ => false) = some c := by
    rw [hal.findIdx?_eq _ (fun _ => rfl)]; exact hi
  obtain ⟨k', hk', he⟩ := hal.2.2 _ _ hk
  have hkind' : k'.kind = .array comp (.object n) := by rw [he]; exact hkind
  simp only [Cond.before, Cond.holds, Cond.value, beq_iff_eq, e1, e2, hk', Option.bind_some, Option.map_some, hkind']
  simp [e3]
  refine Option.bind_eq_some_iff.mpr ⟨c, e2, ?_⟩
  simp [hk', hkind']
theorem mt_stay_H {w : Jvm.Cond} (h : (w.onTables && w.keepsH) = true) : mv_stay w := fun args a' s U hW hb => by
  simp only [Bool.and_eq_true] at h
  have h1 := Cond.onTables_warmH (T := U) (args' := a') hW h.1 h.2 hb
  rwa [State.setVm_self] at h1
theorem mt_stay_of {w : Jvm.Cond} (h : mt_stayb w = true) : mv_stay w := by
  unfold mt_stayb at h
  split at h
  · exact mt_stay_ac _
  · exact mt_stay_oo _
  · exact mt_stay_oa _
  · exact mt_stay_de _
  · exact mt_stay_ca _ _
  · exact mt_stay_H h
theorem mt_good : ∀ w ∈ mt_Tg, mv_stay w := fun w hw => mt_stay_of (List.mem_filter.mp hw).2
theorem mt_is_at {t : Nat} {ty : FieldType} (h : mt_is t ty = true) : mt_L[t]? = some ty := of_decide_eq_true h
theorem mt_gL_ok (n : Nat) (f : Nat → Int32) : mv_okL mt_L mt_Tg (mt_G n f) := by
  have h := mt_okac
  simp only [Bool.and_eq_true] at h
  obtain ⟨⟨⟨⟨⟨h1, h2⟩, h3⟩, h4⟩, h5⟩, h6⟩ := h
  exact ⟨mt_is_at h4, mt_is_at h5, mt_is_at h6, mt_g (mt_in_mem h1) rfl, mt_g (mt_in_mem h2) rfl, mt_g (mt_in_mem h3) rfl, fun t ty h => h⟩
theorem mt_lt {a b : Nat} (h : Nat.blt a b = true) : a < b := Nat.le_of_ble_eq_true h
theorem mt_gE_ok (n : Nat) (f : Nat → Int32) : mv_okE mt_cl mt_L (mt_G n f) := by
  intro t ci h
  have h : (mt_E.find? (fun e => Nat.beq e.1 t)).map (fun e => e.2) = some ci := h
  rw [Option.map_eq_some_iff] at h
  obtain ⟨e, h1, h2⟩ := h
  have h3 := List.all_eq_true.mp mt_okE_all e (List.mem_of_find?_eq_some h1)
  have h4 : e.1 = t := Nat.eq_of_beq_eq_true (List.find?_some (p := fun e : Nat × Nat => Nat.beq e.1 t) h1)
  rw [Bool.and_eq_true] at h3
  subst h2
  subst h4
  exact ⟨_, _, _, mt_cl_at (mt_lt h3.1), mt_is_at h3.2⟩
/-- a class's own rows -/
theorem mt_k_at {ci : Nat} (h : ci < mt_k.length) : ∃ q, mt_k[ci]? = some q ∧ mt_fl ci = q.2.2.1 ∧ mt_cn ci = mt_own q.1 := by
  obtain ⟨q, hq⟩ : ∃ q, mt_k[ci]? = some q := ⟨_, List.getElem?_eq_getElem h⟩
  refine ⟨q, hq, ?_, ?_⟩
  · unfold mt_fl
    rw [hq]
  · unfold mt_cn
    rw [hq]
theorem mt_T_at {ci k : Nat} {f : Nat × String × String × Bool × (Nat × Nat)} (h : (mt_fl ci)[k]? = some f) : mt_T ci k = (mt_own f.1, f.2.1, f.2.2.1, f.2.2.2.1) := by
  unfold mt_T
  rw [h]
theorem mt_kk {ci : Nat} (h : ci < mt_k.length) : mt_okk ci = true := List.all_eq_true.mp mt_okk_all ci (List.mem_range.mpr h)
theorem mt_okk_in {ci k : Nat} (h : ci < mt_k.length) {f : Nat × String × String × Bool × (Nat × Nat)} (hf : (mt_fl ci)[k]? = some f) : (∃ q, mt_k[ci]? = some q ∧ f.1 = q.1) ∧ mt_in f.2.2.2.2 (u_lay (mt_cn ci) (mt_T ci) k) = true ∧ (parseFieldDescriptor f.2.2.1).isSome = true := by
  obtain ⟨q, hq, hl, -⟩ := mt_k_at h
  have h1 := mt_kk h
  unfold mt_okk at h1
  rw [hq] at h1
  simp only [Bool.and_eq_true] at h1
  obtain ⟨⟨⟨⟨h1, -⟩, -⟩, -⟩, -⟩ := h1
  rw [hl] at hf
  have h2 := List.all_eq_true.mp h1 k (List.mem_range.mpr (List.getElem?_eq_some_iff.mp hf).1)
  rw [hf] at h2
  simp only [Bool.and_eq_true] at h2
  exact ⟨⟨q, hq, Nat.eq_of_beq_eq_true h2.1.1⟩, h2.1.2, h2.2⟩
theorem mt_lay_stay (C : String) (T : u_T) (k : Nat) : mt_stayb (u_lay C T k) = true := by
  unfold u_lay
  split <;> rfl
theorem mt_ws_in {ci : Nat} (h : ci < mt_k.length) : ∀ w ∈ u_ws (mt_cn ci) (mt_T ci) (mt_fl ci).length, w ∈ mt_Tg := by
  intro w hw
  obtain ⟨k, hk, rfl⟩ := List.mem_map.mp hw
  obtain ⟨f, hf⟩ : ∃ f, (mt_fl ci)[k]? = some f := ⟨_, List.getElem?_eq_getElem (List.mem_range.mp hk)⟩
  exact mt_g (mt_in_mem (mt_okk_in h hf).2.1) (mt_lay_stay _ _ _)
theorem mt_gC_ok (n : Nat) (f : Nat → Int32) {ci : Nat} (h : ci < mt_k.length) : mv_okC mt_cl mt_Tg (mt_G n f) ci := by
  have at_ : ∀ k, k < (mt_fl ci).length → ∃ g ty, (mt_fl ci)[k]? = some g ∧ parseFieldDescriptor g.2.2.1 = some ty ∧ mt_gT ci k = some ty := by
    intro k hk
    obtain ⟨g, hg⟩ : ∃ g, (mt_fl ci)[k]? = some g := ⟨_, List.getElem?_eq_getElem hk⟩
    obtain ⟨ty, hty⟩ := Option.isSome_iff_exists.mp (mt_okk_in h hg).2.2
    refine ⟨g, ty, hg, hty, ?_⟩
    unfold mt_gT
    rw [hg]
    exact hty
  refine ⟨_, _, _, fun k => (mt_gT ci k).getD .int, mt_cl_at h, mt_ws_in h, fun k hk => ?_, fun a ha b hb hab => ?_, fun k hk => ?_, fun k hk => ?_, fun j hj => ?_, fun ad => ?_⟩
  · obtain ⟨g, ty, h1, h2, h3⟩ := at_ k hk
    rw [mt_T_at h1]
    show parseFieldDescriptor g.2.2.1 = some ((mt_gT ci k).getD .int)
    rw [h3]
    exact h2
  · obtain ⟨q, hq, hl, -⟩ := mt_k_at h
    have h1 := mt_kk h
    unfold mt_okk at h1
    rw [hq] at h1
    simp only [Bool.and_eq_true] at h1
    obtain ⟨⟨⟨⟨-, h1⟩, -⟩, -⟩, -⟩ := h1
    have h1 := of_decide_eq_true h1
    obtain ⟨ga, tya, ha1, -⟩ := at_ a ha
    obtain ⟨gb, tyb, hb1, -⟩ := at_ b hb
    rw [mt_T_at ha1, mt_T_at hb1]
    intro e
    rw [hl] at ha1 hb1
    refine hab ((List.getElem_inj h1 (h₀ := by rw [List.length_map]; rw [hl] at ha; exact ha) (h₁ := by rw [List.length_map]; rw [hl] at hb; exact hb)).mp ?_)
    rw [List.getElem_map, List.getElem_map, (List.getElem?_eq_some_iff.mp ha1).2, (List.getElem?_eq_some_iff.mp hb1).2]
    exact e
  · obtain ⟨g, ty, h1, h2, h3⟩ := at_ k hk
    show mt_gT ci k = some ((mt_gT ci k).getD .int)
    rw [h3]
    rfl
  · obtain ⟨g, ty, h1, h2, h3⟩ := at_ k hk
    rw [mt_T_at h1]
    show (match (mt_fl ci)[k]? with | some f => f.2.2.2.1 | none => false) = _
    rw [h1]
  · obtain ⟨g, ty, h1, h2, h3⟩ := at_ j hj
    show defaultValue ((mt_gT ci j).getD .int) = (mt_gD ci).getD j .null
    rw [h3]
    unfold mt_gD
    rw [List.getD_eq_getElem?_getD, List.getElem?_map, h1]
    show _ = (match parseFieldDescriptor g.2.2.1 with | some ty => defaultValue ty | none => .null)
    rw [h2]
    rfl
  · obtain ⟨q, hq, hl, -⟩ := mt_k_at h
    have h1 := mt_kk h
    unfold mt_okk at h1
    rw [hq] at h1
    simp only [Bool.and_eq_true] at h1
    obtain ⟨-, h1⟩ := h1
    show (mt_gD ci).map (mv_v ad) = mt_gD ci
    conv => rhs; rw [← List.map_id (mt_gD ci)]
    apply List.map_congr_left
    intro v hv
    have h2 := List.all_eq_true.mp h1 v hv
    cases v <;> first | rfl | cases h2
end
section
/-! the tables are right, as the machine asks: the whole of it -/
theorem mt_F_ok {y idx ci k : Nat} {b : Bool} {hst : String} {p : Nat × Nat} (h : (idx, ci, k, b, hst, p) ∈ mt_F.getD (mt_oc y) []) : mv_okF mt_cl mt_Tg (mt_Nm y).cls idx ci k ∧ ci < mt_k.length ∧ ((mt_Nm y).cls = mt_cn ci → Cond.fieldLink (mt_Nm y).cls idx (mt_T ci k).1 (mt_T ci k).2.1 (mt_T ci k).2.2.1 ∈ mt_Tg) := by
  have h1 := mt_all_of mt_okf_all h
  unfold mt_okf at h1
  simp only [Bool.and_eq_true] at h1
  obtain ⟨⟨⟨h1, h2⟩, h3⟩, h4⟩ := h1
  have h1 := mt_lt h1
  rw [mt_cls]
  cases b with
  | true =>
    rw [if_pos rfl] at h3
    refine ⟨⟨_, _, _, mt_cl_at h1, mt_lt h2, mt_ws_in h1, Or.inr ⟨hst, mt_g (mt_in_mem h3) rfl⟩⟩, h1, fun e => ?_⟩
    simp [e] at h4
  | false =>
    rw [if_neg (by decide)] at h3
    have h5 := mt_g (mt_in_mem h3) rfl
    exact ⟨⟨_, _, _, mt_cl_at h1, mt_lt h2, mt_ws_in h1, Or.inl h5⟩, h1, fun _ => h5⟩
theorem mt_M_ok {z : Nat} (n : Nat) (f : Nat → Int32) (h : mt_zin z = true) : mv_okM mt_Nm mt_Cd mt_Tg (mt_G n f) z := by
  unfold mt_zin at h
  rw [Bool.and_eq_true] at h
  have h0 : z ∈ (List.range mt_m.length).drop 1 := by
    refine List.mem_of_getElem? (i := z - 1) ?_
    have := mt_lt h.1
    rw [List.getElem?_drop, show 1 + (z - 1) = z by omega, List.getElem?_range (mt_lt h.2)]
  have h1 := List.all_eq_true.mp mt_okm_all z h0
  have h2 := List.all_eq_true.mp mt_okp_all z h0
  unfold mt_okm at h1
  simp only [Bool.and_eq_true] at h1
  obtain ⟨⟨h1, h3⟩, h4⟩ := h1
  refine ⟨?_, h2, by simpa using h3, by simpa using h4⟩
  split at h1
  · rename_i hh
    refine Or.inl ⟨?_, hh⟩
    unfold mt_inC at h1
    split at h1
    · rename_i m' b' l' r' hw
      simp only [Bool.and_eq_true] at h1
      obtain ⟨⟨⟨e1, e2⟩, e3⟩, e4⟩ := h1
      have e1 := of_decide_eq_true e1
      have e2 := mt_beq_eq e2
      have e3 := Nat.eq_of_beq_eq_true e3
      have e4 := of_decide_eq_true e4
      subst e1 e2 e3 e4
      exact mt_g (mt_in_mem (q := (mt_inf z).2.2.1) (decide_eq_true hw)) rfl
    · cases h1
  · refine Or.inr ?_
    unfold mt_inH at h1
    split at h1
    · rename_i m' b' l' r' h' hw
      simp only [Bool.and_eq_true] at h1
      obtain ⟨⟨⟨⟨e1, e2⟩, e3⟩, e4⟩, e5⟩ := h1
      have e1 := of_decide_eq_true e1
      have e2 := mt_beq_eq e2
      have e3 := Nat.eq_of_beq_eq_true e3
      have e4 := of_decide_eq_true e4
      have e5 := of_decide_eq_true e5
      subst e1 e2 e3 e4 e5
      exact mt_g (mt_in_mem (q := (mt_inf z).2.2.1) (decide_eq_true hw)) rfl
    · cases h1
theorem mt_K_ok {y idx kd z n : Nat} {hst : String} {p : Nat × Nat} (h : mt_okl (mt_oc y) (idx, kd, z, n, hst, p) = true) : mv_okK mt_Tg (mt_Nm y).cls idx (mt_Nm z) := by
  unfold mt_okl at h
  rw [mt_cls]
  split at h
  · exact Or.inr ⟨hst, mt_g (mt_in_mem h) rfl⟩
  · exact Or.inl (mt_g (mt_in_mem h) rfl)
theorem mt_D_ok {z n : Nat} (h : mt_okd z n = true) : mv_okN (mt_Nm z) n := by
  intro sig hs
  unfold mt_okd at h
  rw [hs] at h
  exact Nat.eq_of_beq_eq_true h
theorem mt_pick3 {y idx kd z n : Nat} (h : (mt_pick mt_C y idx).map (fun e => (e.1, e.2.1, e.2.2.1)) = some (kd, z, n)) : ∃ (hst : String) (p : Nat × Nat), (idx, kd, z, n, hst, p) ∈ mt_C.getD (mt_oc y) [] := by
  rw [Option.map_eq_some_iff] at h
  obtain ⟨e, h1, h2⟩ := h
  obtain ⟨kd', z', n', hst, p⟩ := e
  cases h2
  exact ⟨hst, p, mt_pick_of h1⟩
theorem mt_calls {y idx kd z n0 : Nat} (n : Nat) (f : Nat → Int32) (h : (mt_pick mt_C y idx).map (fun e => (e.1, e.2.1, e.2.2.1)) = some (kd, z, n0)) : (kd = 0 ∨ kd = 1 → mv_okM mt_Nm mt_Cd mt_Tg (mt_G n f) z ∧ mv_okS mt_Nm mt_Tg (mt_Nm y).cls idx z n0) ∧ (kd = 2 ∨ kd = 3 → mv_okM mt_Nm mt_Cd mt_Tg (mt_G n f) z ∧ mv_okV mt_Nm mt_cl mt_Tg (mt_G n f) (mt_Nm y).cls idx z n0) ∧ (kd = 4 ∨ kd = 5 → mv_okM mt_Nm mt_Cd mt_Tg (mt_G n f) z ∧ mv_okI mt_Nm mt_Cd mt_Tg (mt_G n f) (mt_Nm y).cls idx z n0) := by
  obtain ⟨hst, p, hm⟩ := mt_pick3 h
  have h1 := mt_all_of mt_okc_all hm
  refine ⟨fun hk => ?_, fun hk => ?_, fun hk => ?_⟩
  · have h1 : mt_okc (mt_oc y) (idx, kd, z, n0, hst, p) = true := h1
    unfold mt_okc at h1
    rw [if_pos (show kd ≤ 1 by omega)] at h1
    simp only [Bool.and_eq_true] at h1
    obtain ⟨⟨⟨⟨a1, a2⟩, a3⟩, a4⟩, a5⟩ := h1
    exact ⟨mt_M_ok n f a1, mt_K_ok a2, mt_g (mt_in_mem a4) rfl, mt_g (mt_in_mem a5) rfl, mt_D_ok a3⟩
  · have h1 : mt_okc (mt_oc y) (idx, kd, z, n0, hst, p) = true := h1
    unfold mt_okc at h1
    rw [if_neg (show ¬ kd ≤ 1 by omega), if_pos (show kd ≤ 3 by omega)] at h1
    simp only [Bool.and_eq_true] at h1
    obtain ⟨⟨⟨⟨⟨⟨a1, a2⟩, a3⟩, a4⟩, a5⟩, a6⟩, a7⟩ := h1
    refine ⟨mt_M_ok n f a1, mt_K_ok a2, mt_g (mt_in_mem a4) rfl, mt_g (mt_in_mem a5) rfl, ?_, mt_D_ok a3⟩
    refine ⟨mt_T (mt_gW z), (mt_fl (mt_gW z)).length, ?_⟩
    rw [← of_decide_eq_true a7]
    exact mt_cl_at (mt_lt a6)
  · have h1 : mt_okc (mt_oc y) (idx, kd, z, n0, hst, p) = true := h1
    unfold mt_okc at h1
    rw [if_neg (show ¬ kd ≤ 1 by omega), if_neg (show ¬ kd ≤ 3 by omega), if_pos (show kd ≤ 5 by omega)] at h1
    simp only [Bool.and_eq_true] at h1
    obtain ⟨⟨⟨⟨⟨a1, a2⟩, a3⟩, a4⟩, a5⟩, a6⟩ := h1
    refine ⟨mt_M_ok n f a1, mt_K_ok a2, mt_g (mt_in_mem a4) rfl, of_decide_eq_true a5, ?_, mt_D_ok a3⟩
    unfold mt_inC at a6
    split at a6
    · rename_i m' b' l' r' hw
      simp only [Bool.and_eq_true] at a6
      obtain ⟨⟨⟨e1, e2⟩, e3⟩, e4⟩ := a6
      have e1 := of_decide_eq_true e1
      have e2 := mt_beq_eq e2
      have e3 := Nat.eq_of_beq_eq_true e3
      have e4 := of_decide_eq_true e4
      subst e1 e2 e3 e4
      exact mt_g (mt_in_mem (q := (mt_inf z).2.2.1) (decide_eq_true hw)) rfl
    · cases a6
theorem mt_N8_ok (n : Nat) (f : Nat → Int32) : mv_okN8 mt_Nm mt_cl mt_Tg mt_Us (mt_G n f) := by
  intro y idx kd z n0 h
  obtain ⟨hst, p, hm⟩ := mt_pick3 h
  have h1 : mt_okc (mt_oc y) (idx, kd, z, n0, hst, p) = true := mt_all_of mt_okc_all hm
  have h8 : mt_ok8 (mt_oc y) (idx, kd, z, n0, hst, p) = true := mt_all_of mt_ok8_all hm
  have h79 := mt_okc_79
  simp only [Bool.and_eq_true] at h79
  obtain ⟨⟨⟨p1, p2⟩, p3⟩, p4⟩ := h79
  refine ⟨fun hk => ?_, fun hk => ?_, fun hk => ?_⟩
  · subst hk
    unfold mv_okM7
    rw [mt_cls]
    exact ⟨mt_g (mt_in_mem h1) rfl, mt_g (mt_mem_mem p1) rfl, mt_g (mt_mem_mem p2) rfl, mt_g (mt_mem_mem p3) rfl⟩
  · subst hk
    have hX := mt_okX
    simp only [Bool.and_eq_true] at hX
    obtain ⟨⟨x1, x2⟩, x3⟩ := hX
    refine ⟨⟨mt_T mt_X, ?_⟩, ?_⟩
    · have e1 := mt_cl_at (mt_lt x1)
      rw [of_decide_eq_true x2, Nat.eq_of_beq_eq_true x3] at e1
      exact e1
    · rw [mt_cls]
      intro w hw
      unfold mt_ok8 at h8
      rw [Bool.or_eq_true] at h8
      rcases h8 with h8 | h8
      · cases h8
      have h9 := List.all_eq_true.mp h8 w hw
      rw [Bool.or_eq_true] at h9
      rcases h9 with h9 | h9
      · rw [Bool.and_eq_true] at h9
        exact Or.inl (mt_g (mt_mem_mem h9.1) h9.2)
      · exact Or.inr (of_decide_eq_true h9)
  · subst hk
    unfold mv_okM9
    rw [mt_cls]
    exact ⟨mt_g (mt_in_mem h1) rfl, mt_g (mt_mem_mem p4) rfl, mt_g mt_objc rfl⟩
theorem mt_hand_of : ∀ (l : List (Nat × Nat × Nat × Nat)) (pc h ct : Nat), mv_hand l pc = some (h, ct) → ∃ e ∈ l, e.2.2.2 = ct
  | [], _, _, _, q => by cases q
  | (a, b, c, d) :: r, pc, h, ct, q => by
    unfold mv_hand at q
    split at q
    · cases q
      exact ⟨_, List.mem_cons_self, rfl⟩
    · obtain ⟨e, h1, h2⟩ := mt_hand_of r pc h ct q
      exact ⟨e, List.mem_cons_of_mem _ h1, h2⟩
theorem mt_G_ok (n : Nat) (f : Nat → Int32) : mv_okG mt_Nm mt_Cd mt_cl mt_L mt_Tg (mt_G n f) := by
  refine ⟨?_, ?_, ?_, ?_, ?_, ?_, fun y idx kd z n0 h => mt_calls n f h, ?_⟩
  · intro y pc i len h
    have h : (match decode (mt_Cd y) pc with | .ok q => some q | .error _ => none) = some (i, len) := h
    split at h
    · rename_i q hq
      cases h
      exact hq
    · cases h
  · intro y idx ci0 k0 h
    have h : (mt_pick mt_F y idx).map (fun e => (e.1, e.2.1)) = some (ci0, k0) := h
    rw [Option.map_eq_some_iff] at h
    obtain ⟨⟨ci, k, b, hst, p⟩, h1, h2⟩ := h
    cases h2
    obtain ⟨g1, g2, g3⟩ := mt_F_ok (mt_pick_of h1)
    refine ⟨g1, mt_gC_ok n f g2, fun hp hq => ?_⟩
    obtain ⟨q, hq1, hq2, hq3⟩ := mt_k_at g2
    have hQ : (match mt_m[y]?, mt_k[ci]? with | some q, some c => Nat.beq q.1 c.1 && decide (q.2.1 = "<init>") | _, _ => false) = true := hq
    rw [hq1] at hQ
    split at hQ
    · rename_i m0 c0 hm hc
      cases hc
      rw [Bool.and_eq_true] at hQ
      have e1 : (mt_Nm y).cls = mt_cn ci := by
        unfold mt_Nm
        rw [hm, hq3]
        show mt_own m0.1 = mt_own q.1
        rw [Nat.eq_of_beq_eq_true hQ.1]
      have e2 : (mt_Nm y).name = "<init>" := by
        unfold mt_Nm
        rw [hm]
        exact of_decide_eq_true hQ.2
      obtain ⟨C, T, N, c1, c2, -⟩ := g1
      obtain ⟨-, hr⟩ := mt_cl_of c1
      cases hr
      refine ⟨_, _, _, c1, ?_, g3 e1, e2⟩
      obtain ⟨fl, hfl⟩ : ∃ fl, (mt_fl ci)[k]? = some fl := ⟨_, List.getElem?_eq_getElem c2⟩
      obtain ⟨⟨q', hq', ho⟩, -⟩ := mt_okk_in g2 hfl
      rw [hq1] at hq'
      cases hq'
      rw [mt_T_at hfl, e1, hq3, ho]
    · cases hQ
  · intro y idx ci0 h
    have h : (mt_pick mt_N y idx).map (fun e => e.1) = some ci0 := h
    rw [Option.map_eq_some_iff] at h
    obtain ⟨⟨ci, p⟩, h1, h2⟩ := h
    cases h2
    have h3 := mt_all_of mt_okn_all (mt_pick_of h1)
    unfold mt_okn at h3
    rw [Bool.and_eq_true] at h3
    have hlt := mt_lt h3.1
    refine ⟨mt_gC_ok n f hlt, fun C T N hc => ?_⟩
    obtain ⟨-, hr⟩ := mt_cl_of hc
    cases hr
    obtain ⟨q, hq1, hq2, hq3⟩ := mt_k_at hlt
    have h5 := mt_kk hlt
    unfold mt_okk at h5
    rw [hq1] at h5
    simp only [Bool.and_eq_true] at h5
    obtain ⟨⟨⟨-, h5⟩, h6⟩, -⟩ := h5
    refine ⟨?_, ?_, mt_g (mt_in_mem h6) rfl⟩
    · rw [mt_cls]
      exact mt_g (mt_in_mem h3.2) rfl
    · show Cond.instantiable _ (match mt_k[ci]? with | some q => q.2.1 | none => 0) ∈ mt_Tg
      rw [hq1]
      exact mt_g (mt_in_mem h5) rfl
  · intro y idx t0 h
    have h : (mt_pick mt_A y idx).map (fun e => e.1) = some t0 := h
    rw [Option.map_eq_some_iff] at h
    obtain ⟨⟨t, p1, p2⟩, h1, h2⟩ := h
    cases h2
    have h3 := mt_all_of mt_oka_all (mt_pick_of h1)
    unfold mt_oka at h3
    split at h3
    · rename_i C hC
      rw [Bool.and_eq_true] at h3
      refine Or.inl ⟨C, hC, ?_, mt_g (mt_in_mem h3.2) rfl⟩
      rw [mt_cls]
      exact mt_g (mt_in_mem h3.1) rfl
    · rename_i ty hC
      rw [Bool.and_eq_true] at h3
      refine Or.inr ⟨ty, hC, ?_, mt_g (mt_in_mem h3.2) rfl⟩
      rw [mt_cls]
      exact mt_g (mt_in_mem h3.1) rfl
    · cases h3
  · intro y idx v h
    have h : (match mt_pick mt_K y idx with | some e => some (Value.int (Int32.ofInt e.1)) | none => (mt_pick mt_U y idx).map fun e => Value.ref (mv_big + 1 + e.1)) = some (.int v) := h
    split at h
    · rename_i e he
      cases h
      have h3 := mt_all_of mt_oki_all (mt_pick_of he)
      unfold mt_oki at h3
      rw [mt_cls]
      exact mt_g (mt_in_mem h3) rfl
    · rw [Option.map_eq_some_iff] at h
      obtain ⟨e, -, he⟩ := h
      cases he
  · intro y idx a b c h
    have h : (mt_pick mt_M y idx).map (fun e => (e.1, e.2.1, e.2.2.1)) = some (a, b, c) := h
    rw [Option.map_eq_some_iff] at h
    obtain ⟨⟨t, t1, t2, p1, p2, p3⟩, h1, h2⟩ := h
    cases h2
    have h3 := mt_all_of mt_okr_all (mt_pick_of h1)
    rw [Bool.or_eq_true] at h3
    have hac := mt_okac
    simp only [Bool.and_eq_true] at hac
    obtain ⟨⟨⟨⟨⟨k1, k2⟩, k3⟩, k4⟩, k5⟩, k6⟩ := hac
    have key : ∀ ty : FieldType, (ty = .int ∨ ty = .byte) → Cond.arrayClass ty ∈ mt_Tg → mt_okr (mt_oc y) (idx, t, t1, t2, p1, p2, p3) ty = true → mv_okGr mt_L mt_Tg (mt_Nm y).cls idx t t1 t2 := by
      intro ty hty hac h3
      refine ⟨ty, hty, hac, ?_⟩
      rw [mt_cls]
      unfold mt_okr at h3
      split at h3
      · rename_i hz
        simp only [Bool.and_eq_true] at h3
        obtain ⟨⟨⟨b1, b2⟩, b3⟩, b4⟩ := h3
        exact Or.inl ⟨hz, mt_is_at b1, mt_is_at b2, mt_g (mt_in_mem b3) rfl, mt_g (mt_in_mem b4) rfl⟩
      · rename_i hz
        simp only [Bool.and_eq_true] at h3
        obtain ⟨⟨⟨⟨⟨b1, b2⟩, b3⟩, b4⟩, b5⟩, b6⟩ := h3
        exact Or.inr ⟨Nat.pos_of_ne_zero hz, mt_is_at b1, mt_is_at b2, mt_is_at b3, mt_g (mt_in_mem b4) rfl, mt_g (mt_in_mem b5) rfl, mt_g (mt_in_mem b6) rfl⟩
    rcases h3 with h3 | h3
    · exact key .int (Or.inl rfl) (mt_g (mt_in_mem k1) rfl) h3
    · exact key .byte (Or.inr rfl) (mt_g (mt_in_mem k2) rfl) h3
  · intro y pc h ct hq
    have hq : mv_hand (mt_gH y) pc = some (h, ct) := hq
    obtain ⟨e, he, hct⟩ := mt_hand_of _ _ _ _ hq
    have hX := mt_okX
    simp only [Bool.and_eq_true] at hX
    obtain ⟨⟨x1, x2⟩, x3⟩ := hX
    unfold mt_gH at he
    split at he
    · rename_i z hz
      have hzy : z.1 = y := Nat.eq_of_beq_eq_true (List.find?_some (p := fun e : Nat × List (Nat × Nat × Nat × Nat) => Nat.beq e.1 y) hz)
      have h2 := List.all_eq_true.mp mt_okh_all z (List.mem_of_find?_eq_some hz)
      have h3 := List.all_eq_true.mp h2 e he
      rw [Bool.and_eq_true, hct, hzy] at h3
      refine ⟨Nat.pos_iff_ne_zero.mp (mt_lt h3.1), _, _, _, mt_cl_at (mt_lt x1), ?_⟩
      show Cond.classLink (mt_Nm y).cls ct (mt_cn mt_X) ∈ mt_Tg
      rw [of_decide_eq_true x2]
      exact mt_g (mt_mem_mem h3.2) rfl
    · exact absurd he List.not_mem_nil
end
section
/-! the law's start: what the tables' words give of the first state -/
theorem mt_str {own tx : String} {k : Nat} {A : Array Value} {s : State} (h : (Cond.stringRef own k tx).before A s = true) : ∃ a, vk_R own k tx a s := by
  have h1 := h
  simp only [Cond.before, Cond.holds, Cond.value, beq_iff_eq] at h1
  rw [Option.map_eq_some_iff] at h1
  obtain ⟨c0, -, h1⟩ := h1
  rw [Bool.and_eq_true] at h1
  obtain ⟨-, h1⟩ := h1
  cases hr : s.resolvedAt? own k with
  | none => rw [hr] at h1; cases h1
  | some r =>
    rw [hr] at h1
    cases r with
    | string a =>
      refine ⟨a, vk_R.of (A := A) h ?_⟩
      simp only [Term.eval]
      simp only [State.resolvedAt?] at hr
      cases hc : s.vm.findClass own with
      | none => rw [hc] at hr; cases hr
      | some c =>
        rw [hc] at hr
        cases hk : s.vm.classes[c]? with
        | none => simp [hk] at hr
        | some kk =>
          simp [hk] at hr ⊢
          rw [hr]
          rfl
    | _ => cases h1
theorem mt_kept_ls {o n d : String} {A : Array Value} {s : State} (h : (Cond.laysStatic o n d).before A s = true) : mv_kept s.heap.size (.laysStatic o n d) s := by
  intro args' s' hW hh
  have h1 : (Cond.laysStatic o n d).before A (s.setVm s'.vm) = true := Cond.before_shiftedFace (State.Shifted.of_warmed hW) _ rfl h
  have e1 : (s.setVm s'.vm).fieldFound? o n d = s'.fieldFound? o n d := rfl
  simp only [Cond.before, Cond.holds, Cond.value, beq_iff_eq, State.vm_setVm, e1] at h1 ⊢
  cases hc : s'.vm.findClass o with
  | none => rw [hc] at h1; cases h1
  | some c =>
    cases hf : s'.fieldFound? o n d with
    | none => rw [hc, hf] at h1; cases h1
    | some q =>
      obtain ⟨c', k, i, f⟩ := q
      rw [hc, hf] at h1
      dsimp only at h1 ⊢
      rw [Option.map_eq_some_iff] at h1
      obtain ⟨cell, h2, h3⟩ := h1
      rw [Option.bind_eq_some_iff] at h2
      obtain ⟨a, h4, h5⟩ := h2
      have h5 : s.heap[a]? = some cell := h5
      rw [Option.map_eq_some_iff]
      refine ⟨cell, ?_, h3⟩
      rw [Option.bind_eq_some_iff]
      exact ⟨a, h4, by rw [hh a (Array.getElem?_eq_some_iff.mp h5).1]; exact h5⟩
theorem mt_kept_ir {o n d : String} {A : Array Value} {s : State} (h : (Cond.isRef (.static o n d)).before A s = true) : mv_kept s.heap.size (.isRef (.static o n d)) s := by
  intro args' s' hW hh
  have h1 : (Cond.isRef (.static o n d)).before A (s.setVm s'.vm) = true := Cond.before_shiftedFace (State.Shifted.of_warmed hW) _ rfl h
  have e1 : (s.setVm s'.vm).fieldNamed? o n d true = s'.fieldNamed? o n d true := rfl
  simp only [Cond.before, Cond.holds, Cond.value, beq_iff_eq, Term.eval, e1] at h1 ⊢
  cases hf : s'.fieldNamed? o n d true with
  | none => rw [hf] at h1; cases h1
  | some q =>
    obtain ⟨c', k, i⟩ := q
    rw [hf] at h1
    simp only [Option.bind_eq_bind, Option.bind_some] at h1 ⊢
    cases hs : k.statics with
    | none => rw [hs] at h1; cases h1
    | some a =>
      rw [hs] at h1
      simp only [Option.bind_some] at h1 ⊢
      have e2 : (s.setVm s'.vm).heap[a]? = s.heap[a]? := rfl
      rw [e2] at h1
      cases hc : s.heap[a]? with
      | none => rw [hc] at h1; cases h1
      | some cell =>
        rw [hc] at h1
        rw [hh a (Array.getElem?_eq_some_iff.mp hc).1, hc]
        exact h1
/-- the classes are known -/
theorem mt_known {s : State} {args : Array Value} (hts : ∀ w ∈ mt_Tg, w.before args s = true) : ∃ D : va_G, ∀ (c : Nat) (q : vw_C), mt_cl[c]? = some q → u_Kn s q.1 q.2.1 q.2.2 (D.1 c) (D.2 c) := by
  have h : ∀ c, ∃ (cC : ClassId) (iS : Nat → Nat), c < mt_k.length → u_Kn s (mt_cn c) (mt_T c) (mt_fl c).length cC iS := by
    intro c
    by_cases hc : c < mt_k.length
    · obtain ⟨q, hq1, hq2, hq3⟩ := mt_k_at hc
      have h5 := mt_kk hc
      unfold mt_okk at h5
      rw [hq1] at h5
      simp only [Bool.and_eq_true] at h5
      obtain ⟨⟨⟨-, h5⟩, -⟩, -⟩ := h5
      obtain ⟨cC, iS, h6⟩ := u_known hts (mt_ws_in hc) (hts _ (mt_g (mt_in_mem h5) rfl))
      exact ⟨cC, iS, fun _ => h6⟩
    · exact ⟨0, fun _ => 0, fun h => absurd h hc⟩
  refine ⟨(fun c => Classical.choose (h c), fun c => Classical.choose (Classical.choose_spec (h c))), fun c q hq => ?_⟩
  obtain ⟨h1, h2⟩ := mt_cl_of hq
  subst h2
  exact Classical.choose_spec (Classical.choose_spec (h c)) h1
def mt_okLb : FieldType → Bool
  | .int => mt_mem (.arrayClass .int)
  | .byte => mt_mem (.arrayClass .byte)
  | .boolean => mt_mem (.arrayClass .boolean)
  | .object C => mt_mem (.arrayOver (.object C))
  | .array t => mt_mem (.arrayOver (.array t))
  | _ => false
set_option maxRecDepth 100000 in
theorem mt_okL_all : mt_L.all mt_okLb = true := by decide +kernel
theorem mt_arr {s : State} {args : Array Value} (hts : ∀ w ∈ mt_Tg, w.before args s = true) {ty : FieldType} (h : mt_okLb ty = true) : ∃ cA : ClassId, ArrOfT s cA ty ∧ va_RA s cA ty := by
  have prim : ∀ ty : FieldType, (∀ cA, va_RA s cA ty ↔ s.vm.findClass ("[" ++ ty.toString) = some cA) → mt_mem (.arrayClass ty) = true → ∃ cA : ClassId, ArrOfT s cA ty ∧ va_RA s cA ty := by
    intro ty hR hm
    obtain ⟨cA, kA, comp, h1, h2, h3⟩ := Cond.arrayClass_spec (hts _ (mt_g (mt_mem_mem hm) rfl))
    exact ⟨cA, fun n z => ⟨fun k h => (by cases h), kA, h2, comp, h3⟩, (hR cA).mpr h1⟩
  unfold mt_okLb at h
  split at h
  · exact prim _ (fun _ => Iff.rfl) h
  · exact prim _ (fun _ => Iff.rfl) h
  · exact prim _ (fun _ => Iff.rfl) h
  · obtain ⟨comp, c, k, hc, hi, hk, hkind, hn⟩ := Cond.arrayOver_spec (hts _ (mt_g (mt_mem_mem h) rfl))
    exact ⟨c, fun n z => ⟨fun k h => (by cases h), k, hk, comp, hkind⟩, k, comp, hk, hkind, hc, hn⟩
  · obtain ⟨comp, c, k, hc, hi, hk, hkind, hn⟩ := arrayOverA_spec (hts _ (mt_g (mt_mem_mem h) rfl))
    exact ⟨c, fun n z => ⟨fun k h => (by cases h), k, hk, comp, hkind⟩, hn⟩
  · cases h
theorem mt_arrs {s : State} {args : Array Value} (hts : ∀ w ∈ mt_Tg, w.before args s = true) : ∃ dA : Nat → Nat, ∀ (k : Nat) (q : ClassId × FieldType), (mv_tys dA mt_L)[k]? = some q → ArrOfT s q.1 q.2 ∧ va_RA s q.1 q.2 := by
  have h : ∀ t : Nat, ∃ cA : ClassId, ∀ ty, mt_L[t]? = some ty → ArrOfT s cA ty ∧ va_RA s cA ty := by
    intro t
    cases ht : mt_L[t]? with
    | none => exact ⟨0, fun ty h => by cases h⟩
    | some ty =>
      obtain ⟨cA, h1⟩ := mt_arr hts (List.all_eq_true.mp mt_okL_all ty (List.mem_of_getElem? ht))
      exact ⟨cA, fun ty' h => by cases h; exact h1⟩
  refine ⟨fun t => Classical.choose (h t), fun k q hq => ?_⟩
  have h1 := List.mem_of_getElem? hq
  unfold mv_tys at h1
  obtain ⟨t, -, h2⟩ := List.mem_filterMap.mp h1
  rw [Option.map_eq_some_iff] at h2
  obtain ⟨ty, h3, h4⟩ := h2
  subst h4
  exact Classical.choose_spec (h t) ty h3
def mt_uj (j : Nat) : Option (Nat × Nat × String) := (List.range mt_U.length).findSome? fun o => ((mt_U.getD o []).find? (fun e => Nat.beq e.2.1 j)).map fun e => (o, e.1, e.2.2.1)
set_option maxRecDepth 100000 in
theorem mt_oku_all : mt_all mt_U (fun o e => decide (mt_uj e.2.1 = some (o, e.1, e.2.2.1)) && mt_in e.2.2.2 (.stringRef (mt_own o) e.1 e.2.2.1)) = true := by decide +kernel
theorem mt_strs {s : State} {args : Array Value} (hts : ∀ w ∈ mt_Ts, w.before args s = true) : ∃ ka : Nat → Nat, ∀ (o : Nat) (e : Nat × Nat × String × (Nat × Nat)), e ∈ mt_U.getD o [] → vk_R (mt_own o) e.1 e.2.2.1 (ka e.2.1) s := by
  have h : ∀ j : Nat, ∃ a : Nat, ∀ (o : Nat) (e : Nat × Nat × String × (Nat × Nat)), e ∈ mt_U.getD o [] → e.2.1 = j → vk_R (mt_own o) e.1 e.2.2.1 a s := by
    intro j
    cases hj : mt_uj j with
    | none => exact ⟨0, fun o e he hj' => by
        have h1 := mt_all_of mt_oku_all he
        rw [Bool.and_eq_true] at h1
        have h2 := of_decide_eq_true h1.1
        rw [hj', hj] at h2
        cases h2⟩
    | some q =>
      by_cases hx : ∃ (o : Nat) (e : Nat × Nat × String × (Nat × Nat)), e ∈ mt_U.getD o [] ∧ e.2.1 = j
      · obtain ⟨o, e, he, hje⟩ := hx
        have h1 := mt_all_of mt_oku_all he
        rw [Bool.and_eq_true] at h1
        obtain ⟨a, ha⟩ := mt_str (hts _ (mt_in_mem h1.2))
        refine ⟨a, fun o' e' he' hj' => ?_⟩
        have h1' := mt_all_of mt_oku_all he'
        rw [Bool.and_eq_true] at h1'
        have h2 := of_decide_eq_true h1.1
        have h2' := of_decide_eq_true h1'.1
        rw [hje] at h2
        rw [hj', h2] at h2'
        have h3 := Option.some.inj h2'
        have h4 : o = o' := congrArg (fun q => q.1) h3
        have h5 : e.1 = e'.1 := congrArg (fun q => q.2.1) h3
        have h6 : e.2.2.1 = e'.2.2.1 := congrArg (fun q => q.2.2) h3
        rw [← h4, ← h5, ← h6]
        exact ha
      · exact ⟨0, fun o e he hje => absurd ⟨o, e, he, hje⟩ hx⟩
  exact ⟨fun j => Classical.choose (h j), fun o e he => Classical.choose_spec (h e.2.1) o e he rfl⟩
/-- the constants of text, by their pointers -/
theorem mt_T_ok {n : Nat} {f : Nat → Int32} {s : State} {b : Nat} {ka : Nat → Nat} (h : ∀ (o : Nat) (e : Nat × Nat × String × (Nat × Nat)), e ∈ mt_U.getD o [] → vk_R (mt_own o) e.1 e.2.2.1 (ka e.2.1) s) (z : Nat) : mv_okT mt_Nm (mt_G n f) (fun q => if q = 0 then b else ka (q - 1)) s z := by
  intro idx a ha
  have ha : (match mt_pick mt_K z idx with | some e => some (Value.int (Int32.ofInt e.1)) | none => (mt_pick mt_U z idx).map fun e => Value.ref (mv_big + 1 + e.1)) = some (.ref a) := ha
  split at ha
  · cases ha
  · rw [Option.map_eq_some_iff] at ha
    obtain ⟨⟨j, tx, p⟩, h1, h2⟩ := ha
    have h2 : mv_big + 1 + j = a := Value.ref.inj h2
    subst h2
    have h3 := h _ _ (mt_pick_of h1)
    have e1 : mv_big + 1 + j - mv_big = j + 1 := by omega
    refine ⟨by omega, tx, ?_⟩
    rw [mt_cls, e1]
    exact h3
end
section
/-! the claim, out of the small machine's run of the law -/
theorem mt_ch_t1 {j i : Nat} {w : Jvm.Cond} (hj : j < 16) (h : (mt_ch j)[i]? = some w) : w ∈ tables_1 := by
  have h1 : w ∈ mt_ch j := List.mem_of_getElem? h
  have h2 : w ∈ mt_ch j → w ∈ tables_1 := by
    unfold mt_ch tables_1
    split <;> intro h <;> first | (exact absurd h List.not_mem_nil) | (exact absurd hj (by decide)) | simp only [List.mem_append, h, true_or, or_true]
  exact h2 h1
theorem mt_pv_ok : ∀ q ∈ mt_pv, (q.1.cls ≠ "java/lang/invoke/MethodHandle" ∧ q.1.cls ≠ "java/lang/invoke/VarHandle") ∧ Cond.instantiable q.1.cls q.2 ∈ tables_1 ∧ Cond.privateMethod q.1 ∈ tables_1 ∧ Cond.instanceMethod q.1 ∈ tables_1 := by
  intro q hq
  obtain ⟨v, hv, rfl⟩ := List.mem_map.mp hq
  have h := List.all_eq_true.mp mt_okv_all v hv
  unfold mt_okv at h
  simp only [Bool.and_eq_true] at h
  obtain ⟨⟨⟨⟨⟨⟨h1, h2⟩, h3⟩, h4⟩, h5⟩, h6⟩, h7⟩ := h
  exact ⟨(mt_M_ok 0 (fun _ => 0) h7).2.2, mt_ch_t1 (mt_lt h4) (of_decide_eq_true h1), mt_ch_t1 (mt_lt h5) (of_decide_eq_true h2), mt_ch_t1 (mt_lt h6) (of_decide_eq_true h3)⟩
def R_law : String := "RefactorHouseLaw"
def lw_P (b : Addr) (xs : List Int32) (args : Array Value) (s : State) : Prop := args = #[.ref b] ∧ s.IntsAt b xs ∧ xs.length ≤ 3072 ∧ (Jvm.Cond.and given_1 narrow_1).before args s = true
def lw_Q (_ : Array Value) (s : State) (o : Outcome) (t : State) : Prop := o = .returned (some (.int 1)) ∧ Framed s o t [] 601024 7293034
def lw_Z (below : List Frame) (a : Array Value) (s : State) : State → Prop := fun t => ∃ o, t.status = .running ∧ Ended t below o ∧ lw_Q a s o t
def lw_At (p : Program) (e : Env) (s : State) (m : MethodId) (meth : Method) (c : Code) (b L : Nat) (xs : Nat → Int32) : Prop :=
  p.tables.exec = Jvm.exec ∧ c.code = code ∧ meth.sig.returnType = ret ∧ c.maxLocals = 4 ∧ s.vm.findClass R_law = some m.cls ∧ (∀ w ∈ mt_Ts, w.before #[Value.ref b] s = true) ∧ va_X b L xs s s.heap ∧ b < s.heap.size ∧ meth.locks = false ∧ (Jvm.Cond.and given_1 narrow_1).before #[Value.ref b] s = true ∧ e.platform.stackTraces = false ∧ c.exceptionTable.toList = [] ∧ meth.name = "law"
/-- where the small machine stands at the law's entry -/
def mt_S0 : mv_S := (0, [(0, .ref mv_big)], [], [], 601024, 7293034)
/-- the small machine's run of the law over the script ends with true -/
def mt_true (L : Nat) (xs : Nat → Int32) : Prop := ∃ (n : Nat) (hp : List va_E) (cb sb : Nat), mv_run (mt_G L xs) n 0 2048 84000 mt_S0 = some (.inr (some (.int 1)), hp, cb, sb)
set_option maxRecDepth 100000 in
theorem mt_law0 : (mt_inf 0).1 = 4 ∧ (mt_inf 0).2.1 = some .boolean ∧ mt_gH 0 = [] ∧ mt_Nm 0 = ⟨"RefactorHouseLaw", "law", "([I)Z"⟩ := by decide +kernel
theorem mt_start {p : Program} {e : Env} {s : State} {m : MethodId} {below : List Frame} {meth : Method} {c : Code} (l : Launch) {b L : Nat} {xs : Nat → Int32} (hrun : mt_true L xs) (C0 : lw_At p e s m meth c b L xs) : W p l e room_1 s m #[Value.ref b] below meth c s.heap [] 0 0 (lw_Z below #[Value.ref b] s) (entryFrame m ([Value.ref b] : List Value).toArray 4) := by
  obtain ⟨hx, hb, hret, hml, hown, hts, hX, hbl, hlocks, hgv, htr, hex, hname⟩ := C0
  obtain ⟨n, hp, cb, sb, hrun⟩ := hrun
  obtain ⟨q1, q2, q3, q4⟩ := mt_law0
  have htg : ∀ w ∈ mt_Tg, w.before #[Value.ref b] s = true := fun w hw => hts w (List.mem_filter.mp hw).1
  obtain ⟨D, hD⟩ := mt_known htg
  obtain ⟨dA, hA⟩ := mt_arrs htg
  obtain ⟨ka, hka⟩ := mt_strs hts
  obtain ⟨kt, hkt⟩ : ∃ kt : Nat → Nat, kt = fun q => if q = 0 then b else ka (q - 1) := ⟨_, rfl⟩
  have hflat := flat_of_before _ hgv
  have hls : ∀ {o n d : String}, Cond.laysStatic o n d ∈ tables_1 → mv_kept s.heap.size (.laysStatic o n d) s := fun hm => mt_kept_ls (hts _ (List.mem_append.mpr (Or.inr hm)))
  have hus : ∀ w ∈ mt_Us, mv_kept s.heap.size w s := by
    intro w hw
    simp only [mt_Us, List.mem_cons, List.not_mem_nil, or_false] at hw
    rcases hw with rfl | rfl | rfl | rfl
    · exact hls (by decide +kernel)
    · exact hls (by decide +kernel)
    · exact mt_kept_ir (hflat _ (by decide +kernel))
    · exact mt_kept_ir (hflat _ (by decide +kernel))
  have hC : mv_C mt_Nm mt_Cd mt_cl mt_L mt_Tg mt_Us (mt_G L xs) s.heap.size kt dA D 0 p e s m #[Value.ref b] meth c := by
    refine ⟨hx, hb, hlocks, ?_, ?_, ?_, htg, ⟨hD, hA⟩, Nat.le_refl _, ?_, ?_, ?_, htr, hus, Nat.le_refl _, ?_⟩
    · show meth.sig.returnType = (mt_inf 0).2.1
      rw [q2, hret]
      rfl
    · show c.maxLocals = (mt_inf 0).1
      rw [q1, hml]
    · rw [q4]
      exact hown
    · show c.exceptionTable.toList.map mv_proj = mt_gH 0
      rw [q3, hex]
      rfl
    · rw [q4]
      exact hname
    · rw [hkt]
      exact mt_T_ok hka
    · intro a k f hs
      have hs : (if a = mv_big then some (L, xs) else none) = some (k, f) := hs
      split at hs
      · rename_i ha
        cases hs
        subst ha
        have e1 : kt (mv_big - mv_big) = b := by
          rw [Nat.sub_self, hkt]
          rfl
        rw [e1]
        exact ⟨Nat.le_refl _, hbl, hX⟩
      · cases hs
  have hi : ∀ i j, i < mv_big → j < mv_big → mv_ad s.heap.size kt i = mv_ad s.heap.size kt j → i = j := by
    intro i j h1 h2 h
    rw [mv_ad, if_pos h1, mv_ad, if_pos h2] at h
    omega
  have hK := mv_sound (base := s.heap.size) (kt := kt) (dA := dA) (D := D) (mt_G_ok L xs) (mt_N8_ok L xs) (mt_gL_ok L xs) (mt_gE_ok L xs) mt_good hi n 0 2048 84000 mt_S0 _ hrun p l e room_1 s m #[Value.ref b] below meth c hC (Nat.le_refl _) (Nat.le_refl _)
  have hb0 : mv_ad s.heap.size kt mv_big = b := by
    rw [mv_ad_big (Nat.le_refl _), Nat.sub_self, hkt]
    rfl
  have hent : entryFrame m ([Value.ref b] : List Value).toArray 4 = F0 m 0 ((lg_sl ([.ref b]) ++ List.replicate (4 - (lg_sl ([.ref b])).length) Slot.unset).toArray) [] := lg_entry_eq m _ _
  have hl := lv_entry ([.ref b]) (n := 4) (Nat.le_of_ble_eq_true rfl)
  rw [hent]
  have hW := hK s.heap ((lg_sl ([.ref b]) ++ List.replicate (4 - (lg_sl ([.ref b])).length) Slot.unset).toArray) [] 0 0 ⟨by
    show lv_has _ (mt_inf 0).1 [(0, .ref (mv_ad s.heap.size kt mv_big))]
    rw [hb0, q1]
    exact hl, fun k q h => by simp [mt_S0, mv_w] at h, rfl, va_S.rf, Nat.le_of_ble_eq_true rfl, Nat.le_of_ble_eq_true rfl, Nat.le_of_ble_eq_true rfl⟩
  refine mv_mono (fun t ht => ?_) hW
  obtain ⟨o, h1, h2, h3, -, -, -, h7, ⟨L1, k, n1, h8, h9, h10, h11⟩, -⟩ := ht
  have h3 : o = .returned (some (.int 1)) := h3
  refine ⟨o, h1, h2, h3, ⟨_, h3⟩, h7, ?_⟩
  have h8 : k + cb ≤ 601024 := h8
  have h9 : n1 + sb ≤ 7293034 := h9
  exact h10.weaken (fun y hy hlt => absurd (h11 y hy) (Nat.not_le.mpr hlt)) (by omega) (by omega)
end
section
/-! the claim (begun with kit/laws' skeleton) -/
set_option maxHeartbeats 4000000 in
theorem lw_walk (hall : ∀ (L : Nat) (xs : Nat → Int32), L ≤ 3072 → mt_true L xs) (l : Launch) (hfl : l.flags = flags0) (b : Addr) (xs : List Int32) : MetFree l x (headSpec (Jvm.Cond.code x code maxLocals ret :: tables_1) room_1) (lw_P b xs) (fun _ _ _ _ _ => True) lw_Q := by
  refine MetFree.of_bodyS (code := code) (maxLocals := maxLocals) (ret := ret) (by decide) ?_ ?_
  · intro args s m h hn
    obtain ⟨meth, c, h1, h2, h3, h4, h5, h6, -, -⟩ := Cond.code_spec hn (atoms_spec (ws := Jvm.Cond.code x code maxLocals ret :: tables_1) h _ List.mem_cons_self)
    exact ⟨meth, c, h1, h2, h3, h4, h5, h6⟩
  · intro p e s m args below meth c s₁ B hml0 hP _
    obtain ⟨rfl, hx, hbd, hgv⟩ := hP
    obtain ⟨scr, harrAt, hlist, hof, hsmall⟩ := hx
    obtain ⟨hcb, hkn, -, -⟩ := State.arrayAt?_spec harrAt
    have hown : s.vm.findClass R_law = some m.cls := findClass_of_methodNamed B.named
    have hts0 : ∀ c ∈ (Jvm.Cond.code x code maxLocals ret :: tables_1), c.before #[Value.ref b] s = true := atoms_spec (ws := Jvm.Cond.code x code maxLocals ret :: tables_1) B.pre
    have hts : ∀ w ∈ mt_Ts, w.before #[Value.ref b] s = true := k2_hts_sels mt_pv (fun w hw => hts0 w (List.mem_cons_of_mem _ hw)) mt_pv_ok
    have hml : c.maxLocals = 4 := B.maxLocals_eq (hts0 _ List.mem_cons_self)
    have X₀ : Stand p l e room_1 s m #[Value.ref b] below meth c s₁ [] 0 0 := Stand.of_body B
    have hh0 : s₁.heap = s.heap := by rw [B.state]; rfl
    have hsz : scr.slots.size = xs.length := by rw [← Array.length_toList, hlist, List.length_map]
    have hval : ∀ j : Nat, j < xs.length → scr.slots[j]? = some (.int (xs.getD j 0)) := fun j hj => by
      rw [← Array.getElem?_toList, hlist]
      simp [hj]
    have hbl : b < s.heap.size := (Array.getElem?_eq_some_iff.mp hcb).1
    have hX : va_X b xs.length (fun j => xs.getD j 0) s s.heap := ⟨scr, hcb, hof, hkn, hsz, hval⟩
    have K : W p l e room_1 s m #[Value.ref b] below meth c s₁.heap [] 0 0 (lw_Z below #[Value.ref b] s) (entryFrame m ([Value.ref b] : List Value).toArray 4) := by
      rw [hh0]
      obtain ⟨meth', c', g1, g2, -, -, -, -, g7, -⟩ := Cond.code_spec B.named (hts0 _ List.mem_cons_self)
      have hm := X₀.method
      have hc := X₀.code
      cases g1.symm.trans hm
      cases g2.symm.trans hc
      have g8 : c.exceptionTable.size = 0 := by simpa [Array.isEmpty] using g7
      exact mt_start l (hall _ _ hbd) ⟨B.exec, B.bytes, B.returns, hml, hown, hts, hX, hbl, B.notSynchronized, hgv, Launch.traces_off hfl X₀.admits, List.eq_nil_of_length_eq_zero (by simpa using g8), (name_of_methodNamed B.named hm).1⟩
    obtain ⟨t, a1, o, b1, b2, b3⟩ := K s₁ rfl X₀
    exact ⟨t, o, a1, b1, b2, b3⟩
theorem lw_pre_spec {args : Array Value} {s : State} (h : (Jvm.Cond.and given_1 narrow_1).before args s = true) (hr : rest_1_c.before args s = true) : ∃ (b : Addr) (xs : List Int32), lw_P b xs args s := by
  have hs := flat_of_before _ h
  have hq := flat_of_before _ hr
  have hc : (Cond.count 1).before args s = true := hs _ (by decide +kernel)
  have harr : (Cond.arrayOf (.arg 0) .int).before args s = true := hs _ (by decide +kernel)
  have hle : (Cond.le (.length (.arg 0)) (.int 3072)).before args s = true := hs _ (by decide +kernel)
  have hlen : (Cond.isInt (.length (.arg 0))).before args s = true := hq _ (by decide +kernel)
  have hall : (Cond.all (.arg 0) (.isInt (.elem (.arg 0) (.index 0)))).before args s = true := hq _ (by decide +kernel)
  obtain ⟨b, xs, hb, hx⟩ := State.ints_of_pre rfl harr hlen hall
  have hsm : xs.length < 2 ^ 31 := hx.choose_spec.2.2.2
  have hev : (Term.length (.arg 0)).eval args s none [] s = some (.int xs.length.toInt32) := hx.length_eval hb
  have hv := Cond.le_ints hev (show (Term.int 3072).eval args s none [] s = some (.int 3072) from rfl)
  have hd : xs.length.toInt32 ≤ 3072 := by
    simpa [Cond.before, Cond.holds, hv] using hle
  have hN : xs.length ≤ 3072 := (Int32.ofNat_le_ofNat hsm (by decide)).mp (show Int32.ofNat xs.length ≤ Int32.ofNat 3072 from hd)
  exact ⟨b, xs, Cond.one_arg hc (show args[0]? = some (.ref b) from hb), hx, hN, h⟩
theorem lw_comes (hall : ∀ (L : Nat) (xs : Nat → Int32), L ≤ 3072 → mt_true L xs) (l : Launch) (hfl : l.flags = flags0) : Comes l x (Jvm.Cond.code x code maxLocals ret :: tables_1) room_1 (fun tb e args s => Calls_1 tb e args s ∧ rest_1 tb e args s ∧ Pre_1 tb e args s)
    (fun _ _ args s o t => lw_Q args s o t) := by
  intro p e ha hc hk s m args below hf hfit hheap happ hpre
  obtain ⟨b, xs, hP⟩ := lw_pre_spec hpre.2.2 hpre.2.1
  obtain ⟨k, o, h1, h2, h3, hQ⟩ := lw_walk hall l hfl b xs p e ha hc hk s m args below hf ((Spec.applies_iff_loose hf).mp happ).1 hP trivial
  exact ⟨k, o, h1, h2, h3, hQ⟩
theorem lw_frame {s t : State} {o : Outcome} {args : Array Value} (h : Framed s o t [] 601024 7293034) :
    Framed s o t (fieldLocs frame_1_writes args s ++ arrayLocs frame_1_arrays args s ++ staticLocs frame_1_statics s) 601024 7293034 := h
theorem lw_limb (hall : ∀ (L : Nat) (xs : Nat → Int32), L ≤ 3072 → mt_true L xs) (L : Cond) (hL : ∀ (args : Array Value) (s t : State), L.after args s (.returned (some (.int 1))) t = true) :
    ArmFor flags0 classFile x code maxLocals ret World_1 tables_1 room_1 Calls_1 rest_1 Pre_1
      (fun tb e a s o t => postC L tb e a s o t ∧ Framed s o t (fieldLocs frame_1_writes a s ++ arrayLocs frame_1_arrays a s ++ staticLocs frame_1_statics s) 601024 7293034) := by
  intro l hfl _ _ p e ha hc hk s m args below hf hfit hheap happ hpre
  obtain ⟨k, o, h1, h2, h3, rfl, hF⟩ := lw_comes hall l hfl p e ha hc hk s m args below hf hfit hheap happ hpre
  exact ⟨k, _, h1, h2, h3, hL args s _, lw_frame hF⟩
/-- the claim, where the small machine's run of the law ends with true over every script -/
theorem mt_claim (hall : ∀ (L : Nat) (xs : Nat → Int32), L ≤ 3072 → mt_true L xs) : Claimed_1_1 ∧ Claimed_1_2 := ⟨lw_limb hall limb_1_1 (fun args s t => by simp [limb_1_1, Cond.after, Cond.holds, Cond.value]), lw_limb hall limb_1_2 (fun args s t => Cond.after_iff.mpr (by
  first | (rw [show limb_1_2 = Cond.eq .result (.int 1) from rfl, Cond.eq_ints (x := 1) (y := 1) rfl rfl]; simp; done) | (simp [limb_1_2, Cond.value, Term.eval]; done)))⟩
end
section
/-! boxes (ab_): the small machine over values of which only bounds are known; heap, locals and arrays are functions, so that the kernel runs it -/
/-- a value known; an int between two bounds; an int of which the last five bits are known -/
abbrev ab_V : Type := Value ⊕ ((Int × Int) ⊕ Int32)
def ab_g : ab_V → Value → Prop
  | .inl v, w => w = v ∧ v.category = 1
  | .inr (.inl b), w => ∃ x : Int32, w = .int x ∧ b.1 ≤ x.toInt ∧ x.toInt ≤ b.2
  | .inr (.inr m), w => ∃ x : Int32, w = .int x ∧ x &&& 31 = m
theorem ab_g_cat : ∀ {v : ab_V} {w : Value}, ab_g v w → w.category = 1
  | .inl _, _, h => by rw [h.1]; exact h.2
  | .inr (.inl _), _, ⟨x, h, _⟩ => by rw [h]; rfl
  | .inr (.inr _), _, ⟨x, h, _⟩ => by rw [h]; rfl
def ab_int : ab_V → Bool
  | .inl (.int _) => true
  | .inr _ => true
  | _ => false
def ab_rfv : ab_V → Bool
  | .inl (.ref _) => true
  | .inl .null => true
  | _ => false
theorem ab_int_ok : ∀ (v : ab_V) (w : Value), ab_g v w → ab_int v = true → mv_int w = true
  | .inl v, w, h, hb => by
    rw [h.1]
    cases v <;> first | rfl | cases hb
  | .inr (.inl _), _, ⟨x, h, _⟩, _ => by rw [h]; rfl
  | .inr (.inr _), _, ⟨x, h, _⟩, _ => by rw [h]; rfl
theorem ab_int_at {v : ab_V} {w : Value} (h : ab_g v w) (hb : ab_int v = true) : ∃ x : Int32, w = .int x := by
  have h1 := ab_int_ok v w h hb
  cases w <;> first | exact ⟨_, rfl⟩ | cases h1
theorem ab_rfv_ok : ∀ (v : ab_V) (w : Value), ab_g v w → ab_rfv v = true → mv_rfv w = true
  | .inl v, w, h, hb => by
    rw [h.1]
    cases v <;> first | rfl | cases hb
  | .inr _, _, _, hb => by cases hb
/-- a number worked out before it goes on -/
def ab_fn {α : Type} (n : Nat) (k : Nat → α) : α := match n with
  | 0 => k 0
  | m + 1 => k (m + 1)
theorem ab_fn_eq {α : Type} (n : Nat) (k : Nat → α) : ab_fn n k = k n := by
  cases n <;> rfl
def ab_fi {α : Type} (x : Int32) (k : Int32 → α) : α := ab_fn x.toUInt32.toNat fun n => k (Int32.ofNat n)
theorem ab_fi_eq {α : Type} (x : Int32) (k : Int32 → α) : ab_fi x k = k x := by
  unfold ab_fi
  rw [ab_fn_eq]
  congr 1
  show Int32.ofUInt32 (UInt32.ofNat x.toUInt32.toNat) = x
  rw [UInt32.ofNat_toNat]
/-- cells -/
abbrev ab_E : Type := (Nat × Nat × (Nat → ab_V)) ⊕ ((Nat × Nat × (Nat → Option Nat)) ⊕ (Nat × Nat × (Nat → ab_V)))
def ab_ge : ab_E → va_E → Prop
  | .inl q, e => ∃ f : Nat → Int32, e = .inl (q.1, q.2.1, .inl f) ∧ ∀ k, ab_g (q.2.2 k) (.int (f k))
  | .inr (.inl q), e => e = .inl (q.1, q.2.1, .inr (.inr (.inr (.inr q.2.2))))
  | .inr (.inr q), e => ∃ fs : List Value, e = .inr (q.1, fs) ∧ fs.length = q.2.1 ∧ ∀ k v, fs[k]? = some v → ab_g (q.2.2 k) v
abbrev ab_H : Type := Nat × (Nat → ab_E)
def ab_gh (h : ab_H) (hp : List va_E) : Prop := hp.length = h.1 ∧ ∀ k e, hp[k]? = some e → ab_ge (h.2 k) e
def ab_at (h : ab_H) (a : Nat) : Option ab_E := bif Nat.blt a h.1 then some (h.2 a) else none
theorem ab_at_ok {h : ab_H} {hp : List va_E} (hh : ab_gh h hp) {a : Nat} {x : ab_E} (ha : ab_at h a = some x) : ∃ e, hp[a]? = some e ∧ ab_ge x e := by
  unfold ab_at at ha
  cases hb : Nat.blt a h.1 with
  | false => rw [hb] at ha; cases ha
  | true =>
    rw [hb] at ha
    cases ha
    have hlt : a < hp.length := by rw [hh.1]; exact Nat.le_of_ble_eq_true hb
    exact ⟨_, List.getElem?_eq_getElem hlt, hh.2 a _ (List.getElem?_eq_getElem hlt)⟩
def ab_put (h : ab_H) (a : Nat) (x : ab_E) : ab_H := (h.1, fun k => bif Nat.beq k a then x else h.2 k)
theorem ab_put_ok {h : ab_H} {hp : List va_E} (hh : ab_gh h hp) {a : Nat} {x : ab_E} {e : va_E} (he : ab_ge x e) : ab_gh (ab_put h a x) (hp.set a e) := by
  refine ⟨by rw [List.length_set]; exact hh.1, fun k e1 hk => ?_⟩
  show ab_ge (bif Nat.beq k a then x else h.2 k) e1
  rw [List.getElem?_set] at hk
  split at hk
  · rename_i hka
    subst hka
    split at hk
    · cases hk
      rw [Nat.beq_refl]
      exact he
    · cases hk
  · rename_i hka
    cases hb : Nat.beq k a with
    | true => exact absurd (Nat.eq_of_beq_eq_true hb).symm hka
    | false => exact hh.2 k e1 hk
def ab_app (h : ab_H) (x : ab_E) : ab_H := ab_fn h.1 fun n => (n + 1, fun k => bif Nat.beq k n then x else h.2 k)
theorem ab_app_ok {h : ab_H} {hp : List va_E} (hh : ab_gh h hp) {x : ab_E} {e : va_E} (he : ab_ge x e) : ab_gh (ab_app h x) (hp ++ [e]) := by
  unfold ab_app
  rw [ab_fn_eq]
  refine ⟨by rw [List.length_append, hh.1]; rfl, fun k e1 hk => ?_⟩
  show ab_ge (bif Nat.beq k h.1 then x else h.2 k) e1
  cases hb : Nat.beq k h.1 with
  | true =>
    have hkk := Nat.eq_of_beq_eq_true hb
    rw [hkk, ← hh.1, List.getElem?_append_right (Nat.le_refl _), Nat.sub_self] at hk
    cases hk
    exact he
  | false =>
    have hne : k ≠ h.1 := fun q => by rw [q, Nat.beq_refl] at hb; cases hb
    refine hh.2 k e1 ?_
    rcases Nat.lt_or_ge k hp.length with q | q
    · rw [List.getElem?_append_left q] at hk
      exact hk
    · exfalso
      rw [List.getElem?_append_right q] at hk
      have : k - hp.length < 1 := (List.getElem?_eq_some_iff.mp hk).1
      have := hh.1
      omega
def ab_apps (h : ab_H) (n : Nat) (F : Nat → ab_E) : ab_H := ab_fn h.1 fun m => ab_fn (m + n) fun t => (t, fun k => bif Nat.blt k m then h.2 k else F (k - m))
theorem ab_apps_ok {h : ab_H} {hp es : List va_E} (hh : ab_gh h hp) {F : Nat → ab_E} {n : Nat} (hn : es.length = n) (he : ∀ j e, es[j]? = some e → ab_ge (F j) e) : ab_gh (ab_apps h n F) (hp ++ es) := by
  unfold ab_apps
  rw [ab_fn_eq, ab_fn_eq]
  refine ⟨by rw [List.length_append, hh.1, hn], fun k e1 hk => ?_⟩
  show ab_ge (bif Nat.blt k h.1 then h.2 k else F (k - h.1)) e1
  cases hb : Nat.blt k h.1 with
  | true =>
    have hlt : k < hp.length := by rw [hh.1]; exact Nat.le_of_ble_eq_true hb
    rw [List.getElem?_append_left hlt] at hk
    exact hh.2 k e1 hk
  | false =>
    have hge : hp.length ≤ k := by
      rw [hh.1]
      rcases Nat.lt_or_ge k h.1 with q | q
      · have h9 : Nat.blt k h.1 = true := Nat.ble_eq_true_of_le q
        rw [h9] at hb
        cases hb
      · exact q
    rw [List.getElem?_append_right hge, hh.1] at hk
    exact he _ _ hk
/-- locals -/
abbrev ab_L : Type := Nat → Option ab_V
def ab_gl (l : ab_L) (lo : List (Nat × Value)) : Prop := ∀ i v, l i = some v → ∃ j q, mv_find i lo 0 = some (j, q) ∧ ab_g v q
theorem ab_find_any {i : Nat} : ∀ (l : List (Nat × Value)) (k k' j : Nat) (q : Value), mv_find i l k = some (j, q) → ∃ j', mv_find i l k' = some (j', q)
  | [], _, _, _, _, h => by cases h
  | p :: r, k, k', j, q, h => by
    unfold mv_find at h ⊢
    split at h
    · rename_i e
      cases h
      rw [if_pos e]
      exact ⟨_, rfl⟩
    · rename_i e
      rw [if_neg e]
      exact ab_find_any r (k + 1) (k' + 1) j q h
theorem ab_find_keep {i a : Nat} (hne : i ≠ a) : ∀ (l : List (Nat × Value)) (k k' j : Nat) (q : Value), q.category = 1 → mv_find i l k = some (j, q) → ∃ j', mv_find i (mv_keep a l) k' = some (j', q)
  | [], _, _, _, _, _, h => by cases h
  | p :: r, k, k', j, q, hc, h => by
    unfold mv_find at h
    unfold mv_keep
    rw [List.filter_cons]
    split at h
    · rename_i e
      cases h
      have : (!(p.1 == a) && !(p.1 + 1 == a && p.2.category == 2)) = true := by
        rw [hc]
        simp [e, hne]
      rw [if_pos this]
      unfold mv_find
      rw [if_pos e]
      exact ⟨_, rfl⟩
    · rename_i e
      split
      · unfold mv_find
        rw [if_neg e]
        exact ab_find_keep hne r (k + 1) (k' + 1) j q hc h
      · exact ab_find_keep hne r (k + 1) k' j q hc h
def ab_ls (l : ab_L) (i : Nat) (v : ab_V) : ab_L := fun j => bif Nat.beq j i then some v else l j
theorem ab_ls_ok {l : ab_L} {lo : List (Nat × Value)} (hl : ab_gl l lo) {i : Nat} {v : ab_V} {w : Value} (hv : ab_g v w) : ab_gl (ab_ls l i v) ((i, w) :: mv_keep i lo) := by
  intro j u hj
  unfold ab_ls at hj
  cases hb : Nat.beq j i with
  | true =>
    have hji := Nat.eq_of_beq_eq_true hb
    rw [hb] at hj
    cases hj
    subst hji
    unfold mv_find
    rw [if_pos rfl]
    exact ⟨_, _, rfl, hv⟩
  | false =>
    rw [hb] at hj
    have hne : j ≠ i := fun q => by rw [q, Nat.beq_refl] at hb; cases hb
    obtain ⟨a, q, h1, h2⟩ := hl j u hj
    unfold mv_find
    rw [if_neg (Ne.symm hne)]
    obtain ⟨j', h3⟩ := ab_find_keep hne lo 0 1 a q (ab_g_cat h2) h1
    exact ⟨j', q, h3, h2⟩
/-- the operand stack -/
def ab_gs : List ab_V → List Value → Prop
  | [], [] => True
  | a :: r, b :: t => ab_g a b ∧ ab_gs r t
  | _, _ => False
theorem ab_gs_cons {a : ab_V} {r : List ab_V} {ss : List Value} (h : ab_gs (a :: r) ss) : ∃ b t, ss = b :: t ∧ ab_g a b ∧ ab_gs r t := by
  cases ss with
  | nil => exact absurd h id
  | cons b t => exact ⟨b, t, rfl, h.1, h.2⟩
theorem ab_gs_nil {ss : List Value} (h : ab_gs [] ss) : ss = [] := by
  cases ss with
  | nil => rfl
  | cons b t => exact absurd h id
theorem ab_gs_len : ∀ {st : List ab_V} {ss : List Value}, ab_gs st ss → ss.length = st.length
  | [], [], _ => rfl
  | [], _ :: _, h => absurd h id
  | _ :: _, [], h => absurd h id
  | _ :: r, _ :: t, h => by rw [List.length_cons, List.length_cons, ab_gs_len h.2]
theorem ab_gs_take : ∀ {st : List ab_V} {ss : List Value} (n : Nat), ab_gs st ss → ab_gs (st.take n) (ss.take n) ∧ ab_gs (st.drop n) (ss.drop n)
  | _, _, 0, h => ⟨trivial, h⟩
  | [], [], _ + 1, _ => ⟨trivial, trivial⟩
  | [], _ :: _, _ + 1, h => absurd h id
  | _ :: _, [], _ + 1, h => absurd h id
  | _ :: r, _ :: t, n + 1, h => ⟨⟨h.1, (ab_gs_take n h.2).1⟩, (ab_gs_take n h.2).2⟩
theorem ab_gs_app : ∀ {a c : List ab_V} {b d : List Value}, ab_gs a b → ab_gs c d → ab_gs (a ++ c) (b ++ d)
  | [], _, [], _, _, h => h
  | [], _, _ :: _, _, h, _ => absurd h id
  | _ :: _, _, [], _, h, _ => absurd h id
  | _ :: _, _, _ :: _, _, h, k => ⟨h.1, ab_gs_app h.2 k⟩
theorem ab_gs_rev : ∀ {a : List ab_V} {b : List Value}, ab_gs a b → ab_gs a.reverse b.reverse
  | [], [], _ => trivial
  | [], _ :: _, h => absurd h id
  | _ :: _, [], h => absurd h id
  | x :: r, y :: t, h => by
    rw [List.reverse_cons, List.reverse_cons]
    exact ab_gs_app (ab_gs_rev h.2) ⟨h.1, trivial⟩
theorem ab_gs_cats : ∀ {a : List ab_V} {b : List Value}, ab_gs a b → (b.map fun v => v.category).sum = a.length ∧ (lg_sl b).length = a.length
  | [], [], _ => ⟨rfl, rfl⟩
  | [], _ :: _, h => absurd h id
  | _ :: _, [], h => absurd h id
  | x :: r, y :: t, h => by
    obtain ⟨h1, h2⟩ := ab_gs_cats h.2
    have hc := ab_g_cat h.1
    refine ⟨?_, ?_⟩
    · rw [List.map_cons, List.sum_cons, h1, hc, List.length_cons]
      omega
    · unfold lg_sl at h2 ⊢
      rw [List.flatMap_cons, List.length_append, h2, if_neg (by rw [hc]; decide), List.length_cons]
      simp
      omega
/-- arguments as locals -/
def ab_args : Nat → List ab_V → ab_L
  | _, [] => fun _ => none
  | i, v :: r => fun j => bif Nat.beq j i then some v else ab_args (i + 1) r j
theorem ab_args_lo : ∀ (a : List ab_V) (i j : Nat) (v : ab_V), ab_args i a j = some v → i ≤ j
  | [], _, _, _, h => by cases h
  | x :: r, i, j, v, h => by
    unfold ab_args at h
    cases hb : Nat.beq j i with
    | true => exact Nat.le_of_eq (Nat.eq_of_beq_eq_true hb).symm
    | false =>
      rw [hb] at h
      have := ab_args_lo r (i + 1) j v h
      omega
theorem ab_args_ok : ∀ {a : List ab_V} {b : List Value} (i k : Nat), ab_gs a b → ∀ j v, ab_args i a j = some v → ∃ q w, mv_find j (lv_args i b) k = some (q, w) ∧ ab_g v w
  | [], [], _, _, _, _, _, h => by cases h
  | [], _ :: _, _, _, h, _, _, _ => absurd h id
  | _ :: _, [], _, _, h, _, _, _ => absurd h id
  | x :: r, y :: t, i, k, h, j, v, hj => by
    unfold ab_args at hj
    have hcy : ¬ y.category = 2 := by rw [ab_g_cat h.1]; decide
    unfold lv_args mv_find
    rw [if_neg hcy]
    cases hb : Nat.beq j i with
    | true =>
      rw [hb] at hj
      cases hj
      rw [if_pos (show (i, y).1 = j from (Nat.eq_of_beq_eq_true hb).symm)]
      exact ⟨_, _, rfl, h.1⟩
    | false =>
      rw [hb] at hj
      have hj : ab_args (i + 1) r j = some v := hj
      have hle := ab_args_lo r (i + 1) j v hj
      rw [if_neg (show ¬ (i, y).1 = j from fun q => by have q : i = j := q; omega)]
      exact ab_args_ok (i + 1) (k + 1) h.2 j v hj
end
section
/-! boxes: the instructions on numbers, locals, the stack -/
abbrev ab_S : Type := Nat × ab_L × List ab_V × ab_H × Nat × Nat
def ab_gS (A : ab_S) (S : mv_S) : Prop := A.1 = S.1 ∧ ab_gl A.2.1 S.2.1 ∧ ab_gs A.2.2.1 S.2.2.1 ∧ ab_gh A.2.2.2.1 S.2.2.2.1 ∧ A.2.2.2.2.1 = S.2.2.2.2.1 ∧ A.2.2.2.2.2 = S.2.2.2.2.2
/-- what an instruction's box leads to, its small machine leads to -/
def ab_ok (o : Option ab_S) (r : Option mv_R) : Prop := ∀ A, o = some A → ∃ S, r = some (.inl S) ∧ ab_gS A S
theorem ab_ok_none {r : Option mv_R} : ab_ok none r := fun _ h => by cases h
def ab_mk (pc : Nat) (l : ab_L) (st : List ab_V) (h : ab_H) (cb sb : Nat) : Option ab_S := ab_fn pc fun p => some (p, l, st, h, cb, sb)
theorem ab_mk_eq (pc : Nat) (l : ab_L) (st : List ab_V) (h : ab_H) (cb sb : Nat) : ab_mk pc l st h cb sb = some (pc, l, st, h, cb, sb) := ab_fn_eq _ _
theorem ab_ok_mk {pc : Nat} {l : ab_L} {st : List ab_V} {h : ab_H} {cb sb : Nat} {lo : List (Nat × Value)} {ss : List Value} {hp : List va_E} (hl : ab_gl l lo) (hs : ab_gs st ss) (hh : ab_gh h hp) : ab_ok (ab_mk pc l st h cb sb) (some (.inl (pc, lo, ss, hp, cb, sb))) := fun A q => by
  rw [ab_mk_eq] at q
  cases q
  exact ⟨_, rfl, rfl, hl, hs, hh, rfl, rfl⟩
def ab_full : ab_V := .inr (.inl (-2147483648, 2147483647))
theorem ab_full_ok (x : Int32) : ab_g ab_full (.int x) := ⟨x, rfl, Int32.le_toInt x, Int.le_of_lt_add_one (Int32.toInt_lt x)⟩
def ab_lo : ab_V → Int
  | .inl (.int x) => x.toInt
  | .inr (.inl b) => b.1
  | _ => -2147483648
def ab_hi : ab_V → Int
  | .inl (.int x) => x.toInt
  | .inr (.inl b) => b.2
  | _ => 2147483647
theorem ab_lohi : ∀ {v : ab_V} {x : Int32}, ab_g v (.int x) → ab_lo v ≤ x.toInt ∧ x.toInt ≤ ab_hi v
  | .inl v, x, h => by
    rw [← h.1]
    exact ⟨Int.le_refl _, Int.le_refl _⟩
  | .inr (.inl b), x, ⟨y, h, h1, h2⟩ => by
    cases h
    exact ⟨h1, h2⟩
  | .inr (.inr m), x, _ => ⟨Int32.le_toInt x, Int.le_of_lt_add_one (Int32.toInt_lt x)⟩
section
variable (G : mv_G) (y pc : Nat) (l : ab_L) (st : List ab_V) (h : ab_H) (cb sb : Nat)
def ab_push (len : Nat) (v : ab_V) : Option ab_S := ab_mk (pc + len) l (v :: st) h cb sb
def ab_pushi (len : Nat) (x : Int32) : Option ab_S := ab_fi x fun w => ab_mk (pc + len) l (.inl (.int w) :: st) h cb sb
def ab_load (i len : Nat) (b : ab_V → Bool) : Option ab_S := match l i with
  | some v => bif b v then ab_mk (pc + len) l (v :: st) h cb sb else none
  | none => none
def ab_store (i len : Nat) (b : ab_V → Bool) : Option ab_S := match st with
  | v :: r => bif b v && Nat.blt i (mv_gL G y) then ab_mk (pc + len) (ab_ls l i v) r h cb sb else none
  | [] => none
def ab_inc (i : Nat) (n : Int) (len : Nat) : Option ab_S := match l i with
  | some (.inl (.int x)) => bif Nat.blt i (mv_gL G y) then ab_fi (x + Int32.ofInt n) fun w => ab_mk (pc + len) (ab_ls l i (.inl (.int w))) st h cb sb else none
  | some (.inr _) => bif Nat.blt i (mv_gL G y) then ab_mk (pc + len) (ab_ls l i ab_full) st h cb sb else none
  | _ => none
/-- what bounds an operation keeps: 1 'and', 2 plus, 3 minus -/
def ab_res (kd : Nat) (a b : ab_V) : ab_V := match kd, a, b with
  | 1, .inr (.inr m), .inl (.int c) => if c = 31 then .inl (.int m) else ab_full
  | 2, a, b => if -2147483648 ≤ ab_lo a + ab_lo b ∧ ab_hi a + ab_hi b ≤ 2147483647 then .inr (.inl (ab_lo a + ab_lo b, ab_hi a + ab_hi b)) else ab_full
  | 3, a, b => if -2147483648 ≤ ab_lo a - ab_hi b ∧ ab_hi a - ab_lo b ≤ 2147483647 then .inr (.inl (ab_lo a - ab_hi b, ab_hi a - ab_lo b)) else ab_full
  | _, _, _ => ab_full
def ab_bin (kd : Nat) (f : Int32 → Int32 → Int32) : Option ab_S := match st with
  | .inl (.int b) :: .inl (.int a) :: r => ab_fi (f a b) fun w => ab_mk (pc + 1) l (.inl (.int w) :: r) h cb sb
  | b :: a :: r => bif ab_int a && ab_int b then ab_mk (pc + 1) l (ab_res kd a b :: r) h cb sb else none
  | _ => none
def ab_dvd (f : Int32 → Int32 → Int32) : Option ab_S := match st with
  | .inl (.int b) :: .inl (.int a) :: r => if b = 0 then none else ab_fi (f a b) fun w => ab_mk (pc + 1) l (.inl (.int w) :: r) h cb sb
  | .inl (.int b) :: .inr _ :: r => if b = 0 then none else ab_mk (pc + 1) l (ab_full :: r) h cb sb
  | _ => none
def ab_un (f : Int32 → Int32) : Option ab_S := match st with
  | .inl (.int a) :: r => ab_fi (f a) fun w => ab_mk (pc + 1) l (.inl (.int w) :: r) h cb sb
  | .inr _ :: r => ab_mk (pc + 1) l (ab_full :: r) h cb sb
  | _ => none
def ab_dup : Option ab_S := match st with
  | v :: r => ab_mk (pc + 1) l (v :: v :: r) h cb sb
  | _ => none
def ab_pop : Option ab_S := match st with
  | _ :: r => ab_mk (pc + 1) l r h cb sb
  | _ => none
def ab_dupx : Option ab_S := match st with
  | v :: w :: r => ab_mk (pc + 1) l (v :: w :: v :: r) h cb sb
  | _ => none
def ab_dup2 : Option ab_S := match st with
  | v :: w :: r => ab_mk (pc + 1) l (v :: w :: v :: w :: r) h cb sb
  | _ => none
def ab_jump (off : Int) (c : Bool) (r : List ab_V) : Option ab_S := match mv_tgt pc off with
  | some t => bif c then ab_mk t l r h cb sb else ab_mk (pc + 3) l r h cb sb
  | none => none
/-- a comparison, where the bounds decide it -/
def ab_cmp (c : Jvm.ClassFile.Cond) (a b : ab_V) : Option Bool := match a, b with
  | .inl (.int x), .inl (.int z) => some (mv_cond c x z)
  | a, b => if ab_hi a < ab_lo b then (match c with | .eq => some false | .ne => some true | .lt => some true | .ge => some false | .gt => some false | .le => some true)
    else if ab_hi b < ab_lo a then (match c with | .eq => some false | .ne => some true | .lt => some false | .ge => some true | .gt => some true | .le => some false)
    else if ab_hi a ≤ ab_lo b then (match c with | .gt => some false | .le => some true | _ => none)
    else if ab_hi b ≤ ab_lo a then (match c with | .lt => some false | .ge => some true | _ => none)
    else none
def ab_if (c : Jvm.ClassFile.Cond) (off : Int) : Option ab_S := match st with
  | a :: r => bif ab_int a then (match ab_cmp c a (.inl (.int 0)) with
    | some q => ab_jump pc l h cb sb off q r
    | none => none) else none
  | _ => none
def ab_icmp (c : Jvm.ClassFile.Cond) (off : Int) : Option ab_S := match st with
  | b :: a :: r => bif ab_int a && ab_int b then (match ab_cmp c a b with
    | some q => ab_jump pc l h cb sb off q r
    | none => none) else none
  | _ => none
def ab_acmp (c : ACond) (off : Int) : Option ab_S := match st with
  | .inl b :: .inl a :: r => match mv_ptr a, mv_ptr b with
    | some x, some z => ab_jump pc l h cb sb off (match c with | .eq => decide (x = z) | .ne => decide (¬ x = z)) r
    | _, _ => none
  | _ => none
def ab_ifn (n : Bool) (off : Int) : Option ab_S := match st with
  | .inl .null :: r => ab_jump pc l h cb sb off n r
  | .inl (.ref _) :: r => ab_jump pc l h cb sb off (!n) r
  | _ => none
def ab_tsw (dflt lo hi : Int) (offs : Array Int) : Option ab_S := match st with
  | .inl (.int x) :: r => if x.toInt < lo ∨ hi < x.toInt then match mv_tgt pc dflt with
      | some t => ab_mk t l r h cb sb
      | none => none
    else match offs[(x.toInt - lo).toNat]? with
      | some off => match mv_tgt pc off with
        | some t => ab_mk t l r h cb sb
        | none => none
      | none => none
  | _ => none
end
section ABI
variable {G : mv_G} {y pc : Nat} {l : ab_L} {st : List ab_V} {h : ab_H} {cb sb : Nat} {lo : List (Nat × Value)} {ss : List Value} {hp : List va_E} (hl : ab_gl l lo) (hs : ab_gs st ss) (hh : ab_gh h hp)
theorem ab_push_ok {len : Nat} {v : ab_V} {w : Value} (hl : ab_gl l lo) (hs : ab_gs st ss) (hh : ab_gh h hp) (hv : ab_g v w) : ab_ok (ab_push pc l st h cb sb len v) (mv_push pc lo ss hp cb sb len w) := ab_ok_mk hl ⟨hv, hs⟩ hh
theorem ab_pushi_ok {len : Nat} {x : Int32} (hl : ab_gl l lo) (hs : ab_gs st ss) (hh : ab_gh h hp) : ab_ok (ab_pushi pc l st h cb sb len x) (mv_push pc lo ss hp cb sb len (.int x)) := by
  unfold ab_pushi
  rw [ab_fi_eq]
  exact ab_ok_mk hl ⟨⟨rfl, rfl⟩, hs⟩ hh
theorem ab_load_ok {i len : Nat} {b : ab_V → Bool} {b' : Value → Bool} (hb : ∀ v w, ab_g v w → b v = true → b' w = true) (hl : ab_gl l lo) (hs : ab_gs st ss) (hh : ab_gh h hp) : ab_ok (ab_load pc l st h cb sb i len b) (mv_load pc lo ss hp cb sb i len b') := by
  unfold ab_load
  split
  · rename_i v hv
    cases hbv : b v with
    | false => exact ab_ok_none
    | true =>
      obtain ⟨j, w, h1, h2⟩ := hl i v hv
      unfold mv_load
      rw [h1]
      dsimp only
      rw [if_pos (hb v w h2 hbv)]
      exact ab_ok_mk hl ⟨h2, hs⟩ hh
  · exact ab_ok_none
theorem ab_store_ok {i len : Nat} {b : ab_V → Bool} {b' : Value → Bool} (hb : ∀ v w, ab_g v w → b v = true → b' w = true) (hl : ab_gl l lo) (hs : ab_gs st ss) (hh : ab_gh h hp) : ab_ok (ab_store G y pc l st h cb sb i len b) (mv_store G y pc lo ss hp cb sb i len b') := by
  unfold ab_store
  split
  · rename_i v r
    obtain ⟨w, t, rfl, h1, h2⟩ := ab_gs_cons hs
    cases hbv : (b v && Nat.blt i (mv_gL G y)) with
    | false => exact ab_ok_none
    | true =>
      rw [Bool.and_eq_true] at hbv
      unfold mv_store
      dsimp only
      rw [if_pos ⟨hb v w h1 hbv.1, Nat.le_of_ble_eq_true hbv.2⟩]
      exact ab_ok_mk (ab_ls_ok hl h1) h2 hh
  · exact ab_ok_none
theorem ab_inc_ok {i len : Nat} {n : Int} (hl : ab_gl l lo) (hs : ab_gs st ss) (hh : ab_gh h hp) : ab_ok (ab_inc G y pc l st h cb sb i n len) (mv_inc G y pc lo ss hp cb sb i n len) := by
  unfold ab_inc
  split
  · rename_i x hv
    cases hbv : Nat.blt i (mv_gL G y) with
    | false => exact ab_ok_none
    | true =>
      obtain ⟨j, w, h1, h2⟩ := hl i _ hv
      have e1 : w = .int x := h2.1
      subst e1
      unfold mv_inc
      rw [h1]
      dsimp only
      rw [if_pos (show i < mv_gL G y from Nat.le_of_ble_eq_true hbv)]
      rw [cond_true, ab_fi_eq]
      exact ab_ok_mk (ab_ls_ok hl ⟨rfl, rfl⟩) hs hh
  · rename_i x hv
    cases hbv : Nat.blt i (mv_gL G y) with
    | false => exact ab_ok_none
    | true =>
      obtain ⟨j, w, h1, h2⟩ := hl i _ hv
      obtain ⟨z, rfl⟩ := ab_int_at h2 rfl
      unfold mv_inc
      rw [h1]
      dsimp only
      rw [if_pos (show i < mv_gL G y from Nat.le_of_ble_eq_true hbv)]
      exact ab_ok_mk (ab_ls_ok hl (ab_full_ok _)) hs hh
  · exact ab_ok_none
theorem ab_res_ok {kd : Nat} {f : Int32 → Int32 → Int32} (h1 : kd = 1 → f = mv_f_iand) (h2 : kd = 2 → f = mv_f_iadd) (h3 : kd = 3 → f = mv_f_isub) {a b : ab_V} {x z : Int32} (ha : ab_g a (.int x)) (hb : ab_g b (.int z)) : ab_g (ab_res kd a b) (.int (f x z)) := by
  unfold ab_res
  split
  · rename_i m c
    split
    · rename_i hc
      obtain ⟨x', e1, e2⟩ := ha
      cases e1
      have e3 : z = c := Value.int.inj hb.1
      rw [h1 rfl]
      refine ⟨?_, rfl⟩
      show Value.int (x &&& z) = _
      rw [e3, hc, e2]
    · exact ab_full_ok _
  · split
    · rename_i hc
      obtain ⟨p1, p2⟩ := ab_lohi ha
      obtain ⟨q1, q2⟩ := ab_lohi hb
      rw [h2 rfl]
      have e : (x + z).toInt = x.toInt + z.toInt := by
        rw [Int32.toInt_add]
        exact Int.bmod_eq_of_le (by omega) (by omega)
      exact ⟨x + z, rfl, by show ab_lo a + ab_lo b ≤ _; rw [e]; omega, by show _ ≤ ab_hi a + ab_hi b; rw [e]; omega⟩
    · exact ab_full_ok _
  · split
    · rename_i hc
      obtain ⟨p1, p2⟩ := ab_lohi ha
      obtain ⟨q1, q2⟩ := ab_lohi hb
      rw [h3 rfl]
      have e : (x - z).toInt = x.toInt - z.toInt := by
        rw [Int32.toInt_sub]
        exact Int.bmod_eq_of_le (by omega) (by omega)
      exact ⟨x - z, rfl, by show ab_lo a - ab_hi b ≤ _; rw [e]; omega, by show _ ≤ ab_hi a - ab_lo b; rw [e]; omega⟩
    · exact ab_full_ok _
  · exact ab_full_ok _
theorem ab_bin_ok {kd : Nat} {f : Int32 → Int32 → Int32} (h1 : kd = 1 → f = mv_f_iand) (h2 : kd = 2 → f = mv_f_iadd) (h3 : kd = 3 → f = mv_f_isub) (hl : ab_gl l lo) (hs : ab_gs st ss) (hh : ab_gh h hp) : ab_ok (ab_bin pc l st h cb sb kd f) (mv_bin pc lo ss hp cb sb f) := by
  unfold ab_bin
  split
  · obtain ⟨w1, t1, rfl, g1, hs1⟩ := ab_gs_cons hs
    obtain ⟨w2, t2, rfl, g2, hs2⟩ := ab_gs_cons hs1
    rw [g1.1, g2.1, ab_fi_eq]
    exact ab_ok_mk hl ⟨⟨rfl, rfl⟩, hs2⟩ hh
  · rename_i b a r _
    obtain ⟨w1, t1, rfl, g1, hs1⟩ := ab_gs_cons hs
    obtain ⟨w2, t2, rfl, g2, hs2⟩ := ab_gs_cons hs1
    cases hb : (ab_int a && ab_int b) with
    | false => exact ab_ok_none
    | true =>
      rw [Bool.and_eq_true] at hb
      obtain ⟨z, rfl⟩ := ab_int_at g1 hb.2
      obtain ⟨x, rfl⟩ := ab_int_at g2 hb.1
      exact ab_ok_mk hl ⟨ab_res_ok h1 h2 h3 g2 g1, hs2⟩ hh
  · exact ab_ok_none
theorem ab_dvd_ok {f : Int32 → Int32 → Int32} (hl : ab_gl l lo) (hs : ab_gs st ss) (hh : ab_gh h hp) : ab_ok (ab_dvd pc l st h cb sb f) (mv_dvd pc lo ss hp cb sb f) := by
  unfold ab_dvd
  split
  · obtain ⟨w1, t1, rfl, g1, hs1⟩ := ab_gs_cons hs
    obtain ⟨w2, t2, rfl, g2, hs2⟩ := ab_gs_cons hs1
    rw [g1.1, g2.1]
    unfold mv_dvd
    dsimp only
    split
    · exact ab_ok_none
    · rw [ab_fi_eq]
      exact ab_ok_mk hl ⟨⟨rfl, rfl⟩, hs2⟩ hh
  · obtain ⟨w1, t1, rfl, g1, hs1⟩ := ab_gs_cons hs
    obtain ⟨w2, t2, rfl, g2, hs2⟩ := ab_gs_cons hs1
    obtain ⟨x, rfl⟩ := ab_int_at g2 rfl
    rw [g1.1]
    unfold mv_dvd
    dsimp only
    split
    · exact ab_ok_none
    · exact ab_ok_mk hl ⟨ab_full_ok _, hs2⟩ hh
  · exact ab_ok_none
theorem ab_un_ok {f : Int32 → Int32} (hl : ab_gl l lo) (hs : ab_gs st ss) (hh : ab_gh h hp) : ab_ok (ab_un pc l st h cb sb f) (mv_un pc lo ss hp cb sb f) := by
  unfold ab_un
  split
  · obtain ⟨w1, t1, rfl, g1, hs1⟩ := ab_gs_cons hs
    rw [g1.1, ab_fi_eq]
    exact ab_ok_mk hl ⟨⟨rfl, rfl⟩, hs1⟩ hh
  · obtain ⟨w1, t1, rfl, g1, hs1⟩ := ab_gs_cons hs
    obtain ⟨x, rfl⟩ := ab_int_at g1 rfl
    exact ab_ok_mk hl ⟨ab_full_ok _, hs1⟩ hh
  · exact ab_ok_none
theorem ab_dup_ok (hl : ab_gl l lo) (hs : ab_gs st ss) (hh : ab_gh h hp) : ab_ok (ab_dup pc l st h cb sb) (mv_dup pc lo ss hp cb sb) := by
  unfold ab_dup
  split
  · obtain ⟨w1, t1, rfl, g1, hs1⟩ := ab_gs_cons hs
    unfold mv_dup
    dsimp only
    rw [if_pos (ab_g_cat g1)]
    exact ab_ok_mk hl ⟨g1, g1, hs1⟩ hh
  · exact ab_ok_none
theorem ab_pop_ok (hl : ab_gl l lo) (hs : ab_gs st ss) (hh : ab_gh h hp) : ab_ok (ab_pop pc l st h cb sb) (mv_pop pc lo ss hp cb sb) := by
  unfold ab_pop
  split
  · obtain ⟨w1, t1, rfl, g1, hs1⟩ := ab_gs_cons hs
    unfold mv_pop
    dsimp only
    rw [if_pos (ab_g_cat g1)]
    exact ab_ok_mk hl hs1 hh
  · exact ab_ok_none
theorem ab_dupx_ok (hl : ab_gl l lo) (hs : ab_gs st ss) (hh : ab_gh h hp) : ab_ok (ab_dupx pc l st h cb sb) (mv_dupx pc lo ss hp cb sb) := by
  unfold ab_dupx
  split
  · obtain ⟨w1, t1, rfl, g1, hs1⟩ := ab_gs_cons hs
    obtain ⟨w2, t2, rfl, g2, hs2⟩ := ab_gs_cons hs1
    unfold mv_dupx
    dsimp only
    rw [if_pos ⟨ab_g_cat g1, ab_g_cat g2⟩]
    exact ab_ok_mk hl ⟨g1, g2, g1, hs2⟩ hh
  · exact ab_ok_none
theorem ab_dup2_ok (hl : ab_gl l lo) (hs : ab_gs st ss) (hh : ab_gh h hp) : ab_ok (ab_dup2 pc l st h cb sb) (mv_dup2 pc lo ss hp cb sb) := by
  unfold ab_dup2
  split
  · obtain ⟨w1, t1, rfl, g1, hs1⟩ := ab_gs_cons hs
    obtain ⟨w2, t2, rfl, g2, hs2⟩ := ab_gs_cons hs1
    unfold mv_dup2
    dsimp only
    rw [if_pos ⟨ab_g_cat g1, ab_g_cat g2⟩]
    exact ab_ok_mk hl ⟨g1, g2, g1, g2, hs2⟩ hh
  · exact ab_ok_none
theorem ab_jump_ok {off : Int} {q : Bool} {r : List ab_V} {t : List Value} (hl : ab_gl l lo) (hs : ab_gs r t) (hh : ab_gh h hp) : ab_ok (ab_jump pc l h cb sb off q r) (mv_jump pc lo hp cb sb off q t) := by
  unfold ab_jump mv_jump
  split
  · rename_i tg htg
    rw [htg]
    dsimp only
    cases q with
    | true =>
      have e : (if true = true then tg else pc + 3) = tg := rfl
      rw [e]
      exact ab_ok_mk hl hs hh
    | false =>
      have e : (if false = true then tg else pc + 3) = pc + 3 := rfl
      rw [e]
      exact ab_ok_mk hl hs hh
  · exact ab_ok_none
theorem ab_cmp_ok {c : Jvm.ClassFile.Cond} {a b : ab_V} {x z : Int32} {q : Bool} (ha : ab_g a (.int x)) (hb : ab_g b (.int z)) (hq : ab_cmp c a b = some q) : mv_cond c x z = q := by
  have key : ∀ {p : Prop} [Decidable p] {r : Bool}, (r = true ↔ p) → decide p = r := by
    intro p _ r h
    cases r with
    | true => exact decide_eq_true (h.mp rfl)
    | false => exact decide_eq_false fun hp => by have := h.mpr hp; cases this
  unfold ab_cmp at hq
  split at hq
  · have e1 : x = _ := Value.int.inj ha.1
    have e2 : z = _ := Value.int.inj hb.1
    rw [e1, e2]
    exact Option.some.inj hq
  · obtain ⟨p1, p2⟩ := ab_lohi ha
    obtain ⟨q1, q2⟩ := ab_lohi hb
    have lt1 := @Int32.lt_iff_toInt_lt x z
    have lt2 := @Int32.lt_iff_toInt_lt z x
    have le1 := @Int32.le_iff_toInt_le x z
    have le2 := @Int32.le_iff_toInt_le z x
    have eq1 : x = z → x.toInt = z.toInt := fun e => by rw [e]
    split at hq
    · cases c <;> cases hq <;> (refine key ?_; constructor <;> intro w <;> first | (exfalso; first | (cases w; done) | (have := eq1 w; omega) | (have := lt1.mp w; omega) | (have := lt2.mp w; omega) | (have := le1.mp w; omega) | (have := le2.mp w; omega)) | (exact lt1.mpr (by omega)) | (exact le1.mpr (by omega)) | (intro e; have := eq1 e; omega) | rfl)
    · split at hq
      · cases c <;> cases hq <;> (refine key ?_; constructor <;> intro w <;> first | (exfalso; first | (cases w; done) | (have := eq1 w; omega) | (have := lt1.mp w; omega) | (have := lt2.mp w; omega) | (have := le1.mp w; omega) | (have := le2.mp w; omega)) | (exact lt2.mpr (by omega)) | (exact le2.mpr (by omega)) | (intro e; have := eq1 e; omega) | rfl)
      · split at hq
        · cases c <;> cases hq <;> (refine key ?_; constructor <;> intro w <;> first | (exfalso; first | (cases w; done) | (have := lt1.mp w; omega) | (have := lt2.mp w; omega)) | (exact le1.mpr (by omega)) | rfl)
        · split at hq
          · cases c <;> cases hq <;> (refine key ?_; constructor <;> intro w <;> first | (exfalso; first | (cases w; done) | (have := lt1.mp w; omega) | (have := lt2.mp w; omega)) | (exact le2.mpr (by omega)) | rfl)
          · cases hq
theorem ab_if_ok {c : Jvm.ClassFile.Cond} {off : Int} (hl : ab_gl l lo) (hs : ab_gs st ss) (hh : ab_gh h hp) : ab_ok (ab_if pc l st h cb sb c off) (mv_if pc lo ss hp cb sb c off) := by
  unfold ab_if
  split
  · rename_i a r
    obtain ⟨w1, t1, rfl, g1, hs1⟩ := ab_gs_cons hs
    cases hb : ab_int a with
    | false => exact ab_ok_none
    | true =>
      obtain ⟨x, rfl⟩ := ab_int_at g1 hb
      show ab_ok (match ab_cmp c a (.inl (.int 0)) with | some q => ab_jump pc l h cb sb off q r | none => none) _
      split
      · rename_i q hq
        show ab_ok _ (mv_jump pc lo hp cb sb off (mv_cond c x 0) t1)
        rw [ab_cmp_ok g1 (show ab_g (.inl (.int 0)) (.int 0) from ⟨rfl, rfl⟩) hq]
        exact ab_jump_ok hl hs1 hh
      · exact ab_ok_none
  · exact ab_ok_none
theorem ab_icmp_ok {c : Jvm.ClassFile.Cond} {off : Int} (hl : ab_gl l lo) (hs : ab_gs st ss) (hh : ab_gh h hp) : ab_ok (ab_icmp pc l st h cb sb c off) (mv_icmp pc lo ss hp cb sb c off) := by
  unfold ab_icmp
  split
  · rename_i b a r
    obtain ⟨w1, t1, rfl, g1, hs1⟩ := ab_gs_cons hs
    obtain ⟨w2, t2, rfl, g2, hs2⟩ := ab_gs_cons hs1
    cases hb : (ab_int a && ab_int b) with
    | false => exact ab_ok_none
    | true =>
      rw [Bool.and_eq_true] at hb
      obtain ⟨z, rfl⟩ := ab_int_at g1 hb.2
      obtain ⟨x, rfl⟩ := ab_int_at g2 hb.1
      show ab_ok (match ab_cmp c a b with | some q => ab_jump pc l h cb sb off q r | none => none) _
      split
      · rename_i q hq
        show ab_ok _ (mv_jump pc lo hp cb sb off (mv_cond c x z) t2)
        rw [ab_cmp_ok g2 g1 hq]
        exact ab_jump_ok hl hs2 hh
      · exact ab_ok_none
  · exact ab_ok_none
theorem ab_acmp_ok {c : ACond} {off : Int} (hl : ab_gl l lo) (hs : ab_gs st ss) (hh : ab_gh h hp) : ab_ok (ab_acmp pc l st h cb sb c off) (mv_acmp pc lo ss hp cb sb c off) := by
  unfold ab_acmp
  split
  · rename_i b a r
    obtain ⟨w1, t1, rfl, g1, hs1⟩ := ab_gs_cons hs
    obtain ⟨w2, t2, rfl, g2, hs2⟩ := ab_gs_cons hs1
    rw [g1.1, g2.1]
    unfold mv_acmp
    dsimp only
    split
    · rename_i x0 z0 hx0 hz0
      rw [hx0, hz0]
      cases c
      · exact ab_jump_ok hl hs2 hh
      · exact ab_jump_ok hl hs2 hh
    · exact ab_ok_none
  · exact ab_ok_none
theorem ab_ifn_ok {n : Bool} {off : Int} (hl : ab_gl l lo) (hs : ab_gs st ss) (hh : ab_gh h hp) : ab_ok (ab_ifn pc l st h cb sb n off) (mv_ifn pc lo ss hp cb sb n off) := by
  unfold ab_ifn
  split
  · obtain ⟨w1, t1, rfl, g1, hs1⟩ := ab_gs_cons hs
    rw [g1.1]
    exact ab_jump_ok hl hs1 hh
  · obtain ⟨w1, t1, rfl, g1, hs1⟩ := ab_gs_cons hs
    rw [g1.1]
    exact ab_jump_ok hl hs1 hh
  · exact ab_ok_none
theorem ab_tsw_ok {dflt a b : Int} {offs : Array Int} (hl : ab_gl l lo) (hs : ab_gs st ss) (hh : ab_gh h hp) : ab_ok (ab_tsw pc l st h cb sb dflt a b offs) (mv_tsw pc lo ss hp cb sb dflt a b offs) := by
  unfold ab_tsw
  split
  · rename_i x r
    obtain ⟨w1, t1, rfl, g1, hs1⟩ := ab_gs_cons hs
    rw [g1.1]
    unfold mv_tsw
    dsimp only
    split
    · cases mv_tgt pc dflt with
      | none => exact ab_ok_none
      | some t => exact ab_ok_mk hl hs1 hh
    · cases offs[(x.toInt - a).toNat]? with
      | none => exact ab_ok_none
      | some off =>
        dsimp only
        cases mv_tgt pc off with
        | none => exact ab_ok_none
        | some t => exact ab_ok_mk hl hs1 hh
  · exact ab_ok_none
end ABI
end
section
/-! boxes: the instructions on the heap -/
section
variable (G : mv_G) (y pc : Nat) (l : ab_L) (st : List ab_V) (h : ab_H) (cb sb : Nat)
def ab_get (idx : Nat) : Option ab_S := match st with
  | .inl (.ref a) :: r => match ab_at h a, mv_gF G y idx with
    | some (.inr (.inr (ci, N, F))), some (cj, k) => bif Nat.beq ci cj && Nat.blt k N then ab_mk (pc + 3) l (F k :: r) h cb sb else none
    | _, _ => none
  | _ => none
/-- may this value stand in a field of this type -/
def ab_fit (ty : FieldType) : ab_V → Bool
  | .inl v => decide (narrow ty v = v) && fits ty v
  | .inr _ => decide (ty = .int)
def ab_put_ (idx : Nat) : Option ab_S := match st with
  | v :: .inl (.ref a) :: r => match ab_at h a, mv_gF G y idx with
    | some (.inr (.inr (ci, N, F))), some (cj, k) => match mv_gT G cj k with
      | some ty => bif Nat.beq ci cj && Nat.blt k N && ab_fit ty v && (!mv_gP G cj k || mv_gQ G y cj) then ab_mk (pc + 3) l r (ab_put h a (.inr (.inr (ci, N, fun j => bif Nat.beq j k then v else F j)))) cb sb else none
      | none => none
    | _, _ => none
  | _ => none
def ab_new (idx : Nat) : Option ab_S := match mv_gN G y idx with
  | some ci => bif Nat.ble 1 cb && Nat.ble (mv_gZ G ci) sb && (mv_gD G ci).all (fun v => Nat.beq v.category 1) then ab_fn (cb - 1) fun cb' => ab_fn (sb - mv_gZ G ci) fun sb' => ab_fn h.1 fun q => ab_mk (pc + 3) l (.inl (.ref q) :: st) (ab_app h (.inr (.inr (ci, (mv_gD G ci).length, fun k => .inl ((mv_gD G ci).getD k .null))))) cb' sb' else none
  | none => none
def ab_newa (at_ : ArrayType) : Option ab_S := match st with
  | .inl (.int n) :: r => match mv_prim at_ with
    | some t => if ¬ n < 0 ∧ n.toNatClampNeg ≤ 134217728 ∧ 1 ≤ cb ∧ n.toNatClampNeg ≤ sb then ab_fn (cb - 1) fun cb' => ab_fn (sb - n.toNatClampNeg) fun sb' => ab_fn n.toNatClampNeg fun len => ab_fn h.1 fun q => ab_mk (pc + 2) l (.inl (.ref q) :: r) (ab_app h (.inl (t, len, fun _ => .inl (.int 0)))) cb' sb' else none
    | none => none
  | _ => none
def ab_anew (idx : Nat) : Option ab_S := match st with
  | .inl (.int n) :: r => match mv_gA G y idx with
    | some t => if ¬ n < 0 ∧ n.toNatClampNeg ≤ 134217728 ∧ 1 ≤ cb ∧ n.toNatClampNeg ≤ sb then ab_fn (cb - 1) fun cb' => ab_fn (sb - n.toNatClampNeg) fun sb' => ab_fn n.toNatClampNeg fun len => ab_fn h.1 fun q => ab_mk (pc + 3) l (.inl (.ref q) :: r) (ab_app h (.inr (.inl (t, len, fun _ => none)))) cb' sb' else none
    | none => none
  | _ => none
def ab_iald : Option ab_S := match st with
  | .inl (.int i) :: .inl (.ref a) :: r => match ab_at h a with
    | some (.inl (t, n, F)) => bif Nat.beq t 0 && !mv_out i n then ab_mk (pc + 1) l (F i.toNatClampNeg :: r) h cb sb else none
    | _ => none
  | _ => none
def ab_bald : Option ab_S := match st with
  | .inl (.int i) :: .inl (.ref a) :: r => match ab_at h a with
    | some (.inl (t, n, F)) => bif (Nat.beq t 1 || Nat.beq t 2) && !mv_out i n then ab_mk (pc + 1) l (F i.toNatClampNeg :: r) h cb sb else none
    | _ => none
  | _ => none
def ab_aald : Option ab_S := match st with
  | .inl (.int i) :: .inl (.ref a) :: r => match ab_at h a with
    | some (.inr (.inl (t, n, g))) => match mv_gY G t with
      | some ty => bif ty.isReference && !mv_out i n then (match g i.toNatClampNeg with
        | some q => ab_fn q fun q' => ab_mk (pc + 1) l (.inl (.ref q') :: r) h cb sb
        | none => ab_mk (pc + 1) l (.inl .null :: r) h cb sb) else none
      | none => none
    | _ => none
  | _ => none
def ab_iast : Option ab_S := match st with
  | x :: .inl (.int i) :: .inl (.ref a) :: r => match ab_at h a with
    | some (.inl (t, n, F)) => bif Nat.beq t 0 && !mv_out i n && ab_int x then ab_fn i.toNatClampNeg fun j => ab_mk (pc + 1) l r (ab_put h a (.inl (t, n, fun k => bif Nat.beq k j then x else F k))) cb sb else none
    | _ => none
  | _ => none
def ab_bast : Option ab_S := match st with
  | x :: .inl (.int i) :: .inl (.ref a) :: r => match ab_at h a with
    | some (.inl (t, n, F)) => bif (Nat.beq t 1 || Nat.beq t 2) && !mv_out i n && ab_int x then ab_fn i.toNatClampNeg fun j => (match x with
        | .inl (.int v) => ab_fi (if t = 1 then vp_nar .byte v else vp_nar .boolean v) fun w => ab_mk (pc + 1) l r (ab_put h a (.inl (t, n, fun k => bif Nat.beq k j then .inl (.int w) else F k))) cb sb
        | _ => ab_mk (pc + 1) l r (ab_put h a (.inl (t, n, fun k => bif Nat.beq k j then ab_full else F k))) cb sb) else none
    | _ => none
  | _ => none
def ab_aast : Option ab_S := match st with
  | v :: .inl (.int i) :: .inl (.ref a) :: r => match ab_at h a with
    | some (.inr (.inl (t, n, g))) => match mv_gE G t with
      | some ci => bif !mv_out i n then ab_fn i.toNatClampNeg fun j => (match v with
          | .inl .null => ab_mk (pc + 1) l r (ab_put h a (.inr (.inl (t, n, va_up g j none)))) cb sb
          | .inl (.ref b) => match ab_at h b with
            | some (.inr (.inr (cj, _, _))) => bif Nat.beq cj ci then ab_mk (pc + 1) l r (ab_put h a (.inr (.inl (t, n, va_up g j (some b))))) cb sb else none
            | _ => none
          | _ => none) else none
      | none => none
    | _ => none
  | _ => none
def ab_alen : Option ab_S := match st with
  | .inl (.ref a) :: r => match ab_at h a with
    | some (.inl (t, n, _)) => (match mv_gY G t with
      | some _ => ab_fi (Int32.ofNat n) fun w => ab_mk (pc + 1) l (.inl (.int w) :: r) h cb sb
      | none => none)
    | some (.inr (.inl (t, n, _))) => (match mv_gY G t with
      | some _ => ab_fi (Int32.ofNat n) fun w => ab_mk (pc + 1) l (.inl (.int w) :: r) h cb sb
      | none => none)
    | _ => none
  | _ => none
def ab_ldc (idx len : Nat) : Option ab_S := match mv_gK G y idx with
  | some (.int v) => ab_fi v fun w => ab_mk (pc + len) l (.inl (.int w) :: st) h cb sb
  | some (.ref a) => ab_mk (pc + len) l (.inl (.ref a) :: st) h cb sb
  | _ => none
/-- a grid's cells -/
def ab_grid2 (t t1 n k q : Nat) (j : Nat) : ab_E := match j with
  | 0 => .inr (.inl (t, n, fun i => if i < n then some (q + 1 + i * 1) else none))
  | _ + 1 => .inl (t1, k, fun _ => .inl (.int 0))
def ab_grid3 (t t1 t2 n k j q : Nat) (x : Nat) : ab_E := match x with
  | 0 => .inr (.inl (t, n, fun i => if i < n then some (q + 1 + i * (k + 1)) else none))
  | z + 1 => ab_grid2 t1 t2 k j (q + 1 + z / (k + 1) * (k + 1)) (z % (k + 1))
def ab_multi (idx d : Nat) : Option ab_S := match mv_gM G y idx with
  | some (t, t1, t2) => match st with
    | .inl (.int k) :: .inl (.int n) :: r => if d = 2 then
        if t2 = 0 ∧ ¬ n < 0 ∧ ¬ k < 0 ∧ n.toNatClampNeg ≤ 65536 ∧ k.toNatClampNeg ≤ 65536 ∧ 1 + n.toNatClampNeg ≤ cb ∧ n.toNatClampNeg + n.toNatClampNeg * k.toNatClampNeg ≤ sb then
          ab_fn n.toNatClampNeg fun n' => ab_fn k.toNatClampNeg fun k' => ab_fn h.1 fun q => ab_fn (cb - (1 + n')) fun cb' => ab_fn (sb - (n' + n' * k')) fun sb' => ab_mk (pc + 4) l (.inl (.ref q) :: r) (ab_apps h (n' + 1) (ab_grid2 t t1 n' k' q)) cb' sb'
        else none
      else match r with
        | .inl (.int z) :: r => if d = 3 ∧ 0 < t2 ∧ ¬ z < 0 ∧ ¬ n < 0 ∧ ¬ k < 0 ∧ z.toNatClampNeg ≤ 65536 ∧ n.toNatClampNeg ≤ 65536 ∧ k.toNatClampNeg ≤ 65536 ∧ 1 + z.toNatClampNeg * (n.toNatClampNeg + 1) ≤ cb ∧ z.toNatClampNeg + z.toNatClampNeg * (n.toNatClampNeg + n.toNatClampNeg * k.toNatClampNeg) ≤ sb then
            ab_fn z.toNatClampNeg fun z' => ab_fn n.toNatClampNeg fun n' => ab_fn k.toNatClampNeg fun k' => ab_fn h.1 fun q => ab_fn (cb - (1 + z' * (n' + 1))) fun cb' => ab_fn (sb - (z' + z' * (n' + n' * k'))) fun sb' => ab_mk (pc + 4) l (.inl (.ref q) :: r) (ab_apps h (1 + z' * (n' + 1)) (ab_grid3 t t1 t2 z' n' k' q)) cb' sb'
          else none
        | _ => none
    | _ => none
  | none => none
end
section ABH
variable {G : mv_G} {y pc : Nat} {l : ab_L} {st : List ab_V} {h : ab_H} {cb sb : Nat} {lo : List (Nat × Value)} {ss : List Value} {hp : List va_E}
theorem ab_get_ok {idx : Nat} (hl : ab_gl l lo) (hs : ab_gs st ss) (hh : ab_gh h hp) : ab_ok (ab_get G y pc l st h cb sb idx) (mv_get G y pc lo ss hp cb sb idx) := by
  unfold ab_get
  split
  · rename_i a r
    obtain ⟨w1, t1, rfl, g1, hs1⟩ := ab_gs_cons hs
    rw [g1.1]
    split
    · rename_i ci N F cj k ha hf
      cases hb : (Nat.beq ci cj && Nat.blt k N) with
      | false => exact ab_ok_none
      | true =>
        rw [Bool.and_eq_true] at hb
        obtain ⟨e, he, fs, rfl, hn, hF⟩ := ab_at_ok hh ha
        unfold mv_get
        dsimp only
        rw [he, hf]
        dsimp only
        rw [if_pos (Nat.eq_of_beq_eq_true hb.1)]
        have hk : k < fs.length := by rw [hn]; exact Nat.le_of_ble_eq_true hb.2
        rw [List.getElem?_eq_getElem hk]
        exact ab_ok_mk hl ⟨hF k _ (List.getElem?_eq_getElem hk), hs1⟩ hh
    · exact ab_ok_none
  · exact ab_ok_none
theorem ab_fit_ok : ∀ {ty : FieldType} {v : ab_V} {w : Value}, ab_g v w → ab_fit ty v = true → narrow ty w = w ∧ fits ty w = true
  | ty, .inl v, w, h, hb => by
    rw [h.1]
    unfold ab_fit at hb
    rw [Bool.and_eq_true] at hb
    exact ⟨of_decide_eq_true hb.1, hb.2⟩
  | ty, .inr v, w, h, hb => by
    have e : ty = .int := of_decide_eq_true hb
    obtain ⟨x, rfl⟩ := ab_int_at h rfl
    rw [e]
    exact ⟨rfl, rfl⟩
theorem ab_put_ok_ {idx : Nat} (hl : ab_gl l lo) (hs : ab_gs st ss) (hh : ab_gh h hp) : ab_ok (ab_put_ G y pc l st h cb sb idx) (mv_put G y pc lo ss hp cb sb idx) := by
  unfold ab_put_
  split
  · rename_i v a r
    obtain ⟨w1, t1, rfl, g1, hs1⟩ := ab_gs_cons hs
    obtain ⟨w2, t2, rfl, g2, hs2⟩ := ab_gs_cons hs1
    rw [g2.1]
    split
    · rename_i ci N F cj k ha hf
      split
      · rename_i ty hty
        cases hb : (Nat.beq ci cj && Nat.blt k N && ab_fit ty v && (!mv_gP G cj k || mv_gQ G y cj)) with
        | false => exact ab_ok_none
        | true =>
          simp only [Bool.and_eq_true] at hb
          obtain ⟨⟨⟨b1, b2⟩, b3⟩, b4⟩ := hb
          obtain ⟨e, he, fs, rfl, hn, hF⟩ := ab_at_ok hh ha
          have hk : k < fs.length := by rw [hn]; exact Nat.le_of_ble_eq_true b2
          obtain ⟨f1, f2⟩ := ab_fit_ok g1 b3
          unfold mv_put
          dsimp only
          rw [he, hf]
          dsimp only
          rw [hty]
          dsimp only
          rw [if_pos ⟨Nat.eq_of_beq_eq_true b1, f1, f2, hk, fun hp => by rw [hp] at b4; simpa using b4⟩]
          refine ab_ok_mk hl hs2 (ab_put_ok hh ⟨fs.set k w1, rfl, by rw [List.length_set]; exact hn, fun j u hj => ?_⟩)
          show ab_g (bif Nat.beq j k then v else F j) u
          by_cases hkj : k = j
          · subst hkj
            rw [List.getElem?_set_self hk] at hj
            cases hj
            rw [Nat.beq_refl]
            exact g1
          · rw [List.getElem?_set_ne hkj] at hj
            cases hq : Nat.beq j k with
            | true => exact absurd (Nat.eq_of_beq_eq_true hq).symm hkj
            | false => exact hF j u hj
      · exact ab_ok_none
    · exact ab_ok_none
  · exact ab_ok_none
theorem ab_new_ok {idx : Nat} (hl : ab_gl l lo) (hs : ab_gs st ss) (hh : ab_gh h hp) : ab_ok (ab_new G y pc l st h cb sb idx) (mv_new G y pc lo ss hp cb sb idx) := by
  unfold ab_new
  split
  · rename_i ci hci
    cases hb : (Nat.ble 1 cb && Nat.ble (mv_gZ G ci) sb && (mv_gD G ci).all (fun v => Nat.beq v.category 1)) with
    | false => exact ab_ok_none
    | true =>
      simp only [Bool.and_eq_true] at hb
      obtain ⟨⟨b1, b2⟩, b3⟩ := hb
      unfold mv_new
      rw [hci]
      dsimp only
      rw [if_pos ⟨Nat.le_of_ble_eq_true b1, Nat.le_of_ble_eq_true b2⟩]
      rw [cond_true, ab_fn_eq, ab_fn_eq, ab_fn_eq, ← hh.1]
      refine ab_ok_mk hl ⟨⟨rfl, rfl⟩, hs⟩ (ab_app_ok hh ⟨_, rfl, rfl, fun k v hv => ?_⟩)
      refine ⟨?_, ?_⟩
      · rw [List.getD_eq_getElem?_getD, hv]
        rfl
      · rw [List.getD_eq_getElem?_getD, hv]
        exact Nat.eq_of_beq_eq_true (List.all_eq_true.mp b3 v (List.mem_of_getElem? hv))
  · exact ab_ok_none
theorem ab_newa_ok {at_ : ArrayType} (hl : ab_gl l lo) (hs : ab_gs st ss) (hh : ab_gh h hp) : ab_ok (ab_newa pc l st h cb sb at_) (mv_newa pc lo ss hp cb sb at_) := by
  unfold ab_newa
  split
  · rename_i n r
    obtain ⟨w1, t1, rfl, g1, hs1⟩ := ab_gs_cons hs
    rw [g1.1]
    unfold mv_newa
    dsimp only
    split
    · rename_i t ht
      rw [ht]
      dsimp only
      split
      · rename_i hc
        rw [ab_fn_eq, ab_fn_eq, ab_fn_eq, ab_fn_eq, ← hh.1]
        exact ab_ok_mk hl ⟨⟨rfl, rfl⟩, hs1⟩ (ab_app_ok hh ⟨_, rfl, fun k => ⟨rfl, rfl⟩⟩)
      · exact ab_ok_none
    · exact ab_ok_none
  · exact ab_ok_none
theorem ab_anew_ok {idx : Nat} (hl : ab_gl l lo) (hs : ab_gs st ss) (hh : ab_gh h hp) : ab_ok (ab_anew G y pc l st h cb sb idx) (mv_anew G y pc lo ss hp cb sb idx) := by
  unfold ab_anew
  split
  · rename_i n r
    obtain ⟨w1, t1, rfl, g1, hs1⟩ := ab_gs_cons hs
    rw [g1.1]
    unfold mv_anew
    dsimp only
    split
    · rename_i t ht
      rw [ht]
      dsimp only
      split
      · rename_i hc
        rw [ab_fn_eq, ab_fn_eq, ab_fn_eq, ab_fn_eq, ← hh.1]
        exact ab_ok_mk hl ⟨⟨rfl, rfl⟩, hs1⟩ (ab_app_ok hh rfl)
      · exact ab_ok_none
    · exact ab_ok_none
  · exact ab_ok_none
theorem ab_iald_ok (hl : ab_gl l lo) (hs : ab_gs st ss) (hh : ab_gh h hp) : ab_ok (ab_iald pc l st h cb sb) (mv_iald pc lo ss hp cb sb) := by
  unfold ab_iald
  split
  · rename_i i a r
    obtain ⟨w1, t1, rfl, g1, hs1⟩ := ab_gs_cons hs
    obtain ⟨w2, t2, rfl, g2, hs2⟩ := ab_gs_cons hs1
    rw [g1.1, g2.1]
    split
    · rename_i t n F ha
      cases hb : (Nat.beq t 0 && !mv_out i n) with
      | false => exact ab_ok_none
      | true =>
        rw [Bool.and_eq_true] at hb
        obtain ⟨e, he, f, rfl, hf⟩ := ab_at_ok hh ha
        have ht : t = 0 := Nat.eq_of_beq_eq_true hb.1
        subst ht
        unfold mv_iald
        dsimp only
        rw [he]
        show ab_ok _ (if mv_out i n = true then none else some (.inl (pc + 1, lo, .int (f i.toNatClampNeg) :: t2, hp, cb, sb)))
        rw [if_neg (show ¬ mv_out i n = true by have := hb.2; simpa using this)]
        exact ab_ok_mk hl ⟨hf _, hs2⟩ hh
    · exact ab_ok_none
  · exact ab_ok_none
theorem ab_bald_ok (hl : ab_gl l lo) (hs : ab_gs st ss) (hh : ab_gh h hp) : ab_ok (ab_bald pc l st h cb sb) (mv_bald pc lo ss hp cb sb) := by
  unfold ab_bald
  split
  · rename_i i a r
    obtain ⟨w1, t1, rfl, g1, hs1⟩ := ab_gs_cons hs
    obtain ⟨w2, t2, rfl, g2, hs2⟩ := ab_gs_cons hs1
    rw [g1.1, g2.1]
    split
    · rename_i t n F ha
      cases hb : ((Nat.beq t 1 || Nat.beq t 2) && !mv_out i n) with
      | false => exact ab_ok_none
      | true =>
        rw [Bool.and_eq_true, Bool.or_eq_true] at hb
        obtain ⟨e, he, f, rfl, hf⟩ := ab_at_ok hh ha
        unfold mv_bald
        dsimp only
        rw [he]
        dsimp only
        rw [if_pos ⟨hb.1.imp Nat.eq_of_beq_eq_true Nat.eq_of_beq_eq_true, by have := hb.2; simpa using this⟩]
        exact ab_ok_mk hl ⟨hf _, hs2⟩ hh
    · exact ab_ok_none
  · exact ab_ok_none
theorem ab_aald_ok (hl : ab_gl l lo) (hs : ab_gs st ss) (hh : ab_gh h hp) : ab_ok (ab_aald G pc l st h cb sb) (mv_aald G pc lo ss hp cb sb) := by
  unfold ab_aald
  split
  · rename_i i a r
    obtain ⟨w1, t1, rfl, g1, hs1⟩ := ab_gs_cons hs
    obtain ⟨w2, t2, rfl, g2, hs2⟩ := ab_gs_cons hs1
    rw [g1.1, g2.1]
    split
    · rename_i t n g ha
      split
      · rename_i ty hty
        cases hb : (ty.isReference && !mv_out i n) with
        | false => exact ab_ok_none
        | true =>
          rw [Bool.and_eq_true] at hb
          obtain ⟨e, he, h1⟩ := ab_at_ok hh ha
          have h1 : e = .inl (t, n, .inr (.inr (.inr (.inr g)))) := h1
          subst h1
          unfold mv_aald
          dsimp only
          rw [he]
          dsimp only
          rw [hty]
          dsimp only
          rw [if_pos ⟨hb.1, by have := hb.2; simpa using this⟩]
          show ab_ok (match g i.toNatClampNeg with | some q => ab_fn q fun q' => ab_mk (pc + 1) l (.inl (.ref q') :: r) h cb sb | none => ab_mk (pc + 1) l (.inl .null :: r) h cb sb) _
          cases g i.toNatClampNeg with
          | none => exact ab_ok_mk hl ⟨⟨rfl, rfl⟩, hs2⟩ hh
          | some q =>
            dsimp only
            rw [ab_fn_eq]
            exact ab_ok_mk hl ⟨⟨rfl, rfl⟩, hs2⟩ hh
      · exact ab_ok_none
    · exact ab_ok_none
  · exact ab_ok_none
theorem ab_updi {F : Nat → ab_V} {f : Nat → Int32} (hf : ∀ k, ab_g (F k) (.int (f k))) {v : ab_V} {x : Int32} (hv : ab_g v (.int x)) (j k : Nat) : ab_g (bif Nat.beq k j then v else F k) (.int (upd f j x k)) := by
  unfold upd
  cases hq : Nat.beq k j with
  | true =>
    have := Nat.eq_of_beq_eq_true hq
    simp [this]
    exact hv
  | false =>
    have hne : k ≠ j := fun q => by rw [q, Nat.beq_refl] at hq; cases hq
    simp [hne]
    exact hf k
theorem ab_iast_ok (hl : ab_gl l lo) (hs : ab_gs st ss) (hh : ab_gh h hp) : ab_ok (ab_iast pc l st h cb sb) (mv_iast pc lo ss hp cb sb) := by
  unfold ab_iast
  split
  · rename_i x i a r
    obtain ⟨w0, t0, rfl, g0, hs0⟩ := ab_gs_cons hs
    obtain ⟨w1, t1, rfl, g1, hs1⟩ := ab_gs_cons hs0
    obtain ⟨w2, t2, rfl, g2, hs2⟩ := ab_gs_cons hs1
    rw [g1.1, g2.1]
    split
    · rename_i t n F ha
      cases hb : (Nat.beq t 0 && !mv_out i n && ab_int x) with
      | false => exact ab_ok_none
      | true =>
        simp only [Bool.and_eq_true] at hb
        obtain ⟨⟨b1, b2⟩, b3⟩ := hb
        obtain ⟨e, he, f, rfl, hf⟩ := ab_at_ok hh ha
        have ht : t = 0 := Nat.eq_of_beq_eq_true b1
        subst ht
        obtain ⟨v, rfl⟩ := ab_int_at g0 b3
        unfold mv_iast
        dsimp only
        rw [he]
        show ab_ok _ (if mv_out i n = true then none else some (.inl (pc + 1, lo, t2, hp.set a (.inl (0, n, .inl (upd f i.toNatClampNeg v))), cb, sb)))
        rw [if_neg (show ¬ mv_out i n = true by simpa using b2)]
        rw [cond_true, ab_fn_eq]
        exact ab_ok_mk hl hs2 (ab_put_ok hh ⟨_, rfl, fun k => ab_updi hf g0 _ k⟩)
    · exact ab_ok_none
  · exact ab_ok_none
theorem ab_bast_ok (hl : ab_gl l lo) (hs : ab_gs st ss) (hh : ab_gh h hp) : ab_ok (ab_bast pc l st h cb sb) (mv_bast pc lo ss hp cb sb) := by
  unfold ab_bast
  split
  · rename_i x i a r
    obtain ⟨w0, t0, rfl, g0, hs0⟩ := ab_gs_cons hs
    obtain ⟨w1, t1, rfl, g1, hs1⟩ := ab_gs_cons hs0
    obtain ⟨w2, t2, rfl, g2, hs2⟩ := ab_gs_cons hs1
    rw [g1.1, g2.1]
    split
    · rename_i t n F ha
      cases hb : ((Nat.beq t 1 || Nat.beq t 2) && !mv_out i n && ab_int x) with
      | false => exact ab_ok_none
      | true =>
        simp only [Bool.and_eq_true, Bool.or_eq_true] at hb
        obtain ⟨⟨b1, b2⟩, b3⟩ := hb
        obtain ⟨e, he, f, rfl, hf⟩ := ab_at_ok hh ha
        obtain ⟨v, rfl⟩ := ab_int_at g0 b3
        have b1 : t = 1 ∨ t = 2 := b1.imp Nat.eq_of_beq_eq_true Nat.eq_of_beq_eq_true
        have hout : mv_out i n = false := by simpa using b2
        have hm : mv_bast pc lo (Value.int v :: Value.int i :: Value.ref a :: t2) hp cb sb = some (.inl (pc + 1, lo, t2, hp.set a (.inl (t, n, .inl (upd f i.toNatClampNeg (if t = 1 then vp_nar .byte v else vp_nar .boolean v)))), cb, sb)) := by
          unfold mv_bast
          dsimp only
          rw [he]
          dsimp only
          rw [if_pos hout]
          rcases b1 with rfl | rfl
          · rfl
          · rfl
        rw [hm]
        rw [cond_true, ab_fn_eq]
        split
        · rename_i v' 
          have e1 : v = _ := Value.int.inj g0.1
          rw [ab_fi_eq, ← e1]
          exact ab_ok_mk hl hs2 (ab_put_ok hh ⟨_, rfl, fun k => ab_updi hf (show ab_g (.inl (.int _)) (.int _) from ⟨rfl, rfl⟩) _ k⟩)
        · exact ab_ok_mk hl hs2 (ab_put_ok hh ⟨_, rfl, fun k => ab_updi hf (ab_full_ok _) _ k⟩)
    · exact ab_ok_none
  · exact ab_ok_none
theorem ab_aast_ok (hl : ab_gl l lo) (hs : ab_gs st ss) (hh : ab_gh h hp) : ab_ok (ab_aast G pc l st h cb sb) (mv_aast G pc lo ss hp cb sb) := by
  unfold ab_aast
  split
  · rename_i v i a r
    obtain ⟨w0, t0, rfl, g0, hs0⟩ := ab_gs_cons hs
    obtain ⟨w1, t1, rfl, g1, hs1⟩ := ab_gs_cons hs0
    obtain ⟨w2, t2, rfl, g2, hs2⟩ := ab_gs_cons hs1
    rw [g1.1, g2.1]
    split
    · rename_i t n g ha
      split
      · rename_i ci hci
        cases hb : mv_out i n with
        | true => exact ab_ok_none
        | false =>
          obtain ⟨e, he, h1⟩ := ab_at_ok hh ha
          have h1 : e = .inl (t, n, .inr (.inr (.inr (.inr g)))) := h1
          subst h1
          unfold mv_aast
          dsimp only
          rw [he]
          dsimp only
          rw [hci]
          dsimp only
          rw [if_pos hb]
          rw [Bool.not_false, cond_true, ab_fn_eq]
          split
          · rw [g0.1]
            exact ab_ok_mk hl hs2 (ab_put_ok hh rfl)
          · rename_i b
            rw [g0.1]
            split
            · rename_i cj N F hb2
              cases hq : Nat.beq cj ci with
              | false => exact ab_ok_none
              | true =>
                obtain ⟨e2, he2, fs, rfl, -⟩ := ab_at_ok hh hb2
                dsimp only
                rw [he2]
                dsimp only
                rw [if_pos (Nat.eq_of_beq_eq_true hq)]
                exact ab_ok_mk hl hs2 (ab_put_ok hh rfl)
            · exact ab_ok_none
          · exact ab_ok_none
      · exact ab_ok_none
    · exact ab_ok_none
  · exact ab_ok_none
theorem ab_alen_ok (hl : ab_gl l lo) (hs : ab_gs st ss) (hh : ab_gh h hp) : ab_ok (ab_alen G pc l st h cb sb) (mv_alen G pc lo ss hp cb sb) := by
  unfold ab_alen
  split
  · rename_i a r
    obtain ⟨w1, t1, rfl, g1, hs1⟩ := ab_gs_cons hs
    rw [g1.1]
    split
    · rename_i t n F ha
      obtain ⟨e, he, f, rfl, hf⟩ := ab_at_ok hh ha
      unfold mv_alen
      dsimp only
      rw [he]
      dsimp only
      split
      · rename_i ty hty
        rw [ab_fi_eq]
        try rw [hty]
        exact ab_ok_mk hl ⟨⟨rfl, rfl⟩, hs1⟩ hh
      · exact ab_ok_none
    · rename_i t n g ha
      obtain ⟨e, he, h1⟩ := ab_at_ok hh ha
      have h1 : e = .inl (t, n, .inr (.inr (.inr (.inr g)))) := h1
      subst h1
      unfold mv_alen
      dsimp only
      rw [he]
      dsimp only
      split
      · rename_i ty hty
        rw [ab_fi_eq]
        try rw [hty]
        exact ab_ok_mk hl ⟨⟨rfl, rfl⟩, hs1⟩ hh
      · exact ab_ok_none
    · exact ab_ok_none
  · exact ab_ok_none
theorem ab_ldc_ok {idx len : Nat} (hl : ab_gl l lo) (hs : ab_gs st ss) (hh : ab_gh h hp) : ab_ok (ab_ldc G y pc l st h cb sb idx len) (mv_ldc G y pc lo ss hp cb sb idx len) := by
  unfold ab_ldc mv_ldc
  split
  · rename_i v hv
    rw [ab_fi_eq, hv]
    exact ab_ok_mk hl ⟨⟨rfl, rfl⟩, hs⟩ hh
  · rename_i a ha
    rw [ha]
    exact ab_ok_mk hl ⟨⟨rfl, rfl⟩, hs⟩ hh
  · exact ab_ok_none
theorem ab_grid2_ok {t t1 n k q j : Nat} {e : va_E} (he : (mv_grid2 t t1 n k q)[j]? = some e) : ab_ge (ab_grid2 t t1 n k q j) e := by
  unfold mv_grid2 at he
  cases j with
  | zero =>
    cases he
    rfl
  | succ j =>
    rw [List.getElem?_cons_succ] at he
    unfold mv_rows at he
    have h1 := List.mem_of_getElem? he
    have h2 := (List.mem_replicate.mp h1).2
    exact ⟨_, h2, fun k => ⟨rfl, rfl⟩⟩
theorem ab_grid2_len (t t1 n k q : Nat) : (mv_grid2 t t1 n k q).length = n + 1 := by
  unfold mv_grid2 mv_rows
  rw [List.length_cons, List.length_replicate]
theorem ab_blocks_ok {t1 t2 k j q : Nat} : ∀ (i : Nat), (mv_blocks t1 t2 k j q i).length = i * (k + 1) ∧ ∀ (z : Nat) (e : va_E), (mv_blocks t1 t2 k j q i)[z]? = some e → ab_ge (ab_grid2 t1 t2 k j (q + z / (k + 1) * (k + 1)) (z % (k + 1))) e
  | 0 => ⟨by simp [mv_blocks], fun z e h => by simp [mv_blocks] at h⟩
  | i + 1 => by
    obtain ⟨h1, h2⟩ := ab_blocks_ok (t1 := t1) (t2 := t2) (k := k) (j := j) (q := q) i
    refine ⟨?_, fun z e h => ?_⟩
    · unfold mv_blocks
      rw [List.length_append, h1, ab_grid2_len, Nat.succ_mul]
    · unfold mv_blocks at h
      rcases Nat.lt_or_ge z (i * (k + 1)) with hz | hz
      · rw [List.getElem?_append_left (by rw [h1]; exact hz)] at h
        exact h2 z e h
      · rw [List.getElem?_append_right (by rw [h1]; exact hz), h1] at h
        have hlt : z - i * (k + 1) < k + 1 := by
          have := (List.getElem?_eq_some_iff.mp h).1
          rw [ab_grid2_len] at this
          exact this
        have e1 : z = (z - i * (k + 1)) + (k + 1) * i := by have := Nat.mul_comm (k + 1) i; omega
        have e2 : z / (k + 1) = i := by
          rw [e1, Nat.add_mul_div_left _ _ (Nat.succ_pos k), Nat.div_eq_of_lt hlt, Nat.zero_add]
        have e3 : z % (k + 1) = z - i * (k + 1) := by
          have h9 : z % (k + 1) = (z - i * (k + 1)) % (k + 1) := by
            conv => lhs; rw [e1, Nat.add_mul_mod_self_left]
          rw [h9, Nat.mod_eq_of_lt hlt]
        rw [e2, e3]
        exact ab_grid2_ok h
theorem ab_multi_ok {idx d : Nat} (hl : ab_gl l lo) (hs : ab_gs st ss) (hh : ab_gh h hp) : ab_ok (ab_multi G y pc l st h cb sb idx d) (mv_multi G y pc lo ss hp cb sb idx d) := by
  unfold ab_multi
  split
  · rename_i t t1 t2 hM
    split
    · rename_i k n r
      obtain ⟨w1, r1, rfl, g1, hs1⟩ := ab_gs_cons hs
      obtain ⟨w2, r2, rfl, g2, hs2⟩ := ab_gs_cons hs1
      rw [g1.1, g2.1]
      unfold mv_multi
      rw [hM]
      dsimp only
      split
      · split
        · rw [ab_fn_eq, ab_fn_eq, ab_fn_eq, ab_fn_eq, ab_fn_eq, ← hh.1]
          exact ab_ok_mk hl ⟨⟨rfl, rfl⟩, hs2⟩ (ab_apps_ok hh (ab_grid2_len _ _ _ _ _) fun j e he => ab_grid2_ok he)
        · exact ab_ok_none
      · split
        · rename_i z r'
          obtain ⟨w3, r3, rfl, g3, hs3⟩ := ab_gs_cons hs2
          rw [g3.1]
          dsimp only
          split
          · rw [ab_fn_eq, ab_fn_eq, ab_fn_eq, ab_fn_eq, ab_fn_eq, ab_fn_eq, ← hh.1]
            refine ab_ok_mk hl ⟨⟨rfl, rfl⟩, hs3⟩ (ab_apps_ok hh ?_ fun j e he => ?_)
            · unfold mv_grid3
              rw [List.length_cons, (ab_blocks_ok _).1, Nat.add_comm]
            · unfold mv_grid3 at he
              cases j with
              | zero =>
                cases he
                rfl
              | succ j =>
                rw [List.getElem?_cons_succ] at he
                exact (ab_blocks_ok _).2 j e he
          · exact ab_ok_none
        · exact ab_ok_none
    · exact ab_ok_none
  · exact ab_ok_none
end ABH
end
section
/-! boxes: the run -/
def ab_gd (n k : Nat) (o : Option ab_S) : Option ab_S := bif Nat.beq n k then o else none
theorem ab_gd_ok {n k : Nat} {o : Option ab_S} {r : Option mv_R} (h : ab_ok o r) : ab_ok (ab_gd n k o) (mv_g n k r) := by
  unfold ab_gd mv_g
  cases hb : Nat.beq n k with
  | false => exact ab_ok_none
  | true =>
    rw [cond_true, if_pos (Nat.eq_of_beq_eq_true hb)]
    exact h
def ab_ins (G : mv_G) (y pc : Nat) (l : ab_L) (st : List ab_V) (h : ab_H) (cb sb n : Nat) : Instr → Option ab_S
  | .aconst_null => ab_gd n 1 (ab_push pc l st h cb sb 1 (.inl .null))
  | .iconst v => ab_gd n 1 (ab_pushi pc l st h cb sb 1 (Int32.ofInt v))
  | .bipush v => ab_gd n 2 (ab_pushi pc l st h cb sb 2 (Int8.ofInt v).toInt32)
  | .sipush v => ab_gd n 3 (ab_pushi pc l st h cb sb 3 (Int16.ofInt v).toInt32)
  | .iload i => ab_gd n 2 (ab_load pc l st h cb sb i 2 ab_int)
  | .iload_n i => ab_gd n 1 (ab_load pc l st h cb sb i 1 ab_int)
  | .aload i => ab_gd n 2 (ab_load pc l st h cb sb i 2 ab_rfv)
  | .aload_n i => ab_gd n 1 (ab_load pc l st h cb sb i 1 ab_rfv)
  | .istore i => ab_gd n 2 (ab_store G y pc l st h cb sb i 2 ab_int)
  | .istore_n i => ab_gd n 1 (ab_store G y pc l st h cb sb i 1 ab_int)
  | .astore i => ab_gd n 2 (ab_store G y pc l st h cb sb i 2 ab_rfv)
  | .astore_n i => ab_gd n 1 (ab_store G y pc l st h cb sb i 1 ab_rfv)
  | .iadd => ab_gd n 1 (ab_bin pc l st h cb sb 2 mv_f_iadd)
  | .isub => ab_gd n 1 (ab_bin pc l st h cb sb 3 mv_f_isub)
  | .imul => ab_gd n 1 (ab_bin pc l st h cb sb 0 mv_f_imul)
  | .iand => ab_gd n 1 (ab_bin pc l st h cb sb 1 mv_f_iand)
  | .ior => ab_gd n 1 (ab_bin pc l st h cb sb 0 mv_f_ior)
  | .ixor => ab_gd n 1 (ab_bin pc l st h cb sb 0 mv_f_ixor)
  | .ishl => ab_gd n 1 (ab_bin pc l st h cb sb 0 mv_f_ishl)
  | .ishr => ab_gd n 1 (ab_bin pc l st h cb sb 0 mv_f_ishr)
  | .iushr => ab_gd n 1 (ab_bin pc l st h cb sb 0 mv_f_iushr)
  | .idiv => ab_gd n 1 (ab_dvd pc l st h cb sb mv_f_idiv)
  | .irem => ab_gd n 1 (ab_dvd pc l st h cb sb mv_f_irem)
  | .ineg => ab_gd n 1 (ab_un pc l st h cb sb mv_f_ineg)
  | .i2b => ab_gd n 1 (ab_un pc l st h cb sb mv_f_i2b)
  | .i2c => ab_gd n 1 (ab_un pc l st h cb sb mv_f_i2c)
  | .dup => ab_gd n 1 (ab_dup pc l st h cb sb)
  | .pop => ab_gd n 1 (ab_pop pc l st h cb sb)
  | .dup_x1 => ab_gd n 1 (ab_dupx pc l st h cb sb)
  | .dup2 => ab_gd n 1 (ab_dup2 pc l st h cb sb)
  | .goto off => ab_gd n 3 (ab_jump pc l h cb sb off true st)
  | .ifnull off => ab_gd n 3 (ab_ifn pc l st h cb sb true off)
  | .ifnonnull off => ab_gd n 3 (ab_ifn pc l st h cb sb false off)
  | .getfield idx => ab_gd n 3 (ab_get G y pc l st h cb sb idx)
  | .putfield idx => ab_gd n 3 (ab_put_ G y pc l st h cb sb idx)
  | .new idx => ab_gd n 3 (ab_new G y pc l st h cb sb idx)
  | .newarray at_ => ab_gd n 2 (ab_newa pc l st h cb sb at_)
  | .anewarray idx => ab_gd n 3 (ab_anew G y pc l st h cb sb idx)
  | .iaload => ab_gd n 1 (ab_iald pc l st h cb sb)
  | .baload => ab_gd n 1 (ab_bald pc l st h cb sb)
  | .aaload => ab_gd n 1 (ab_aald G pc l st h cb sb)
  | .iastore => ab_gd n 1 (ab_iast pc l st h cb sb)
  | .bastore => ab_gd n 1 (ab_bast pc l st h cb sb)
  | .arraylength => ab_gd n 1 (ab_alen G pc l st h cb sb)
  | .ldc idx => ab_gd n 2 (ab_ldc G y pc l st h cb sb idx 2)
  | .ldc_w idx => ab_gd n 3 (ab_ldc G y pc l st h cb sb idx 3)
  | .multianewarray idx d => ab_gd n 4 (ab_multi G y pc l st h cb sb idx d)
  | .aastore => ab_gd n 1 (ab_aast G pc l st h cb sb)
  | .iinc i v => if n = 3 then ab_inc G y pc l st h cb sb i v 3 else ab_gd n 6 (ab_inc G y pc l st h cb sb i v 6)
  | .ifCond c off => ab_gd n 3 (ab_if pc l st h cb sb c off)
  | .if_icmp c off => ab_gd n 3 (ab_icmp pc l st h cb sb c off)
  | .if_acmp c off => ab_gd n 3 (ab_acmp pc l st h cb sb c off)
  | .tableswitch d lw hg offs => ab_tsw pc l st h cb sb d lw hg offs
  | _ => none
theorem ab_ins_ok {G : mv_G} {y pc n : Nat} {l : ab_L} {st : List ab_V} {h : ab_H} {cb sb : Nat} {lo : List (Nat × Value)} {ss : List Value} {hp : List va_E} (hl : ab_gl l lo) (hs : ab_gs st ss) (hh : ab_gh h hp) (i : Instr) : ab_ok (ab_ins G y pc l st h cb sb n i) (mv_ins G y pc lo ss hp cb sb n i) := by
  cases i
  case aconst_null => exact ab_gd_ok (ab_push_ok hl hs hh ⟨rfl, rfl⟩)
  case iconst v => exact ab_gd_ok (ab_pushi_ok hl hs hh)
  case bipush v => exact ab_gd_ok (ab_pushi_ok hl hs hh)
  case sipush v => exact ab_gd_ok (ab_pushi_ok hl hs hh)
  case iload i => exact ab_gd_ok (ab_load_ok ab_int_ok hl hs hh)
  case iload_n i => exact ab_gd_ok (ab_load_ok ab_int_ok hl hs hh)
  case aload i => exact ab_gd_ok (ab_load_ok ab_rfv_ok hl hs hh)
  case aload_n i => exact ab_gd_ok (ab_load_ok ab_rfv_ok hl hs hh)
  case istore i => exact ab_gd_ok (ab_store_ok ab_int_ok hl hs hh)
  case istore_n i => exact ab_gd_ok (ab_store_ok ab_int_ok hl hs hh)
  case astore i => exact ab_gd_ok (ab_store_ok ab_rfv_ok hl hs hh)
  case astore_n i => exact ab_gd_ok (ab_store_ok ab_rfv_ok hl hs hh)
  case iadd => exact ab_gd_ok (ab_bin_ok (fun q => absurd q (by decide)) (fun _ => rfl) (fun q => absurd q (by decide)) hl hs hh)
  case isub => exact ab_gd_ok (ab_bin_ok (fun q => absurd q (by decide)) (fun q => absurd q (by decide)) (fun _ => rfl) hl hs hh)
  case iand => exact ab_gd_ok (ab_bin_ok (fun _ => rfl) (fun q => absurd q (by decide)) (fun q => absurd q (by decide)) hl hs hh)
  case idiv => exact ab_gd_ok (ab_dvd_ok hl hs hh)
  case irem => exact ab_gd_ok (ab_dvd_ok hl hs hh)
  case ineg => exact ab_gd_ok (ab_un_ok hl hs hh)
  case i2b => exact ab_gd_ok (ab_un_ok hl hs hh)
  case i2c => exact ab_gd_ok (ab_un_ok hl hs hh)
  case dup => exact ab_gd_ok (ab_dup_ok hl hs hh)
  case pop => exact ab_gd_ok (ab_pop_ok hl hs hh)
  case dup_x1 => exact ab_gd_ok (ab_dupx_ok hl hs hh)
  case dup2 => exact ab_gd_ok (ab_dup2_ok hl hs hh)
  case goto off => exact ab_gd_ok (ab_jump_ok hl hs hh)
  case ifnull off => exact ab_gd_ok (ab_ifn_ok hl hs hh)
  case ifnonnull off => exact ab_gd_ok (ab_ifn_ok hl hs hh)
  case getfield idx => exact ab_gd_ok (ab_get_ok hl hs hh)
  case putfield idx => exact ab_gd_ok (ab_put_ok_ hl hs hh)
  case new idx => exact ab_gd_ok (ab_new_ok hl hs hh)
  case newarray at_ => exact ab_gd_ok (ab_newa_ok hl hs hh)
  case anewarray idx => exact ab_gd_ok (ab_anew_ok hl hs hh)
  case iaload => exact ab_gd_ok (ab_iald_ok hl hs hh)
  case baload => exact ab_gd_ok (ab_bald_ok hl hs hh)
  case aaload => exact ab_gd_ok (ab_aald_ok hl hs hh)
  case iastore => exact ab_gd_ok (ab_iast_ok hl hs hh)
  case bastore => exact ab_gd_ok (ab_bast_ok hl hs hh)
  case arraylength => exact ab_gd_ok (ab_alen_ok hl hs hh)
  case ldc idx => exact ab_gd_ok (ab_ldc_ok hl hs hh)
  case ldc_w idx => exact ab_gd_ok (ab_ldc_ok hl hs hh)
  case multianewarray idx d => exact ab_gd_ok (ab_multi_ok hl hs hh)
  case aastore => exact ab_gd_ok (ab_aast_ok hl hs hh)
  case iinc i v =>
    show ab_ok (if n = 3 then ab_inc G y pc l st h cb sb i v 3 else ab_gd n 6 (ab_inc G y pc l st h cb sb i v 6)) (if n = 3 then mv_inc G y pc lo ss hp cb sb i v 3 else mv_g n 6 (mv_inc G y pc lo ss hp cb sb i v 6))
    by_cases hn : n = 3
    · rw [if_pos hn, if_pos hn]
      exact ab_inc_ok hl hs hh
    · rw [if_neg hn, if_neg hn]
      exact ab_gd_ok (ab_inc_ok hl hs hh)
  case ifCond c off => exact ab_gd_ok (ab_if_ok hl hs hh)
  case if_icmp c off => exact ab_gd_ok (ab_icmp_ok hl hs hh)
  case if_acmp c off => exact ab_gd_ok (ab_acmp_ok hl hs hh)
  case tableswitch d lw hg offs => exact ab_tsw_ok hl hs hh
  case imul => exact ab_gd_ok (ab_bin_ok (fun q => absurd q (by decide)) (fun q => absurd q (by decide)) (fun q => absurd q (by decide)) hl hs hh)
  case ior => exact ab_gd_ok (ab_bin_ok (fun q => absurd q (by decide)) (fun q => absurd q (by decide)) (fun q => absurd q (by decide)) hl hs hh)
  case ixor => exact ab_gd_ok (ab_bin_ok (fun q => absurd q (by decide)) (fun q => absurd q (by decide)) (fun q => absurd q (by decide)) hl hs hh)
  case ishl => exact ab_gd_ok (ab_bin_ok (fun q => absurd q (by decide)) (fun q => absurd q (by decide)) (fun q => absurd q (by decide)) hl hs hh)
  case ishr => exact ab_gd_ok (ab_bin_ok (fun q => absurd q (by decide)) (fun q => absurd q (by decide)) (fun q => absurd q (by decide)) hl hs hh)
  case iushr => exact ab_gd_ok (ab_bin_ok (fun q => absurd q (by decide)) (fun q => absurd q (by decide)) (fun q => absurd q (by decide)) hl hs hh)
  all_goals exact ab_ok_none
end
section
/-! boxes: a step of the run, with what has no bytecode, and calls -/
/-- the tables without the script -/
def ab_strip (G : mv_G) : mv_G := (mv_gI G, mv_gF G, mv_gN G, mv_gA G, mv_gC G, mv_gK G, mv_gL G, mv_gH G, mv_gZ G, mv_gD G, mv_gT G, mv_gP G, mv_gQ G, mv_gY G, mv_gE G, mv_gR G, mv_gW G, mv_gX G, mv_gM G, fun _ => none)
theorem ab_ins_strip (G : mv_G) (y pc : Nat) (l : ab_L) (st : List ab_V) (h : ab_H) (cb sb n : Nat) (i : Instr) : ab_ins (ab_strip G) y pc l st h cb sb n i = ab_ins G y pc l st h cb sb n i := by
  cases i <;> rfl
def ab_okN (o : Option ab_S) (r : Option mv_S) : Prop := ∀ A, o = some A → ∃ S, r = some S ∧ ab_gS A S
theorem ab_okN_none {r : Option mv_S} : ab_okN none r := fun _ h => by cases h
theorem ab_okN_mk {pc : Nat} {l : ab_L} {st : List ab_V} {h : ab_H} {cb sb : Nat} {lo : List (Nat × Value)} {ss : List Value} {hp : List va_E} (hl : ab_gl l lo) (hs : ab_gs st ss) (hh : ab_gh h hp) : ab_okN (ab_mk pc l st h cb sb) (some (pc, lo, ss, hp, cb, sb)) := fun A q => by
  rw [ab_mk_eq] at q
  cases q
  exact ⟨_, rfl, rfl, hl, hs, hh, rfl, rfl⟩
section
variable (G : mv_G) (Ls : Nat → Option Nat) (X : Nat → ab_V) (y pc : Nat) (l : ab_L) (st : List ab_V) (h : ab_H) (cb sb fb lb : Nat)
def ab_copy : Option ab_S := match st with
  | .inl (.int n) :: .inl (.int dp) :: .inl (.ref a1) :: .inl (.int sp) :: .inl (.ref a0) :: r => match ab_at h a0, ab_at h a1 with
    | some (.inl (t0, n0, F)), some (.inl (t1, n1, E)) =>
      if (t0 = t1 ∧ t0 < 3) ∧ (¬ sp < 0 ∧ ¬ dp < 0 ∧ ¬ n < 0) ∧ sp.toNatClampNeg + n.toNatClampNeg ≤ n0 ∧ dp.toNatClampNeg + n.toNatClampNeg ≤ n1 ∧ (t0 = 0 ∨ n.toNatClampNeg = 0) ∧ 1 ≤ fb ∧ r.length + (nativeFrameWords "java/lang/System" "arraycopy" 5 + 11) ≤ lb then
        ab_fn sp.toNatClampNeg fun sp' => ab_fn dp.toNatClampNeg fun dp' => ab_fn n.toNatClampNeg fun n' => ab_mk (pc + 3) l r (bif Nat.beq n' 0 then h else ab_put h a1 (.inl (t1, n1, va_cpy F E sp' dp' n'))) cb sb
      else none
    | _, _ => none
  | _ => none
def ab_made : Option ab_S := match mv_gI G y (pc + 3), mv_gI G y (pc + 4), mv_gI G y (pc + 7) with
  | some (.dup, 1), some (.ldc_w i2, 3), some (.invokespecial i3, 3) => match mv_gK G y i2, mv_gC G y i3 with
    | some (.ref _), some (kd, _, _) =>
      if kd = 8 ∧ 1 ≤ cb ∧ 6 ≤ sb ∧ 6 ≤ fb ∧ st.length + 82 ≤ lb then ab_fn (cb - 1) fun cb' => ab_fn (sb - 6) fun sb' => ab_fn h.1 fun q => ab_mk (pc + 10) l (.inl (.ref q) :: st) (ab_app h (.inr (.inr (mv_gX G, 0, fun _ => .inl .null)))) cb' sb' else none
    | _, _ => none
  | _, _, _ => none
def ab_oini : Option ab_S := match st with
  | .inl (.ref _) :: r => if 1 ≤ fb ∧ r.length + 12 ≤ lb then ab_mk (pc + 3) l r h cb sb else none
  | _ => none
def ab_xald : Option ab_S := match st with
  | .inl (.int i) :: .inl (.ref a) :: r => match Ls a with
    | some n => bif !mv_out i n then ab_mk (pc + 1) l (X i.toNatClampNeg :: r) h cb sb else none
    | none => none
  | _ => none
def ab_xlen : Option ab_S := match st with
  | .inl (.ref a) :: r => match Ls a with
    | some n => ab_fi (Int32.ofNat n) fun w => ab_mk (pc + 1) l (.inl (.int w) :: r) h cb sb
    | none => none
  | _ => none
end
section ABN
variable {G : mv_G} {Ls : Nat → Option Nat} {X : Nat → ab_V} {y pc : Nat} {l : ab_L} {st : List ab_V} {h : ab_H} {cb sb fb lb : Nat} {lo : List (Nat × Value)} {ss : List Value} {hp : List va_E}
theorem ab_copy_ok (hl : ab_gl l lo) (hs : ab_gs st ss) (hh : ab_gh h hp) : ab_okN (ab_copy pc l st h cb sb fb lb) (mv_copy pc lo ss hp cb sb fb lb) := by
  unfold ab_copy
  split
  · rename_i n dp a1 sp a0 r
    obtain ⟨w1, r1, rfl, g1, hs1⟩ := ab_gs_cons hs
    obtain ⟨w2, r2, rfl, g2, hs2⟩ := ab_gs_cons hs1
    obtain ⟨w3, r3, rfl, g3, hs3⟩ := ab_gs_cons hs2
    obtain ⟨w4, r4, rfl, g4, hs4⟩ := ab_gs_cons hs3
    obtain ⟨w5, r5, rfl, g5, hs5⟩ := ab_gs_cons hs4
    rw [g1.1, g2.1, g3.1, g4.1, g5.1]
    split
    · rename_i t0 n0 F t1 n1 E h0 h1
      obtain ⟨e0, q0, f, rfl, hf⟩ := ab_at_ok hh h0
      obtain ⟨e1, q1, g, rfl, hg⟩ := ab_at_ok hh h1
      split
      · rename_i hc
        obtain ⟨c1, c2, c3, c4, c5, c6, c7⟩ := hc
        unfold mv_copy
        dsimp only
        rw [q0, q1]
        dsimp only
        have c8 : t0 = 0 ∨ (List.range n.toNatClampNeg).all (fun i => mv_fitT t0 (f (sp.toNatClampNeg + i))) = true := by
          rcases c5 with c5 | c5
          · exact Or.inl c5
          · rw [c5]
            exact Or.inr rfl
        rw [if_pos ⟨c1, c2, c3, c4, c8, c6, by rw [(ab_gs_cats hs5).1]; exact c7⟩]
        rw [ab_fn_eq, ab_fn_eq, ab_fn_eq]
        refine ab_okN_mk hl hs5 ?_
        have hcp : ∀ k, ab_g (va_cpy F E sp.toNatClampNeg dp.toNatClampNeg n.toNatClampNeg k) (.int (va_cpy f g sp.toNatClampNeg dp.toNatClampNeg n.toNatClampNeg k)) := by
          intro k
          unfold va_cpy
          split
          · exact hf _
          · exact hg _
        cases hb : Nat.beq n.toNatClampNeg 0 with
        | false => exact ab_put_ok hh ⟨_, rfl, hcp⟩
        | true =>
          have hz := Nat.eq_of_beq_eq_true hb
          have hfg : va_cpy f g sp.toNatClampNeg dp.toNatClampNeg n.toNatClampNeg = g := by
            funext k
            unfold va_cpy
            rw [if_neg (by omega)]
          rw [hfg]
          have hset : hp.set a1 (.inl (t1, n1, .inl g)) = hp := by
            apply List.ext_getElem?
            intro k
            rw [List.getElem?_set]
            split
            · rename_i hk
              subst hk
              rw [if_pos (List.getElem?_eq_some_iff.mp q1).1]
              exact q1.symm
            · rfl
          show ab_gh h (hp.set a1 (.inl (t1, n1, .inl g)))
          rw [hset]
          exact hh
      · exact ab_okN_none
    · exact ab_okN_none
  · exact ab_okN_none
theorem ab_made_ok (hl : ab_gl l lo) (hs : ab_gs st ss) (hh : ab_gh h hp) : ab_okN (ab_made G y pc l st h cb sb fb lb) (mv_made G y pc lo ss hp cb sb fb lb) := by
  unfold ab_made
  split
  · rename_i i2 i3 e3 e4 e7
    split
    · rename_i a kd z0 n0 hk hc
      split
      · rename_i hq
        have hm : mv_made G y pc lo ss hp cb sb fb lb = (if kd = 8 ∧ 1 ≤ cb ∧ 6 ≤ sb ∧ 6 ≤ fb ∧ (ss.map fun v => v.category).sum + 82 ≤ lb then some (pc + 10, lo, .ref hp.length :: ss, hp ++ [.inr (mv_gX G, [])], cb - 1, sb - 6) else none) := by
          unfold mv_made
          simp only [e3, e4, e7, hk, hc]
        rw [hm, if_pos (by rw [(ab_gs_cats hs).1]; exact hq), ab_fn_eq, ab_fn_eq, ab_fn_eq, ← hh.1]
        refine ab_okN_mk hl ⟨⟨rfl, rfl⟩, hs⟩ (ab_app_ok hh ⟨[], rfl, rfl, fun k v hv => ?_⟩)
        simp at hv
      · exact ab_okN_none
    · exact ab_okN_none
  · exact ab_okN_none
theorem ab_oini_ok (hl : ab_gl l lo) (hs : ab_gs st ss) (hh : ab_gh h hp) : ab_okN (ab_oini pc l st h cb sb fb lb) (mv_oini pc lo ss hp cb sb fb lb) := by
  unfold ab_oini
  split
  · rename_i a r
    obtain ⟨w1, r1, rfl, g1, hs1⟩ := ab_gs_cons hs
    rw [g1.1]
    split
    · rename_i hq
      unfold mv_oini
      dsimp only
      rw [if_pos ⟨hq.1, by rw [(ab_gs_cats hs1).1]; exact hq.2⟩]
      exact ab_okN_mk hl hs1 hh
    · exact ab_okN_none
  · exact ab_okN_none
theorem ab_xald_ok (hX : ∀ a n f, mv_gS G a = some (n, f) → ∀ k, ab_g (X k) (.int (f k))) (hL : ∀ a n, Ls a = some n → ∃ f, mv_gS G a = some (n, f)) (hl : ab_gl l lo) (hs : ab_gs st ss) (hh : ab_gh h hp) : ab_okN (ab_xald Ls X pc l st h cb sb) (mv_xald G pc lo ss hp cb sb) := by
  unfold ab_xald
  split
  · rename_i i a r
    obtain ⟨w1, r1, rfl, g1, hs1⟩ := ab_gs_cons hs
    obtain ⟨w2, r2, rfl, g2, hs2⟩ := ab_gs_cons hs1
    rw [g1.1, g2.1]
    split
    · rename_i n hn
      obtain ⟨f, hf⟩ := hL a n hn
      cases hb : mv_out i n with
      | true => exact ab_okN_none
      | false =>
        unfold mv_xald
        dsimp only
        rw [hf]
        dsimp only
        rw [if_pos hb]
        exact ab_okN_mk hl ⟨hX a n f hf _, hs2⟩ hh
    · exact ab_okN_none
  · exact ab_okN_none
theorem ab_xlen_ok (hL : ∀ a n, Ls a = some n → ∃ f, mv_gS G a = some (n, f)) (hl : ab_gl l lo) (hs : ab_gs st ss) (hh : ab_gh h hp) : ab_okN (ab_xlen Ls pc l st h cb sb) (mv_xlen G pc lo ss hp cb sb) := by
  unfold ab_xlen
  split
  · rename_i a r
    obtain ⟨w1, r1, rfl, g1, hs1⟩ := ab_gs_cons hs
    rw [g1.1]
    split
    · rename_i n hn
      obtain ⟨f, hf⟩ := hL a n hn
      unfold mv_xlen
      dsimp only
      rw [hf, ab_fi_eq]
      exact ab_okN_mk hl ⟨⟨rfl, rfl⟩, hs1⟩ hh
    · exact ab_okN_none
  · exact ab_okN_none
end ABN
end
section
/-! boxes: the run is sound -/
abbrev ab_R : Type := ab_S ⊕ ((Nat × List ab_V × List ab_V) ⊕ (Option ab_V ⊕ Nat))
section
variable (G : mv_G) (Ls : Nat → Option Nat) (X : Nat → ab_V) (y fb lb : Nat) (A : ab_S)
def ab_callS (idx : Nat) : Option ab_R := match mv_gC G y idx with
  | some (kd, z, n) => if (kd = 0 ∨ kd = 1) ∧ n ≤ A.2.2.1.length then some (.inr (.inl (z, (A.2.2.1.take n).reverse, A.2.2.1.drop n))) else none
  | none => none
def ab_callV (idx : Nat) : Option ab_R := match mv_gC G y idx with
  | some (kd, z, n) => match A.2.2.1.drop n with
    | .inl (.ref a) :: r => match ab_at A.2.2.2.1 a with
      | some (.inr (.inr (ci, _, _))) => if (kd = 2 ∨ kd = 3) ∧ ci = mv_gW G z then some (.inr (.inl (z, .inl (.ref a) :: (A.2.2.1.take n).reverse, r))) else none
      | _ => none
    | _ => none
  | none => none
def ab_callI (idx : Nat) : Option ab_R := match mv_gC G y idx with
  | some (kd, z, n) => match A.2.2.1.drop n with
    | .inl (.ref a) :: r => if kd = 4 ∨ kd = 5 then some (.inr (.inl (z, .inl (.ref a) :: (A.2.2.1.take n).reverse, r))) else none
    | _ => none
  | none => none
def ab_iret : Option ab_R := match A.2.2.1 with
  | [v] => match mv_gR G y with
    | some ty => bif ab_int v && (match v with | .inl w => decide (narrow ty w = w) | .inr _ => decide (ty = .int)) then some (.inr (.inr (.inl (some v)))) else none
    | none => none
  | _ => none
def ab_aret : Option ab_R := match A.2.2.1 with
  | [v] => match mv_gR G y with
    | some ty => if ty.isReference = true ∧ ab_rfv v = true then some (.inr (.inr (.inl (some v)))) else none
    | none => none
  | _ => none
def ab_vret : Option ab_R := match A.2.2.1 with
  | [] => match mv_gR G y with
    | none => some (.inr (.inr (.inl none)))
    | some _ => none
  | _ => none
def ab_throw : Option ab_R := match A.2.2.1 with
  | .inl (.ref a) :: _ => some (.inr (.inr (.inr a)))
  | _ => none
def ab_go (o : Option ab_S) : Option ab_R := match o with
  | some S => some (.inl S)
  | none => none
/-- whose kind is this call -/
def ab_kd (idx : Nat) : Nat := match mv_gC G y idx with
  | some (kd, _, _) => kd
  | none => 99
def ab_scr : Option Nat := match A.2.2.1 with
  | .inl (.ref a) :: _ => some a
  | _ => none
def ab_scr2 : Option Nat := match A.2.2.1 with
  | _ :: .inl (.ref a) :: _ => some a
  | _ => none
def ab_step : Option ab_R := match mv_gI G y A.1 with
  | none => none
  | some (i, n) => match i with
    | .invokestatic idx => bif Nat.beq n 3 then (bif Nat.beq (ab_kd G y idx) 7 then ab_go (ab_copy A.1 A.2.1 A.2.2.1 A.2.2.2.1 A.2.2.2.2.1 A.2.2.2.2.2 fb lb) else ab_callS G y A idx) else none
    | .invokevirtual idx => bif Nat.beq n 3 then ab_callV G y A idx else none
    | .invokespecial idx => bif Nat.beq n 3 then (bif Nat.beq (ab_kd G y idx) 9 then ab_go (ab_oini A.1 A.2.1 A.2.2.1 A.2.2.2.1 A.2.2.2.2.1 A.2.2.2.2.2 fb lb) else ab_callI G y A idx) else none
    | .new idx => bif Nat.beq n 3 then (match mv_gN G y idx with
      | some ci => bif Nat.beq ci (mv_gX G) then ab_go (ab_made G y A.1 A.2.1 A.2.2.1 A.2.2.2.1 A.2.2.2.2.1 A.2.2.2.2.2 fb lb) else ab_go (ab_new G y A.1 A.2.1 A.2.2.1 A.2.2.2.1 A.2.2.2.2.1 A.2.2.2.2.2 idx)
      | none => none) else none
    | .iaload => bif Nat.beq n 1 then (match ab_scr2 A with
      | some a => match Ls a with
        | some _ => ab_go (ab_xald Ls X A.1 A.2.1 A.2.2.1 A.2.2.2.1 A.2.2.2.2.1 A.2.2.2.2.2)
        | none => ab_go (ab_iald A.1 A.2.1 A.2.2.1 A.2.2.2.1 A.2.2.2.2.1 A.2.2.2.2.2)
      | none => none) else none
    | .arraylength => bif Nat.beq n 1 then (match ab_scr A with
      | some a => match Ls a with
        | some _ => ab_go (ab_xlen Ls A.1 A.2.1 A.2.2.1 A.2.2.2.1 A.2.2.2.2.1 A.2.2.2.2.2)
        | none => ab_go (ab_alen G A.1 A.2.1 A.2.2.1 A.2.2.2.1 A.2.2.2.2.1 A.2.2.2.2.2)
      | none => none) else none
    | .ireturn => bif Nat.beq n 1 then ab_iret G y A else none
    | .areturn => bif Nat.beq n 1 then ab_aret G y A else none
    | .return_ => bif Nat.beq n 1 then ab_vret G y A else none
    | .athrow => bif Nat.beq n 1 then ab_throw A else none
    | i => ab_go (ab_ins G y A.1 A.2.1 A.2.2.1 A.2.2.2.1 A.2.2.2.2.1 A.2.2.2.2.2 n i)
end
abbrev ab_Q : Type := (Nat ⊕ Option ab_V) × ab_H × Nat × Nat
def ab_take (G : mv_G) (y : Nat) (k : ab_S → Option ab_Q) (a : Nat) (A : ab_S) : Option ab_Q := match mv_hand (mv_gH G y) A.1 with
  | none => some (.inl a, A.2.2.2.1, A.2.2.2.2.1, A.2.2.2.2.2)
  | some (hd, _) => match ab_at A.2.2.2.1 a with
    | some (.inr (.inr (ci, _, _))) => bif Nat.beq ci (mv_gX G) then k (hd, A.2.1, [.inl (.ref a)], A.2.2.2.1, A.2.2.2.2.1, A.2.2.2.2.2) else none
    | _ => none
def ab_run (G : mv_G) (Ls : Nat → Option Nat) (X : Nat → ab_V) : Nat → Nat → Nat → Nat → ab_S → Option ab_Q
  | 0, _, _, _, _ => none
  | n + 1, y, fb, lb, A => match ab_step G Ls X y fb lb A with
    | none => none
    | some (.inl A') => ab_run G Ls X n y fb lb A'
    | some (.inr (.inl (z, as, r))) => bif Nat.ble 1 fb && Nat.ble (r.length + (mv_gL G z + 11)) lb && Nat.ble as.length (mv_gL G z) then
        ab_fn (fb - 1) fun fb' => ab_fn (lb - (r.length + (mv_gL G z + 11))) fun lb' => match ab_run G Ls X n z fb' lb' (0, ab_args 0 as, [], A.2.2.2.1, A.2.2.2.2.1, A.2.2.2.2.2) with
        | none => none
        | some (.inr v, h, cb, sb) => ab_fn (A.1 + 3) fun pc' => ab_run G Ls X n y fb lb (pc', A.2.1, v.toList ++ r, h, cb, sb)
        | some (.inl a, h, cb, sb) => ab_take G y (ab_run G Ls X n y fb lb) a (A.1, A.2.1, [], h, cb, sb)
      else none
    | some (.inr (.inr (.inl v))) => some (.inr v, A.2.2.2.1, A.2.2.2.2.1, A.2.2.2.2.2)
    | some (.inr (.inr (.inr a))) => ab_take G y (ab_run G Ls X n y fb lb) a A
/-- what a call's box ends in -/
def ab_go_ (o : Option ab_V) (v : Option Value) : Prop := match o, v with
  | none, none => True
  | some a, some b => ab_g a b
  | _, _ => False
def ab_gQ (q : ab_Q) (E : mv_E) : Prop := (match q.1, E.1 with
  | .inl a, .inl b => a = b
  | .inr v, .inr w => ab_go_ v w
  | _, _ => False) ∧ ab_gh q.2.1 E.2.1 ∧ q.2.2.1 = E.2.2.1 ∧ q.2.2.2 = E.2.2.2
/-- an instruction that mv_nat lets pass -/
def ab_plain : Instr → Bool
  | .invokestatic _ => false
  | .invokespecial _ => false
  | .new _ => false
  | .iaload => false
  | .arraylength => false
  | _ => true
theorem ab_nat_none {G : mv_G} {y fb lb n : Nat} {S : mv_S} {i : Instr} (hI : mv_gI G y S.1 = some (i, n)) (hi : ab_plain i = true) : mv_nat G y fb lb S = none := by
  unfold mv_nat
  rw [hI]
  cases i <;> first | rfl | cases hi
/-- what a step's box leads to, the small machine's step leads to -/
def ab_okR (G : mv_G) (y fb lb : Nat) (q : ab_R) (S : mv_S) : Prop := match q with
  | .inl A' => ∃ S', (mv_nat G y fb lb S = some S' ∨ (mv_nat G y fb lb S = none ∧ mv_exec G y S = some (.inl S'))) ∧ ab_gS A' S'
  | .inr (.inl (z, as, r)) => mv_nat G y fb lb S = none ∧ ∃ (as' r' : List Value), mv_exec G y S = some (.inr (.inl (z, as', r', 3))) ∧ ab_gs as as' ∧ ab_gs r r'
  | .inr (.inr (.inl v)) => mv_nat G y fb lb S = none ∧ ∃ w, mv_exec G y S = some (.inr (.inr (.inl w))) ∧ ab_go_ v w
  | .inr (.inr (.inr a)) => mv_nat G y fb lb S = none ∧ mv_exec G y S = some (.inr (.inr (.inr a)))
theorem ab_go_eq {o : Option ab_S} {q : ab_R} (h : ab_go o = some q) : ∃ A, o = some A ∧ q = .inl A := by
  cases o with
  | none => cases h
  | some A =>
    cases h
    exact ⟨A, rfl, rfl⟩
theorem ab_bif {α : Type} {b : Bool} {o : Option α} {q : α} (h : (bif b then o else none) = some q) : b = true ∧ o = some q := by
  cases b with
  | true => exact ⟨rfl, h⟩
  | false => cases h
section ABR
variable {G : mv_G} {Ls : Nat → Option Nat} {X : Nat → ab_V} {y fb lb : Nat} {A : ab_S} {S : mv_S}
theorem ab_callS_ok {n idx : Nat} (hn : n = 3) (hI : mv_gI G y S.1 = some (.invokestatic idx, n)) (hk : ¬ ab_kd G y idx = 7) (hs : ab_gS A S) {q : ab_R} (h : ab_callS G y A idx = some q) : ab_okR G y fb lb q S := by
  subst hn
  obtain ⟨-, -, hs3, -⟩ := hs
  unfold ab_callS at h
  split at h
  · rename_i kd z na hc
    split at h
    · rename_i hq
      cases h
      have hnat : mv_nat G y fb lb S = none := by
        unfold ab_kd at hk
        simp only [hc] at hk
        unfold mv_nat
        simp only [hI, hc]
        rw [if_neg hk]
      obtain ⟨t1, t2⟩ := ab_gs_take na hs3
      refine ⟨hnat, (S.2.2.1.take na).reverse, S.2.2.1.drop na, ?_, ab_gs_rev t1, t2⟩
      unfold mv_exec
      rw [hI]
      show mv_g 3 3 (mv_callS G y S.2.2.1 idx) = _
      unfold mv_g mv_callS
      rw [if_pos rfl, hc]
      dsimp only
      rw [if_pos ⟨hq.1, by rw [ab_gs_len hs3]; exact hq.2⟩]
    · cases h
  · cases h
theorem ab_callV_ok {n idx : Nat} (hn : n = 3) (hI : mv_gI G y S.1 = some (.invokevirtual idx, n)) (hs : ab_gS A S) {q : ab_R} (h : ab_callV G y A idx = some q) : ab_okR G y fb lb q S := by
  subst hn
  obtain ⟨-, -, hs3, hs4, -⟩ := hs
  unfold ab_callV at h
  split at h
  · rename_i kd z na hc
    obtain ⟨t1, t2⟩ := ab_gs_take na hs3
    split at h
    · rename_i a r hd
      rw [hd] at t2
      obtain ⟨w1, r1, hd2, g1, g2⟩ := ab_gs_cons t2
      have g3 := g1.1
      subst g3
      split at h
      · rename_i ci N F ha
        obtain ⟨e, he, fs, rfl, -⟩ := ab_at_ok hs4 ha
        split at h
        · rename_i hq
          cases h
          refine ⟨ab_nat_none hI rfl, .ref a :: (S.2.2.1.take na).reverse, r1, ?_, ⟨g1, ab_gs_rev t1⟩, g2⟩
          unfold mv_exec
          rw [hI]
          show mv_g 3 3 (mv_callV G y S.2.2.1 S.2.2.2.1 idx) = _
          unfold mv_g mv_callV
          rw [if_pos rfl, hc]
          dsimp only
          rw [hd2]
          dsimp only
          rw [he]
          dsimp only
          rw [if_pos hq]
        · cases h
      · cases h
    · cases h
  · cases h
theorem ab_callI_ok {n idx : Nat} (hn : n = 3) (hI : mv_gI G y S.1 = some (.invokespecial idx, n)) (hk : ¬ ab_kd G y idx = 9) (hs : ab_gS A S) {q : ab_R} (h : ab_callI G y A idx = some q) : ab_okR G y fb lb q S := by
  subst hn
  obtain ⟨-, -, hs3, -⟩ := hs
  unfold ab_callI at h
  split at h
  · rename_i kd z na hc
    obtain ⟨t1, t2⟩ := ab_gs_take na hs3
    split at h
    · rename_i a r hd
      rw [hd] at t2
      obtain ⟨w1, r1, hd2, g1, g2⟩ := ab_gs_cons t2
      have g3 := g1.1
      subst g3
      split at h
      · rename_i hq
        cases h
        have hnat : mv_nat G y fb lb S = none := by
          unfold ab_kd at hk
          simp only [hc] at hk
          unfold mv_nat
          simp only [hI, hc]
          rw [if_neg hk]
        refine ⟨hnat, .ref a :: (S.2.2.1.take na).reverse, r1, ?_, ⟨g1, ab_gs_rev t1⟩, g2⟩
        unfold mv_exec
        rw [hI]
        show mv_g 3 3 (mv_callI G y S.2.2.1 idx) = _
        unfold mv_g mv_callI
        rw [if_pos rfl, hc]
        dsimp only
        rw [hd2]
        dsimp only
        rw [if_pos hq]
      · cases h
    · cases h
  · cases h
theorem ab_ins_step {n : Nat} {i : Instr} (hI : mv_gI G y S.1 = some (i, n)) (hnat : mv_nat G y fb lb S = none) (hex : mv_exec G y S = mv_og (mv_ins G y S.1 S.2.1 S.2.2.1 S.2.2.2.1 S.2.2.2.2.1 S.2.2.2.2.2 n i)) (hs : ab_gS A S) {q : ab_R} (h : ab_go (ab_ins G y A.1 A.2.1 A.2.2.1 A.2.2.2.1 A.2.2.2.2.1 A.2.2.2.2.2 n i) = some q) : ab_okR G y fb lb q S := by
  obtain ⟨s1, s2, s3, s4, s5, s6⟩ := hs
  obtain ⟨A', h1, rfl⟩ := ab_go_eq h
  rw [s1, s5, s6] at h1
  obtain ⟨S', h2, h3⟩ := ab_ins_ok s2 s3 s4 i A' h1
  refine ⟨S', Or.inr ⟨hnat, ?_⟩, h3⟩
  rw [hex, h2]
  rfl
theorem ab_iret_ok {n : Nat} (hn : n = 1) (hI : mv_gI G y S.1 = some (.ireturn, n)) (hs : ab_gS A S) {q : ab_R} (h : ab_iret G y A = some q) : ab_okR G y fb lb q S := by
  subst hn
  obtain ⟨-, -, hs3, -⟩ := hs
  unfold ab_iret at h
  split at h
  · rename_i v hv
    rw [hv] at hs3
    obtain ⟨w, t, e1, g1, g2⟩ := ab_gs_cons hs3
    have e2 := ab_gs_nil g2
    subst e2
    split at h
    · rename_i ty hty
      obtain ⟨b1, b2⟩ := ab_bif h
      cases b2
      rw [Bool.and_eq_true] at b1
      obtain ⟨x, rfl⟩ := ab_int_at g1 b1.1
      have b3 : narrow ty (.int x) = .int x := by
        have b4 := b1.2
        split at b4
        · rename_i w'
          rw [g1.1]
          exact of_decide_eq_true b4
        · rw [of_decide_eq_true b4]
          rfl
      refine ⟨ab_nat_none hI rfl, some (.int x), ?_, g1⟩
      unfold mv_exec
      rw [hI]
      show mv_g 1 1 (mv_iret G y S.2.2.1) = _
      unfold mv_g mv_iret
      rw [if_pos rfl, e1]
      dsimp only
      rw [hty]
      dsimp only
      rw [if_pos b3]
    · cases h
  · cases h
theorem ab_aret_ok {n : Nat} (hn : n = 1) (hI : mv_gI G y S.1 = some (.areturn, n)) (hs : ab_gS A S) {q : ab_R} (h : ab_aret G y A = some q) : ab_okR G y fb lb q S := by
  subst hn
  obtain ⟨-, -, hs3, -⟩ := hs
  unfold ab_aret at h
  split at h
  · rename_i v hv
    rw [hv] at hs3
    obtain ⟨w, t, e1, g1, g2⟩ := ab_gs_cons hs3
    have e2 := ab_gs_nil g2
    subst e2
    split at h
    · rename_i ty hty
      split at h
      · rename_i hc
        cases h
        refine ⟨ab_nat_none hI rfl, some w, ?_, g1⟩
        unfold mv_exec
        rw [hI]
        show mv_g 1 1 (mv_aret G y S.2.2.1) = _
        unfold mv_g mv_aret
        rw [if_pos rfl, e1]
        dsimp only
        rw [hty]
        dsimp only
        rw [if_pos ⟨hc.1, ab_rfv_ok v w g1 hc.2⟩]
      · cases h
    · cases h
  · cases h
theorem ab_vret_ok {n : Nat} (hn : n = 1) (hI : mv_gI G y S.1 = some (.return_, n)) (hs : ab_gS A S) {q : ab_R} (h : ab_vret G y A = some q) : ab_okR G y fb lb q S := by
  subst hn
  obtain ⟨-, -, hs3, -⟩ := hs
  unfold ab_vret at h
  split at h
  · rename_i hv
    rw [hv] at hs3
    have e1 := ab_gs_nil hs3
    split at h
    · rename_i hty
      cases h
      refine ⟨ab_nat_none hI rfl, none, ?_, trivial⟩
      unfold mv_exec
      rw [hI]
      show mv_g 1 1 (mv_vret G y S.2.2.1) = _
      unfold mv_g mv_vret
      rw [if_pos rfl, e1]
      dsimp only
      rw [hty]
    · cases h
  · cases h
theorem ab_throw_ok {n : Nat} (hn : n = 1) (hI : mv_gI G y S.1 = some (.athrow, n)) (hs : ab_gS A S) {q : ab_R} (h : ab_throw A = some q) : ab_okR G y fb lb q S := by
  subst hn
  obtain ⟨-, -, hs3, -⟩ := hs
  unfold ab_throw at h
  split at h
  · rename_i a r hv
    rw [hv] at hs3
    obtain ⟨w, t, e1, g1, g2⟩ := ab_gs_cons hs3
    cases h
    refine ⟨ab_nat_none hI rfl, ?_⟩
    unfold mv_exec
    rw [hI]
    show mv_g 1 1 (mv_throw S.2.2.1) = _
    unfold mv_g mv_throw
    rw [if_pos rfl, e1, g1.1]
  · cases h
/-- what has no bytecode, where it goes on -/
theorem ab_nat_step {o : Option ab_S} {r : Option mv_S} (hok : ab_okN o r) (hnat : mv_nat G y fb lb S = r) {q : ab_R} (h : ab_go o = some q) : ab_okR G y fb lb q S := by
  obtain ⟨A', h1, rfl⟩ := ab_go_eq h
  obtain ⟨S', h2, h3⟩ := hok A' h1
  exact ⟨S', Or.inl (hnat.trans h2), h3⟩
end ABR
end
section
/-! boxes: the run is sound: a step, the whole -/
section ABS
variable {G : mv_G} {Ls : Nat → Option Nat} {X : Nat → ab_V}
theorem ab_kd_at {y idx k : Nat} (h : ab_kd G y idx = k) (hk : k < 99) : ∃ z n, mv_gC G y idx = some (k, z, n) := by
  unfold ab_kd at h
  split at h
  · rename_i kd z n hc
    subst h
    exact ⟨z, n, hc⟩
  · omega
theorem ab_step_ok (hX : ∀ a n f, mv_gS G a = some (n, f) → ∀ k, ab_g (X k) (.int (f k))) (hL : ∀ a n, Ls a = some n → ∃ f, mv_gS G a = some (n, f)) (hL0 : ∀ a, Ls a = none → mv_gS G a = none) {y fb lb : Nat} {A : ab_S} {S : mv_S} (hs : ab_gS A S) {q : ab_R} (h : ab_step G Ls X y fb lb A = some q) : ab_okR G y fb lb q S := by
  obtain ⟨s1, s2, s3, s4, s5, s6⟩ := id hs
  cases hI : mv_gI G y A.1 with
  | none =>
    unfold ab_step at h
    rw [hI] at h
    cases h
  | some w =>
    obtain ⟨i, n⟩ := w
    have hI' : mv_gI G y S.1 = some (i, n) := by rw [← s1]; exact hI
    unfold ab_step at h
    rw [hI] at h
    cases i
    case invokestatic idx =>
      dsimp only at h
      obtain ⟨b1, h9⟩ := ab_bif h
      replace h := h9
      clear h9
      have hn := Nat.eq_of_beq_eq_true b1
      cases hb : Nat.beq (ab_kd G y idx) 7 with
      | true =>
        rw [hb, cond_true, s1, s5, s6] at h
        obtain ⟨z, na, hc⟩ := ab_kd_at (Nat.eq_of_beq_eq_true hb) (by decide)
        subst hn
        refine ab_nat_step (ab_copy_ok s2 s3 s4) ?_ h
        unfold mv_nat
        simp only [hI', hc]
        rw [if_pos trivial]
      | false =>
        rw [hb, cond_false] at h
        exact ab_callS_ok hn hI' (fun e => by rw [e] at hb; cases hb) hs h
    case invokevirtual idx =>
      dsimp only at h
      obtain ⟨b1, h9⟩ := ab_bif h
      replace h := h9
      clear h9
      exact ab_callV_ok (Nat.eq_of_beq_eq_true b1) hI' hs h
    case invokespecial idx =>
      dsimp only at h
      obtain ⟨b1, h9⟩ := ab_bif h
      replace h := h9
      clear h9
      have hn := Nat.eq_of_beq_eq_true b1
      cases hb : Nat.beq (ab_kd G y idx) 9 with
      | true =>
        rw [hb, cond_true, s1, s5, s6] at h
        obtain ⟨z, na, hc⟩ := ab_kd_at (Nat.eq_of_beq_eq_true hb) (by decide)
        subst hn
        refine ab_nat_step (ab_oini_ok s2 s3 s4) ?_ h
        unfold mv_nat
        simp only [hI', hc]
        rw [if_pos trivial]
      | false =>
        rw [hb, cond_false] at h
        exact ab_callI_ok hn hI' (fun e => by rw [e] at hb; cases hb) hs h
    case new idx =>
      dsimp only at h
      obtain ⟨b1, h9⟩ := ab_bif h
      replace h := h9
      clear h9
      have hn := Nat.eq_of_beq_eq_true b1
      subst hn
      cases hN : mv_gN G y idx with
      | none =>
        rw [hN] at h
        cases h
      | some ci =>
        rw [hN] at h
        have h : (bif Nat.beq ci (mv_gX G) then ab_go (ab_made G y A.1 A.2.1 A.2.2.1 A.2.2.2.1 A.2.2.2.2.1 A.2.2.2.2.2 fb lb) else ab_go (ab_new G y A.1 A.2.1 A.2.2.1 A.2.2.2.1 A.2.2.2.2.1 A.2.2.2.2.2 idx)) = some q := h
        cases hb : Nat.beq ci (mv_gX G) with
        | true =>
          rw [hb, cond_true, s1, s5, s6] at h
          refine ab_nat_step (ab_made_ok s2 s3 s4) ?_ h
          unfold mv_nat
          simp only [hI', hN]
          rw [if_pos (Nat.eq_of_beq_eq_true hb)]
        | false =>
          rw [hb, cond_false] at h
          refine ab_ins_step hI' ?_ (by unfold mv_exec; rw [hI']) hs h
          unfold mv_nat
          simp only [hI', hN]
          rw [if_neg (fun e => by rw [e, Nat.beq_refl] at hb; cases hb)]
    case iaload =>
      dsimp only at h
      obtain ⟨b1, h9⟩ := ab_bif h
      replace h := h9
      clear h9
      have hn := Nat.eq_of_beq_eq_true b1
      subst hn
      have hnat : mv_nat G y fb lb S = mv_xald G S.1 S.2.1 S.2.2.1 S.2.2.2.1 S.2.2.2.2.1 S.2.2.2.2.2 := by
        unfold mv_nat
        simp only [hI']
      cases ha : ab_scr2 A with
      | none =>
        rw [ha] at h
        cases h
      | some a =>
        rw [ha] at h
        have h : (match Ls a with | some _ => ab_go (ab_xald Ls X A.1 A.2.1 A.2.2.1 A.2.2.2.1 A.2.2.2.2.1 A.2.2.2.2.2) | none => ab_go (ab_iald A.1 A.2.1 A.2.2.1 A.2.2.2.1 A.2.2.2.2.1 A.2.2.2.2.2)) = some q := h
        cases hl : Ls a with
        | some n0 =>
          rw [hl] at h
          dsimp only at h
          rw [s1, s5, s6] at h
          exact ab_nat_step (ab_xald_ok hX hL s2 s3 s4) hnat h
        | none =>
          rw [hl] at h
          refine ab_ins_step hI' ?_ (by unfold mv_exec; rw [hI']) hs h
          rw [hnat]
          unfold ab_scr2 at ha
          split at ha
          · rename_i v a' r hst
            cases ha
            rw [hst] at s3
            obtain ⟨w1, r1, e1, g1, hs1⟩ := ab_gs_cons s3
            obtain ⟨w2, r2, e2, g2, hs2⟩ := ab_gs_cons hs1
            rw [e1, e2, g2.1]
            unfold mv_xald
            have h0 := hL0 a hl
            cases w1 <;> simp only [h0]
          · cases ha
    case arraylength =>
      dsimp only at h
      obtain ⟨b1, h9⟩ := ab_bif h
      replace h := h9
      clear h9
      have hn := Nat.eq_of_beq_eq_true b1
      subst hn
      have hnat : mv_nat G y fb lb S = mv_xlen G S.1 S.2.1 S.2.2.1 S.2.2.2.1 S.2.2.2.2.1 S.2.2.2.2.2 := by
        unfold mv_nat
        simp only [hI']
      cases ha : ab_scr A with
      | none =>
        rw [ha] at h
        cases h
      | some a =>
        rw [ha] at h
        have h : (match Ls a with | some _ => ab_go (ab_xlen Ls A.1 A.2.1 A.2.2.1 A.2.2.2.1 A.2.2.2.2.1 A.2.2.2.2.2) | none => ab_go (ab_alen G A.1 A.2.1 A.2.2.1 A.2.2.2.1 A.2.2.2.2.1 A.2.2.2.2.2)) = some q := h
        cases hl : Ls a with
        | some n0 =>
          rw [hl] at h
          dsimp only at h
          rw [s1, s5, s6] at h
          exact ab_nat_step (ab_xlen_ok hL s2 s3 s4) hnat h
        | none =>
          rw [hl] at h
          refine ab_ins_step hI' ?_ (by unfold mv_exec; rw [hI']) hs h
          rw [hnat]
          unfold ab_scr at ha
          split at ha
          · rename_i a' r hst
            cases ha
            rw [hst] at s3
            obtain ⟨w1, r1, e1, g1, hs1⟩ := ab_gs_cons s3
            rw [e1, g1.1]
            unfold mv_xlen
            have h0 := hL0 a hl
            simp only [h0]
          · cases ha
    case ireturn =>
      dsimp only at h
      obtain ⟨b1, h9⟩ := ab_bif h
      replace h := h9
      clear h9
      exact ab_iret_ok (Nat.eq_of_beq_eq_true b1) hI' hs h
    case areturn =>
      dsimp only at h
      obtain ⟨b1, h9⟩ := ab_bif h
      replace h := h9
      clear h9
      exact ab_aret_ok (Nat.eq_of_beq_eq_true b1) hI' hs h
    case return_ =>
      dsimp only at h
      obtain ⟨b1, h9⟩ := ab_bif h
      replace h := h9
      clear h9
      exact ab_vret_ok (Nat.eq_of_beq_eq_true b1) hI' hs h
    case athrow =>
      dsimp only at h
      obtain ⟨b1, h9⟩ := ab_bif h
      replace h := h9
      clear h9
      exact ab_throw_ok (Nat.eq_of_beq_eq_true b1) hI' hs h
    all_goals exact ab_ins_step hI' (ab_nat_none hI' rfl) (by unfold mv_exec; rw [hI']) hs h
theorem ab_take_ok {y : Nat} {k : ab_S → Option ab_Q} {k' : mv_S → Option mv_E} (hk : ∀ A S q, ab_gS A S → k A = some q → ∃ E, k' S = some E ∧ ab_gQ q E) {a : Nat} {A : ab_S} {S : mv_S} (hs : ab_gS A S) {q : ab_Q} (h : ab_take G y k a A = some q) : ∃ E, mv_take G y k' a S = some E ∧ ab_gQ q E := by
  obtain ⟨s1, s2, s3, s4, s5, s6⟩ := hs
  unfold ab_take at h
  unfold mv_take
  rw [s1] at h
  split at h
  · rename_i hn
    cases h
    rw [hn]
    exact ⟨_, rfl, rfl, s4, s5, s6⟩
  · rename_i hd ct hn
    rw [hn]
    split at h
    · rename_i ci N F ha
      obtain ⟨b1, h9⟩ := ab_bif h
      obtain ⟨e, he, fs, rfl, -⟩ := ab_at_ok s4 ha
      dsimp only
      rw [he]
      dsimp only
      rw [if_pos (Nat.eq_of_beq_eq_true b1)]
      exact hk (hd, A.2.1, [.inl (.ref a)], A.2.2.2.1, A.2.2.2.2.1, A.2.2.2.2.2) (hd, S.2.1, [.ref a], S.2.2.2.1, S.2.2.2.2.1, S.2.2.2.2.2) _ ⟨rfl, s2, ⟨⟨rfl, rfl⟩, trivial⟩, s4, s5, s6⟩ h9
    · cases h
theorem ab_toList {v : Option ab_V} {w : Option Value} (h : ab_go_ v w) : ab_gs v.toList w.toList := by
  cases v with
  | none =>
    cases w with
    | none => trivial
    | some b => exact absurd h id
  | some a =>
    cases w with
    | none => exact absurd h id
    | some b => exact ⟨h, trivial⟩
/-- THE BOXES: where the boxes' run comes to an end, the small machine does from every state in the box, and its end lies in that end's box -/
theorem ab_run_ok (hX : ∀ a n f, mv_gS G a = some (n, f) → ∀ k, ab_g (X k) (.int (f k))) (hL : ∀ a n, Ls a = some n → ∃ f, mv_gS G a = some (n, f)) (hL0 : ∀ a, Ls a = none → mv_gS G a = none) : ∀ (n y fb lb : Nat) (A : ab_S) (S : mv_S) (q : ab_Q), ab_gS A S → ab_run G Ls X n y fb lb A = some q → ∃ E, mv_run G n y fb lb S = some E ∧ ab_gQ q E
  | 0, _, _, _, _, _, _, _, h => by cases h
  | n + 1, y, fb, lb, A, S, q, hs, h => by
    have ih := fun y fb lb => ab_run_ok hX hL hL0 n y fb lb
    unfold ab_run at h
    unfold mv_run
    cases hst : ab_step G Ls X y fb lb A with
    | none =>
      rw [hst] at h
      cases h
    | some r =>
      rw [hst] at h
      have hok := ab_step_ok hX hL hL0 hs hst
      obtain ⟨s1, s2, s3, s4, s5, s6⟩ := id hs
      rcases r with A' | ⟨z, as, r⟩ | v | a
      · obtain ⟨S', h1, h2⟩ := hok
        rcases h1 with h1 | ⟨h1, h3⟩
        · rw [h1]
          exact ih y fb lb A' S' q h2 h
        · rw [h1, h3]
          exact ih y fb lb A' S' q h2 h
      · obtain ⟨h1, as', r', h3, h4, h5⟩ := hok
        rw [h1, h3]
        dsimp only at h ⊢
        obtain ⟨b1, h9⟩ := ab_bif h
        simp only [Bool.and_eq_true] at b1
        obtain ⟨⟨c1, c2⟩, c3⟩ := b1
        rw [ab_fn_eq, ab_fn_eq] at h9
        have c1 := Nat.le_of_ble_eq_true c1
        have c2 := Nat.le_of_ble_eq_true c2
        have c3 := Nat.le_of_ble_eq_true c3
        rw [(ab_gs_cats h5).1, if_pos ⟨c1, c2, by rw [(ab_gs_cats h4).2]; exact c3⟩]
        cases hrun : ab_run G Ls X n z (fb - 1) (lb - (r.length + (mv_gL G z + 11))) (0, ab_args 0 as, [], A.2.2.2.1, A.2.2.2.2.1, A.2.2.2.2.2) with
        | none =>
          rw [hrun] at h9
          cases h9
        | some q1 =>
          rw [hrun] at h9
          obtain ⟨E1, e1, e2, e3, e4, e5⟩ := ih z (fb - 1) (lb - (r.length + (mv_gL G z + 11))) (0, ab_args 0 as, [], A.2.2.2.1, A.2.2.2.2.1, A.2.2.2.2.2) (0, lv_args 0 as', [], S.2.2.2.1, S.2.2.2.2.1, S.2.2.2.2.2) q1 ⟨rfl, fun i v hv => ab_args_ok 0 0 h4 i v hv, trivial, s4, s5, s6⟩ hrun
          rw [e1]
          obtain ⟨o1, h1', cb1, sb1⟩ := q1
          obtain ⟨o2, h2', cb2, sb2⟩ := E1
          rcases o1 with a | v
          · rcases o2 with a2 | w
            · have e2 : a = a2 := e2
              subst e2
              exact ab_take_ok (fun A S q => ih y fb lb A S q) (A := (A.1, A.2.1, [], h1', cb1, sb1)) (S := (S.1, S.2.1, [], h2', cb2, sb2)) ⟨s1, s2, trivial, e3, e4, e5⟩ h9
            · exact absurd e2 id
          · rcases o2 with a2 | w
            · exact absurd e2 id
            · dsimp only at h9
              rw [ab_fn_eq] at h9
              exact ih y fb lb (A.1 + 3, A.2.1, v.toList ++ r, h1', cb1, sb1) (S.1 + 3, S.2.1, w.toList ++ r', h2', cb2, sb2) q ⟨by show A.1 + 3 = S.1 + 3; rw [s1], s2, ab_gs_app (ab_toList e2) h5, e3, e4, e5⟩ h9
      · obtain ⟨h1, w, h3, h4⟩ := hok
        rw [h1, h3]
        cases h
        exact ⟨_, rfl, h4, s4, s5, s6⟩
      · obtain ⟨h1, h3⟩ := hok
        rw [h1, h3]
        exact ab_take_ok (fun A S q => ih y fb lb A S q) hs h
end ABS
end
section
/-! more fuel does no harm -/
theorem mv_take_mono {G : mv_G} {y : Nat} {k k' : mv_S → Option mv_E} (hk : ∀ S E, k S = some E → k' S = some E) {a : Nat} {S : mv_S} {E : mv_E} (h : mv_take G y k a S = some E) : mv_take G y k' a S = some E := by
  unfold mv_take at h ⊢
  cases hn : mv_hand (mv_gH G y) S.1 with
  | none =>
    rw [hn] at h
    exact h
  | some q =>
    obtain ⟨hd, ct⟩ := q
    rw [hn] at h
    dsimp only at h ⊢
    cases ho : S.2.2.2.1[a]? with
    | none =>
      rw [ho] at h
      cases h
    | some e =>
      rw [ho] at h
      rcases e with e | ⟨ci, fs⟩
      · cases h
      · dsimp only at h ⊢
        by_cases hc : ci = mv_gX G
        · rw [if_pos hc] at h ⊢
          exact hk _ _ h
        · rw [if_neg hc] at h
          cases h
theorem mv_fuel1 (G : mv_G) : ∀ (n y fb lb : Nat) (S : mv_S) (E : mv_E), mv_run G n y fb lb S = some E → mv_run G (n + 1) y fb lb S = some E
  | 0, _, _, _, _, _, h => by cases h
  | n + 1, y, fb, lb, S, E, h => by
    have ih := fun y fb lb S E => mv_fuel1 G n y fb lb S E
    rw [mv_run] at h ⊢
    cases hnat : mv_nat G y fb lb S with
    | some S' =>
      rw [hnat] at h
      exact ih _ _ _ _ _ h
    | none =>
      rw [hnat] at h
      dsimp only at h ⊢
      cases hex : mv_exec G y S with
      | none =>
        rw [hex] at h
        cases h
      | some r =>
        rw [hex] at h
        rcases r with S' | ⟨z, as, r, len⟩ | v | a
        · exact ih _ _ _ _ _ h
        · dsimp only at h ⊢
          split at h
          · rename_i hc
            rw [if_pos hc]
            split at h
            · cases h
            · rename_i v hp cb sb hrun
              rw [ih _ _ _ _ _ hrun]
              exact ih _ _ _ _ _ h
            · rename_i a hp cb sb hrun
              rw [ih _ _ _ _ _ hrun]
              exact mv_take_mono (fun S E => ih _ _ _ S E) h
          · cases h
        · exact h
        · exact mv_take_mono (fun S E => ih _ _ _ S E) h
theorem mv_fuel (G : mv_G) {n m y fb lb : Nat} {S : mv_S} {E : mv_E} (hle : n ≤ m) (h : mv_run G n y fb lb S = some E) : mv_run G m y fb lb S = some E := by
  obtain ⟨k, rfl⟩ := Nat.le.dest hle
  clear hle
  induction k with
  | zero => exact h
  | succ k ih => exact mv_fuel1 G (n + k) y fb lb S E ih
/-- steps of one frame, the calls in it as a whole (n: their fuel) -/
def ab_pre (G : mv_G) (Ls : Nat → Option Nat) (X : Nat → ab_V) (n y fb lb : Nat) : Nat → ab_S → Option ab_S
  | 0, A => some A
  | k + 1, A => match ab_step G Ls X y fb lb A with
    | some (.inl A') => ab_pre G Ls X n y fb lb k A'
    | some (.inr (.inl (z, as, r))) => bif Nat.ble 1 fb && Nat.ble (r.length + (mv_gL G z + 11)) lb && Nat.ble as.length (mv_gL G z) then
        ab_fn (fb - 1) fun fb' => ab_fn (lb - (r.length + (mv_gL G z + 11))) fun lb' => match ab_run G Ls X n z fb' lb' (0, ab_args 0 as, [], A.2.2.2.1, A.2.2.2.2.1, A.2.2.2.2.2) with
        | some (.inr v, h, cb, sb) => ab_fn (A.1 + 3) fun pc' => ab_pre G Ls X n y fb lb k (pc', A.2.1, v.toList ++ r, h, cb, sb)
        | _ => none
      else none
    | _ => none
theorem ab_pre_ok {G : mv_G} {Ls : Nat → Option Nat} {X : Nat → ab_V} (hX : ∀ a n f, mv_gS G a = some (n, f) → ∀ k, ab_g (X k) (.int (f k))) (hL : ∀ a n, Ls a = some n → ∃ f, mv_gS G a = some (n, f)) (hL0 : ∀ a, Ls a = none → mv_gS G a = none) {n y fb lb : Nat} : ∀ (k : Nat) (A A' : ab_S) (S : mv_S), ab_gS A S → ab_pre G Ls X n y fb lb k A = some A' → ∃ S', ab_gS A' S' ∧ ∀ (m : Nat) (E : mv_E), n ≤ m → mv_run G m y fb lb S' = some E → mv_run G (m + k) y fb lb S = some E
  | 0, A, A', S, hs, h => by
    cases h
    exact ⟨S, hs, fun m E _ hm => hm⟩
  | k + 1, A, A', S, hs, h => by
    unfold ab_pre at h
    cases hst : ab_step G Ls X y fb lb A with
    | none =>
      rw [hst] at h
      cases h
    | some r =>
      rw [hst] at h
      have hok := ab_step_ok hX hL hL0 hs hst
      obtain ⟨s1, s2, s3, s4, s5, s6⟩ := id hs
      rcases r with A1 | ⟨z, as, r⟩ | v | a
      · obtain ⟨S1, h1, h2⟩ := hok
        obtain ⟨S', h3, h4⟩ := ab_pre_ok hX hL hL0 k A1 A' S1 h2 h
        refine ⟨S', h3, fun m E hm he => ?_⟩
        have h5 := h4 m E hm he
        show mv_run G (m + k + 1) y fb lb S = some E
        rw [mv_run]
        rcases h1 with h1 | ⟨h1, h6⟩
        · rw [h1]
          exact h5
        · rw [h1, h6]
          exact h5
      · obtain ⟨h1, as', r', h3, h4, h5⟩ := hok
        dsimp only at h
        obtain ⟨b1, h9⟩ := ab_bif h
        simp only [Bool.and_eq_true] at b1
        obtain ⟨⟨c1, c2⟩, c3⟩ := b1
        rw [ab_fn_eq, ab_fn_eq] at h9
        have c1 := Nat.le_of_ble_eq_true c1
        have c2 := Nat.le_of_ble_eq_true c2
        have c3 := Nat.le_of_ble_eq_true c3
        split at h9
        · rename_i v h' cb' sb' hrun
          rw [ab_fn_eq] at h9
          obtain ⟨⟨o, hp', cb2, sb2⟩, e1, e2, e3, e4, e5⟩ := ab_run_ok hX hL hL0 n z (fb - 1) (lb - (r.length + (mv_gL G z + 11))) (0, ab_args 0 as, [], A.2.2.2.1, A.2.2.2.2.1, A.2.2.2.2.2) (0, lv_args 0 as', [], S.2.2.2.1, S.2.2.2.2.1, S.2.2.2.2.2) _ ⟨rfl, fun i v hv => ab_args_ok 0 0 h4 i v hv, trivial, s4, s5, s6⟩ hrun
          rcases o with a2 | w
          · exact absurd e2 id
          · obtain ⟨S', h6, h7⟩ := ab_pre_ok hX hL hL0 k (A.1 + 3, A.2.1, v.toList ++ r, h', cb', sb') A' (S.1 + 3, S.2.1, w.toList ++ r', hp', cb2, sb2) ⟨by show A.1 + 3 = S.1 + 3; rw [s1], s2, ab_gs_app (ab_toList e2) h5, e3, e4, e5⟩ h9
            refine ⟨S', h6, fun m E hm he => ?_⟩
            have h8 := h7 m E hm he
            show mv_run G (m + k + 1) y fb lb S = some E
            rw [mv_run, h1, h3]
            dsimp only
            rw [(ab_gs_cats h5).1, if_pos ⟨c1, c2, by rw [(ab_gs_cats h4).2]; exact c3⟩, mv_fuel G (show n ≤ m + k by omega) e1]
            exact h8
        · cases h9
      · cases h
      · cases h
end
section
/-! fast tables (ft_) for the boxes: printed by wip/whole/gen30.py; each row is held against the slow ones by the kernel -/
def ft_two {α : Type} (t : List (List (Option α))) (i : Nat) : Option α := match t[i / 32]? with
  | some r => match r[i % 32]? with
    | some o => o
    | none => none
  | none => none
def ft_I0 : List (List (Option (Instr × Nat))) := [[some (.new 7, 3), none, none, some (.dup, 1), some (.invokespecial 9, 3), none, none, some (.astore_n 1, 1), some (.new 10, 3), none, none, some (.dup, 1), some (.invokespecial 12, 3), none, none, some (.astore_n 2, 1), some (.iconst 0, 1), some (.istore_n 3, 1), some (.iload_n 3, 1), some (.aload_n 0, 1), some (.arraylength, 1), some (.bipush 6, 2), none, some (.isub, 1), some (.if_icmp .gt 964, 3), none, none, some (.aload_n 0, 1), some (.iload_n 3, 1), some (.iaload, 1), some (.bipush 31, 2)], [some (.iand, 1)], [], [], [], [none, none, none, none, none, none, none, none, none, none, none, none, none, none, none, none, some (.aload_n 1, 1), some (.aload_n 0, 1), some (.iload_n 3, 1), some (.iconst 1, 1), some (.iadd, 1), some (.iaload, 1), some (.aload_n 0, 1), some (.iload_n 3, 1), some (.iconst 2, 1), some (.iadd, 1), some (.iaload, 1), some (.aload_n 0, 1), some (.iload_n 3, 1), some (.iconst 3, 1), some (.iadd, 1), some (.iaload, 1)], [some (.aload_n 0, 1), some (.iload_n 3, 1), some (.iconst 4, 1), some (.iadd, 1), some (.iaload, 1), some (.aload_n 0, 1), some (.iload_n 3, 1), some (.iconst 5, 1), some (.iadd, 1), some (.iaload, 1), some (.invokevirtual 13, 3), none, none, some (.aload_n 2, 1), some (.aload_n 0, 1), some (.iload_n 3, 1), some (.iconst 1, 1), some (.iadd, 1), some (.iaload, 1), some (.aload_n 0, 1), some (.iload_n 3, 1), some (.iconst 2, 1), some (.iadd, 1), some (.iaload, 1), some (.aload_n 0, 1), some (.iload_n 3, 1), some (.iconst 3, 1), some (.iadd, 1), some (.iaload, 1), some (.aload_n 0, 1), some (.iload_n 3, 1), some (.iconst 4, 1)], [some (.iadd, 1), some (.iaload, 1), some (.aload_n 0, 1), some (.iload_n 3, 1), some (.iconst 5, 1), some (.iadd, 1), some (.iaload, 1), some (.invokevirtual 17, 3), none, none, some (.if_icmp .eq 748, 3), none, none, some (.iconst 0, 1), some (.ireturn, 1), some (.aload_n 1, 1), some (.aload_n 0, 1), some (.iload_n 3, 1), some (.iconst 1, 1), some (.iadd, 1), some (.iaload, 1), some (.invokevirtual 18, 3), none, none, some (.aload_n 2, 1), some (.aload_n 0, 1), some (.iload_n 3, 1), some (.iconst 1, 1), some (.iadd, 1), some (.iaload, 1), some (.invokevirtual 22, 3)], [none, some (.if_icmp .eq 725, 3), none, none, some (.iconst 0, 1), some (.ireturn, 1), some (.aload_n 1, 1), some (.aload_n 0, 1), some (.iload_n 3, 1), some (.iconst 1, 1), some (.iadd, 1), some (.iaload, 1), some (.invokevirtual 23, 3), none, none, some (.aload_n 2, 1), some (.aload_n 0, 1), some (.iload_n 3, 1), some (.iconst 1, 1), some (.iadd, 1), some (.iaload, 1), some (.invokevirtual 26, 3), none, none, some (.if_icmp .eq 702, 3), none, none, some (.iconst 0, 1), some (.ireturn, 1), some (.aload_n 1, 1), some (.invokevirtual 27, 3)], [none, some (.aload_n 2, 1), some (.invokevirtual 31, 3), none, none, some (.if_icmp .eq 689, 3), none, none, some (.iconst 0, 1), some (.ireturn, 1), some (.aload_n 1, 1), some (.aload_n 0, 1), some (.iload_n 3, 1), some (.iconst 1, 1), some (.iadd, 1), some (.iaload, 1), some (.invokevirtual 32, 3), none, none, some (.aload_n 2, 1), some (.aload_n 0, 1), some (.iload_n 3, 1), some (.iconst 1, 1), some (.iadd, 1), some (.iaload, 1), some (.invokevirtual 35, 3), none, none, some (.if_icmp .eq 666, 3), none, none, some (.iconst 0, 1)], [some (.ireturn, 1), some (.aload_n 1, 1), some (.aload_n 0, 1), some (.iload_n 3, 1), some (.iconst 1, 1), some (.iadd, 1), some (.iaload, 1), some (.aload_n 0, 1), some (.iload_n 3, 1), some (.iconst 2, 1), some (.iadd, 1), some (.iaload, 1), some (.invokevirtual 36, 3), none, none, some (.aload_n 2, 1), some (.aload_n 0, 1), some (.iload_n 3, 1), some (.iconst 1, 1), some (.iadd, 1), some (.iaload, 1), some (.aload_n 0, 1), some (.iload_n 3, 1), some (.iconst 2, 1), some (.iadd, 1), some (.iaload, 1), some (.invokevirtual 40, 3), none, none, some (.if_icmp .eq 633, 3)], [some (.iconst 0, 1), some (.ireturn, 1), some (.aload_n 1, 1), some (.aload_n 0, 1), some (.iload_n 3, 1), some (.iconst 1, 1), some (.iadd, 1), some (.iaload, 1), some (.aload_n 0, 1), some (.iload_n 3, 1), some (.iconst 2, 1), some (.iadd, 1), some (.iaload, 1), some (.invokevirtual 41, 3), none, none, some (.aload_n 2, 1), some (.aload_n 0, 1), some (.iload_n 3, 1), some (.iconst 1, 1), some (.iadd, 1), some (.iaload, 1), some (.aload_n 0, 1), some (.iload_n 3, 1), some (.iconst 2, 1), some (.iadd, 1), some (.iaload, 1), some (.invokevirtual 44, 3), none, none, some (.if_icmp .eq 600, 3)], [none, some (.iconst 0, 1), some (.ireturn, 1), some (.aload_n 1, 1), some (.invokevirtual 45, 3), none, none, some (.aload_n 2, 1), some (.invokevirtual 48, 3), none, none, some (.if_icmp .eq 587, 3), none, none, some (.iconst 0, 1), some (.ireturn, 1), some (.aload_n 1, 1), some (.aload_n 0, 1), some (.iload_n 3, 1), some (.iconst 1, 1), some (.iadd, 1), some (.iaload, 1), some (.aload_n 0, 1), some (.iload_n 3, 1), some (.iconst 2, 1), some (.iadd, 1), some (.iaload, 1), some (.invokevirtual 49, 3), none, none, some (.aload_n 2, 1), some (.aload_n 0, 1)], [some (.iload_n 3, 1), some (.iconst 1, 1), some (.iadd, 1), some (.iaload, 1), some (.aload_n 0, 1), some (.iload_n 3, 1), some (.iconst 2, 1), some (.iadd, 1), some (.iaload, 1), some (.invokevirtual 52, 3), none, none, some (.if_icmp .eq 554, 3), none, none, some (.iconst 0, 1), some (.ireturn, 1), some (.aload_n 1, 1), some (.aload_n 0, 1), some (.iload_n 3, 1), some (.iconst 1, 1), some (.iadd, 1), some (.iaload, 1), some (.aload_n 0, 1), some (.iload_n 3, 1), some (.iconst 2, 1), some (.iadd, 1), some (.iaload, 1), some (.invokevirtual 53, 3), none, none, some (.aload_n 2, 1)], [some (.aload_n 0, 1), some (.iload_n 3, 1), some (.iconst 1, 1), some (.iadd, 1), some (.iaload, 1), some (.aload_n 0, 1), some (.iload_n 3, 1), some (.iconst 2, 1), some (.iadd, 1), some (.iaload, 1), some (.invokevirtual 56, 3), none, none, some (.if_icmp .eq 521, 3), none, none, some (.iconst 0, 1), some (.ireturn, 1), some (.aload_n 1, 1), some (.aload_n 0, 1), some (.iload_n 3, 1), some (.iconst 1, 1), some (.iadd, 1), some (.iaload, 1), some (.invokevirtual 57, 3), none, none, some (.aload_n 2, 1), some (.aload_n 0, 1), some (.iload_n 3, 1), some (.iconst 1, 1), some (.iadd, 1)], [some (.iaload, 1), some (.invokevirtual 60, 3), none, none, some (.if_icmp .eq 498, 3), none, none, some (.iconst 0, 1), some (.ireturn, 1), some (.aload_n 1, 1), some (.aload_n 0, 1), some (.iload_n 3, 1), some (.iconst 1, 1), some (.iadd, 1), some (.iaload, 1), some (.aload_n 0, 1), some (.iload_n 3, 1), some (.iconst 2, 1), some (.iadd, 1), some (.iaload, 1), some (.invokevirtual 61, 3), none, none, some (.aload_n 2, 1), some (.aload_n 0, 1), some (.iload_n 3, 1), some (.iconst 1, 1), some (.iadd, 1), some (.iaload, 1), some (.aload_n 0, 1), some (.iload_n 3, 1), some (.iconst 2, 1)], [some (.iadd, 1), some (.iaload, 1), some (.invokevirtual 64, 3), none, none, some (.if_icmp .eq 465, 3), none, none, some (.iconst 0, 1), some (.ireturn, 1), some (.aload_n 1, 1), some (.aload_n 0, 1), some (.iload_n 3, 1), some (.iconst 1, 1), some (.iadd, 1), some (.iaload, 1), some (.invokevirtual 65, 3), none, none, some (.aload_n 2, 1), some (.aload_n 0, 1), some (.iload_n 3, 1), some (.iconst 1, 1), some (.iadd, 1), some (.iaload, 1), some (.invokevirtual 68, 3), none, none, some (.if_icmp .eq 442, 3), none, none, some (.iconst 0, 1)], [some (.ireturn, 1), some (.aload_n 1, 1), some (.aload_n 0, 1), some (.iload_n 3, 1), some (.iconst 1, 1), some (.iadd, 1), some (.iaload, 1), some (.aload_n 0, 1), some (.iload_n 3, 1), some (.iconst 2, 1), some (.iadd, 1), some (.iaload, 1), some (.invokevirtual 69, 3), none, none, some (.aload_n 2, 1), some (.aload_n 0, 1), some (.iload_n 3, 1), some (.iconst 1, 1), some (.iadd, 1), some (.iaload, 1), some (.aload_n 0, 1), some (.iload_n 3, 1), some (.iconst 2, 1), some (.iadd, 1), some (.iaload, 1), some (.invokevirtual 72, 3), none, none, some (.if_icmp .eq 409, 3)], [some (.iconst 0, 1), some (.ireturn, 1), some (.aload_n 1, 1), some (.aload_n 0, 1), some (.iload_n 3, 1), some (.iconst 1, 1), some (.iadd, 1), some (.iaload, 1), some (.invokevirtual 73, 3), none, none, some (.aload_n 2, 1), some (.aload_n 0, 1), some (.iload_n 3, 1), some (.iconst 1, 1), some (.iadd, 1), some (.iaload, 1), some (.invokevirtual 76, 3), none, none, some (.if_icmp .eq 386, 3), none, none, some (.iconst 0, 1), some (.ireturn, 1), some (.aload_n 1, 1), some (.aload_n 0, 1), some (.iload_n 3, 1), some (.iconst 1, 1), some (.iadd, 1), some (.iaload, 1), some (.invokevirtual 77, 3)], [none, none, some (.aload_n 2, 1), some (.aload_n 0, 1), some (.iload_n 3, 1), some (.iconst 1, 1), some (.iadd, 1), some (.iaload, 1), some (.invokevirtual 80, 3), none, none, some (.if_icmp .eq 363, 3), none, none, some (.iconst 0, 1), some (.ireturn, 1), some (.aload_n 1, 1), some (.invokevirtual 81, 3), none, none, some (.aload_n 2, 1), some (.invokevirtual 84, 3), none, none, some (.if_icmp .eq 350, 3), none, none, some (.iconst 0, 1), some (.ireturn, 1), some (.aload_n 1, 1), some (.aload_n 0, 1), some (.iload_n 3, 1)], [some (.iconst 1, 1), some (.iadd, 1), some (.iaload, 1), some (.invokevirtual 85, 3), none, none, some (.aload_n 2, 1), some (.aload_n 0, 1), some (.iload_n 3, 1), some (.iconst 1, 1), some (.iadd, 1), some (.iaload, 1), some (.invokevirtual 88, 3), none, none, some (.if_icmp .eq 327, 3), none, none, some (.iconst 0, 1), some (.ireturn, 1), some (.aload_n 1, 1), some (.aload_n 0, 1), some (.iload_n 3, 1), some (.iconst 1, 1), some (.iadd, 1), some (.iaload, 1), some (.invokevirtual 89, 3), none, none, some (.aload_n 2, 1), some (.aload_n 0, 1), some (.iload_n 3, 1)], [some (.iconst 1, 1), some (.iadd, 1), some (.iaload, 1), some (.invokevirtual 92, 3), none, none, some (.if_icmp .eq 304, 3), none, none, some (.iconst 0, 1), some (.ireturn, 1), some (.aload_n 1, 1), some (.aload_n 0, 1), some (.iload_n 3, 1), some (.iconst 1, 1), some (.iadd, 1), some (.iaload, 1), some (.invokevirtual 93, 3), none, none, some (.aload_n 2, 1), some (.aload_n 0, 1), some (.iload_n 3, 1), some (.iconst 1, 1), some (.iadd, 1), some (.iaload, 1), some (.invokevirtual 96, 3), none, none, some (.if_icmp .eq 281, 3)], [some (.iconst 0, 1), some (.ireturn, 1), some (.aload_n 1, 1), some (.aload_n 0, 1), some (.iload_n 3, 1), some (.iconst 1, 1), some (.iadd, 1), some (.iaload, 1), some (.aload_n 0, 1), some (.iload_n 3, 1), some (.iconst 2, 1), some (.iadd, 1), some (.iaload, 1), some (.invokevirtual 97, 3), none, none, some (.aload_n 2, 1), some (.aload_n 0, 1), some (.iload_n 3, 1), some (.iconst 1, 1), some (.iadd, 1), some (.iaload, 1), some (.aload_n 0, 1), some (.iload_n 3, 1), some (.iconst 2, 1), some (.iadd, 1), some (.iaload, 1), some (.invokevirtual 100, 3), none, none, some (.if_icmp .eq 248, 3)], [none, some (.iconst 0, 1), some (.ireturn, 1), some (.aload_n 1, 1), some (.aload_n 0, 1), some (.iload_n 3, 1), some (.iconst 1, 1), some (.iadd, 1), some (.iaload, 1), some (.aload_n 0, 1), some (.iload_n 3, 1), some (.iconst 2, 1), some (.iadd, 1), some (.iaload, 1), some (.aload_n 0, 1), some (.iload_n 3, 1), some (.iconst 3, 1), some (.iadd, 1), some (.iaload, 1), some (.invokevirtual 101, 3), none, none, some (.aload_n 2, 1), some (.aload_n 0, 1), some (.iload_n 3, 1), some (.iconst 1, 1), some (.iadd, 1), some (.iaload, 1), some (.aload_n 0, 1), some (.iload_n 3, 1), some (.iconst 2, 1), some (.iadd, 1)], [some (.iaload, 1), some (.aload_n 0, 1), some (.iload_n 3, 1), some (.iconst 3, 1), some (.iadd, 1), some (.iaload, 1), some (.invokevirtual 105, 3), none, none, some (.if_icmp .eq 205, 3), none, none, some (.iconst 0, 1), some (.ireturn, 1), some (.aload_n 1, 1), some (.invokevirtual 106, 3), none, none, some (.aload_n 2, 1), some (.invokevirtual 109, 3), none, none, some (.if_icmp .eq 192, 3), none, none, some (.iconst 0, 1), some (.ireturn, 1), some (.aload_n 1, 1), some (.aload_n 0, 1), some (.iload_n 3, 1), some (.iconst 1, 1), some (.iadd, 1)], [some (.iaload, 1), some (.aload_n 0, 1), some (.iload_n 3, 1), some (.iconst 2, 1), some (.iadd, 1), some (.iaload, 1), some (.invokevirtual 110, 3), none, none, some (.aload_n 2, 1), some (.aload_n 0, 1), some (.iload_n 3, 1), some (.iconst 1, 1), some (.iadd, 1), some (.iaload, 1), some (.aload_n 0, 1), some (.iload_n 3, 1), some (.iconst 2, 1), some (.iadd, 1), some (.iaload, 1), some (.invokevirtual 113, 3), none, none, some (.if_icmp .eq 159, 3), none, none, some (.iconst 0, 1), some (.ireturn, 1), some (.aload_n 1, 1), some (.invokevirtual 114, 3)], [some (.aload_n 2, 1), some (.invokevirtual 117, 3), none, none, some (.if_icmp .eq 146, 3), none, none, some (.iconst 0, 1), some (.ireturn, 1), some (.aload_n 1, 1), some (.invokevirtual 118, 3), none, none, some (.aload_n 2, 1), some (.invokevirtual 121, 3), none, none, some (.if_icmp .eq 133, 3), none, none, some (.iconst 0, 1), some (.ireturn, 1), some (.aload_n 1, 1), some (.invokevirtual 122, 3), none, none, some (.aload_n 2, 1), some (.invokevirtual 125, 3), none, none, some (.if_icmp .eq 120, 3)], [none, some (.iconst 0, 1), some (.ireturn, 1), some (.aload_n 1, 1), some (.invokevirtual 126, 3), none, none, some (.aload_n 2, 1), some (.invokevirtual 129, 3), none, none, some (.if_icmp .eq 107, 3), none, none, some (.iconst 0, 1), some (.ireturn, 1), some (.aload_n 1, 1), some (.aload_n 0, 1), some (.iload_n 3, 1), some (.iconst 1, 1), some (.iadd, 1), some (.iaload, 1), some (.aload_n 0, 1), some (.iload_n 3, 1), some (.iconst 2, 1), some (.iadd, 1), some (.iaload, 1), some (.invokevirtual 130, 3), none, none, some (.aload_n 2, 1), some (.aload_n 0, 1)], [some (.iload_n 3, 1), some (.iconst 1, 1), some (.iadd, 1), some (.iaload, 1), some (.aload_n 0, 1), some (.iload_n 3, 1), some (.iconst 2, 1), some (.iadd, 1), some (.iaload, 1), some (.invokevirtual 133, 3), none, none, some (.if_icmp .eq 74, 3), none, none, some (.iconst 0, 1), some (.ireturn, 1), some (.aload_n 1, 1), some (.invokevirtual 134, 3), none, none, some (.aload_n 2, 1), some (.invokevirtual 137, 3), none, none, some (.if_icmp .eq 61, 3), none, none, some (.iconst 0, 1), some (.ireturn, 1), some (.aload_n 1, 1), some (.aload_n 0, 1)], [some (.iload_n 3, 1), some (.iconst 1, 1), some (.iadd, 1), some (.iaload, 1), some (.invokevirtual 138, 3), none, none, some (.aload_n 2, 1), some (.aload_n 0, 1), some (.iload_n 3, 1), some (.iconst 1, 1), some (.iadd, 1), some (.iaload, 1), some (.invokevirtual 141, 3), none, none, some (.if_icmp .eq 38, 3), none, none, some (.iconst 0, 1), some (.ireturn, 1), some (.aload_n 1, 1), some (.aload_n 0, 1), some (.iload_n 3, 1), some (.iconst 1, 1), some (.iadd, 1), some (.iaload, 1), some (.aload_n 0, 1), some (.iload_n 3, 1), some (.iconst 2, 1), some (.iadd, 1), some (.iaload, 1)], [some (.invokevirtual 142, 3), none, none, some (.aload_n 2, 1), some (.aload_n 0, 1), some (.iload_n 3, 1), some (.iconst 1, 1), some (.iadd, 1), some (.iaload, 1), some (.aload_n 0, 1), some (.iload_n 3, 1), some (.iconst 2, 1), some (.iadd, 1), some (.iaload, 1), some (.invokevirtual 145, 3), none, none, some (.if_icmp .eq 5, 3), none, none, some (.iconst 0, 1), some (.ireturn, 1), some (.iinc 3 6, 3), none, none, some (.goto (-967), 3), none, none, some (.iconst 1, 1), some (.ireturn, 1)]]
def ft_I1 : List (List (Option (Instr × Nat))) := [[some (.aload_n 0, 1), some (.invokespecial 3, 3), none, none, some (.aload_n 0, 1), some (.sipush 4000, 3), none, none, some (.newarray .byte, 2), none, some (.putfield 9, 3), none, none, some (.aload_n 0, 1), some (.new 13, 3), none, none, some (.dup, 1), some (.invokespecial 15, 3), none, none, some (.putfield 16, 3), none, none, some (.aload_n 0, 1), some (.new 20, 3), none, none, some (.dup, 1), some (.invokespecial 22, 3)], [some (.putfield 23, 3), none, none, some (.aload_n 0, 1), some (.new 27, 3), none, none, some (.dup, 1), some (.invokespecial 29, 3), none, none, some (.putfield 30, 3), none, none, some (.aload_n 0, 1), some (.new 34, 3), none, none, some (.dup, 1), some (.invokespecial 36, 3), none, none, some (.putfield 37, 3), none, none, some (.aload_n 0, 1), some (.new 41, 3), none, none, some (.dup, 1), some (.aload_n 0, 1), some (.getfield 37, 3)], [none, none, some (.invokespecial 43, 3), none, none, some (.putfield 46, 3), none, none, some (.aload_n 0, 1), some (.new 50, 3), none, none, some (.dup, 1), some (.invokespecial 52, 3), none, none, some (.putfield 53, 3), none, none, some (.aload_n 0, 1), some (.new 57, 3), none, none, some (.dup, 1), some (.invokespecial 59, 3), none, none, some (.putfield 60, 3), none, none, some (.aload_n 0, 1), some (.new 64, 3)], [none, none, some (.dup, 1), some (.iconst 4, 1), some (.sipush 3000, 3), none, none, some (.sipush 2408, 3), none, none, some (.invokespecial 66, 3), none, none, some (.putfield 69, 3), none, none, some (.aload_n 0, 1), some (.new 64, 3), none, none, some (.dup, 1), some (.iconst 4, 1), some (.sipush 3000, 3), none, none, some (.sipush 2408, 3), none, none, some (.invokespecial 66, 3), none, none, some (.putfield 73, 3)], [none, none, some (.aload_n 0, 1), some (.bipush (-2), 2), none, some (.putfield 76, 3), none, none, some (.aload_n 0, 1), some (.bipush 50, 2), none, some (.newarray .int, 2), none, some (.putfield 80, 3), none, none, some (.aload_n 0, 1), some (.iconst 5, 1), some (.newarray .int, 2), none, some (.putfield 84, 3), none, none, some (.aload_n 0, 1), some (.sipush 300, 3), none, none, some (.newarray .int, 2), none, some (.putfield 87, 3)], [some (.aload_n 0, 1), some (.bipush 8, 2), none, some (.newarray .int, 2), none, some (.putfield 90, 3), none, none, some (.aload_n 0, 1), some (.sipush 300, 3), none, none, some (.newarray .int, 2), none, some (.putfield 93, 3), none, none, some (.return_, 1)]]
def ft_I2 : List (List (Option (Instr × Nat))) := [[some (.aload_n 0, 1), some (.invokespecial 3, 3), none, none, some (.aload_n 0, 1), some (.sipush 4096, 3), none, none, some (.newarray .int, 2), none, some (.putfield 9, 3), none, none, some (.aload_n 0, 1), some (.sipush 200, 3), none, none, some (.anewarray 15, 3), none, none, some (.putfield 17, 3), none, none, some (.aload_n 0, 1), some (.sipush 200, 3), none, none, some (.newarray .int, 2), none, some (.putfield 21, 3)], [some (.return_, 1)]]
def ft_I3 : List (List (Option (Instr × Nat))) := [[some (.aload_n 0, 1), some (.invokespecial 3, 3), none, none, some (.aload_n 0, 1), some (.sipush 192, 3), none, none, some (.anewarray 9, 3), none, none, some (.putfield 11, 3), none, none, some (.aload_n 0, 1), some (.iconst 5, 1), some (.newarray .int, 2), none, some (.putfield 17, 3), none, none, some (.return_, 1)]]
def ft_I4 : List (List (Option (Instr × Nat))) := [[some (.aload_n 0, 1), some (.invokespecial 5, 3), none, none, some (.aload_n 0, 1), some (.iconst 5, 1), some (.newarray .int, 2), none, some (.putfield 11, 3), none, none, some (.aload_n 0, 1), some (.sipush 300, 3), none, none, some (.newarray .int, 2), none, some (.putfield 15, 3), none, none, some (.aload_n 0, 1), some (.sipush 26040, 3), none, none, some (.newarray .int, 2), none, some (.putfield 18, 3), none, none, some (.aload_n 0, 1), some (.ldc 21, 2)], [some (.newarray .int, 2), none, some (.putfield 22, 3), none, none, some (.aload_n 0, 1), some (.sipush 401, 3), none, none, some (.newarray .int, 2), none, some (.putfield 25, 3), none, none, some (.aload_n 0, 1), some (.sipush 401, 3), none, none, some (.newarray .int, 2), none, some (.putfield 28, 3), none, none, some (.aload_n 0, 1), some (.sipush 192, 3), none, none, some (.newarray .int, 2), none, some (.putfield 31, 3)], [some (.aload_n 0, 1), some (.bipush 41, 2), none, some (.bipush 9, 2), none, some (.multianewarray 34 2, 4), none, none, none, some (.putfield 36, 3), none, none, some (.aload_n 0, 1), some (.bipush 9, 2), none, some (.sipush 192, 3), none, none, some (.multianewarray 34 2, 4), none, none, none, some (.putfield 39, 3), none, none, some (.aload_n 0, 1), some (.bipush 9, 2), none, some (.newarray .int, 2), none, some (.putfield 42, 3)], [none, some (.aload_n 0, 1), some (.bipush 8, 2), none, some (.sipush 192, 3), none, none, some (.multianewarray 34 2, 4), none, none, none, some (.putfield 45, 3), none, none, some (.return_, 1)]]
def ft_I5 : List (List (Option (Instr × Nat))) := [[some (.aload_n 0, 1), some (.invokespecial 3, 3), none, none, some (.aload_n 0, 1), some (.sipush 2416, 3), none, none, some (.newarray .int, 2), none, some (.putfield 9, 3), none, none, some (.aload_n 0, 1), some (.sipush 2416, 3), none, none, some (.newarray .int, 2), none, some (.putfield 15, 3), none, none, some (.aload_n 0, 1), some (.sipush 2416, 3), none, none, some (.newarray .int, 2), none, some (.putfield 18, 3), none, none, some (.aload_n 0, 1)], [some (.sipush 2416, 3), none, none, some (.newarray .int, 2), none, some (.putfield 21, 3), none, none, some (.aload_n 0, 1), some (.sipush 12010, 3), none, none, some (.newarray .byte, 2), none, some (.putfield 24, 3), none, none, some (.aload_n 0, 1), some (.sipush 12010, 3), none, none, some (.newarray .int, 2), none, some (.putfield 28, 3), none, none, some (.aload_n 0, 1), some (.iconst 4, 1), some (.newarray .int, 2), none, some (.putfield 31, 3)], [none, some (.aload_n 0, 1), some (.sipush 12000, 3), none, none, some (.newarray .int, 2), none, some (.putfield 34, 3), none, none, some (.return_, 1)]]
def ft_I6 : List (List (Option (Instr × Nat))) := [[some (.aload_n 0, 1), some (.invokespecial 3, 3), none, none, some (.aload_n 0, 1), some (.bipush 9, 2), none, some (.newarray .int, 2), none, some (.putfield 9, 3), none, none, some (.aload_n 0, 1), some (.aload_n 1, 1), some (.putfield 15, 3), none, none, some (.return_, 1)]]
def ft_I7 : List (List (Option (Instr × Nat))) := [[some (.aload_n 0, 1), some (.invokespecial 3, 3), none, none, some (.aload_n 0, 1), some (.new 9, 3), none, none, some (.dup, 1), some (.iconst 1, 1), some (.sipush 4000, 3), none, none, some (.bipush 108, 2), none, some (.invokespecial 11, 3), none, none, some (.putfield 14, 3), none, none, some (.aload_n 0, 1), some (.bipush (-2), 2), none, some (.putfield 20, 3), none, none, some (.aload_n 0, 1), some (.sipush 2408, 3), none, none, some (.newarray .int, 2)], [none, some (.putfield 24, 3), none, none, some (.aload_n 0, 1), some (.bipush 26, 2), none, some (.anewarray 28, 3), none, none, some (.putfield 30, 3), none, none, some (.aload_n 0, 1), some (.sipush 2408, 3), none, none, some (.newarray .int, 2), none, some (.putfield 34, 3), none, none, some (.aload_n 0, 1), some (.sipush 2408, 3), none, none, some (.newarray .int, 2), none, some (.putfield 37, 3), none, none, some (.aload_n 0, 1)], [some (.sipush 2408, 3), none, none, some (.newarray .int, 2), none, some (.putfield 40, 3), none, none, some (.aload_n 0, 1), some (.sipush 1000, 3), none, none, some (.newarray .int, 2), none, some (.putfield 43, 3), none, none, some (.aload_n 0, 1), some (.sipush 1000, 3), none, none, some (.newarray .int, 2), none, some (.putfield 46, 3), none, none, some (.return_, 1)]]
def ft_I8 : List (List (Option (Instr × Nat))) := [[some (.aload_n 0, 1), some (.invokespecial 3, 3), none, none, some (.aload_n 0, 1), some (.bipush 8, 2), none, some (.anewarray 9, 3), none, none, some (.putfield 11, 3), none, none, some (.aload_n 0, 1), some (.bipush (-2), 2), none, some (.putfield 17, 3), none, none, some (.aload_n 0, 1), some (.iload_n 1, 1), some (.iload_n 2, 1), some (.multianewarray 21 2, 4), none, none, none, some (.putfield 23, 3), none, none, some (.aload_n 0, 1), some (.iload_n 1, 1), some (.newarray .int, 2)], [none, some (.putfield 26, 3), none, none, some (.aload_n 0, 1), some (.iload_n 3, 1), some (.newarray .int, 2), none, some (.putfield 30, 3), none, none, some (.aload_n 0, 1), some (.iload_n 3, 1), some (.newarray .int, 2), none, some (.putfield 33, 3), none, none, some (.aload_n 0, 1), some (.iload_n 3, 1), some (.newarray .int, 2), none, some (.putfield 36, 3), none, none, some (.aload_n 0, 1), some (.iload_n 3, 1), some (.newarray .int, 2), none, some (.putfield 39, 3)], [some (.aload_n 0, 1), some (.iload_n 3, 1), some (.anewarray 9, 3), none, none, some (.putfield 42, 3), none, none, some (.aload_n 0, 1), some (.iload_n 3, 1), some (.anewarray 45, 3), none, none, some (.putfield 47, 3), none, none, some (.aload_n 0, 1), some (.iload_n 3, 1), some (.anewarray 51, 3), none, none, some (.putfield 53, 3), none, none, some (.aload_n 0, 1), some (.iload_n 3, 1), some (.anewarray 9, 3), none, none, some (.putfield 57, 3)], [some (.return_, 1)]]
def ft_I9 : List (List (Option (Instr × Nat))) := [[some (.aload_n 0, 1), some (.invokespecial 3, 3), none, none, some (.aload_n 0, 1), some (.bipush 13, 2), none, some (.anewarray 9, 3), none, none, some (.putfield 11, 3), none, none, some (.aload_n 0, 1), some (.bipush 13, 2), none, some (.iconst 4, 1), some (.multianewarray 17 2, 4), none, none, none, some (.putfield 19, 3), none, none, some (.return_, 1)]]
def ft_I10 : List (List (Option (Instr × Nat))) := [[some (.aload_n 0, 1), some (.getfield 96, 3), none, none, some (.bipush 20, 2), none, some (.iadd, 1), some (.sipush 4000, 3), none, none, some (.if_icmp .le 6, 3), none, none, some (.bipush (-3), 2), none, some (.ireturn, 1), some (.aload_n 0, 1), some (.iload_n 1, 1), some (.invokevirtual 99, 3), none, none, some (.aload_n 0, 1), some (.iload_n 2, 1), some (.invokevirtual 99, 3), none, none, some (.aload_n 0, 1), some (.iload_n 3, 1), some (.invokevirtual 99, 3), none, none, some (.aload_n 0, 1)], [some (.iload 4, 2), none, some (.invokevirtual 99, 3), none, none, some (.aload_n 0, 1), some (.iload 5, 2), none, some (.invokevirtual 99, 3), none, none, some (.aload_n 0, 1), some (.getfield 96, 3), none, none, some (.ireturn, 1)]]
def ft_I11 : List (List (Option (Instr × Nat))) := [[some (.bipush 24, 2), none, some (.istore_n 2, 1), some (.iload_n 2, 1), some (.ifCond .lt 42, 3), none, none, some (.aload_n 0, 1), some (.getfield 96, 3), none, none, some (.sipush 4000, 3), none, none, some (.if_icmp .ge 32, 3), none, none, some (.aload_n 0, 1), some (.getfield 9, 3), none, none, some (.aload_n 0, 1), some (.getfield 96, 3), none, none, some (.iload_n 1, 1), some (.iload_n 2, 1), some (.iushr, 1), some (.i2b, 1), some (.bastore, 1), some (.aload_n 0, 1), some (.dup, 1)], [some (.getfield 96, 3), none, none, some (.iconst 1, 1), some (.iadd, 1), some (.putfield 96, 3), none, none, some (.iinc 2 (-8), 3), none, none, some (.goto (-40), 3), none, none, some (.return_, 1)]]
def ft_I12 : List (List (Option (Instr × Nat))) := [[some (.iload_n 1, 1), some (.ifCond .lt 11, 3), none, none, some (.iload_n 1, 1), some (.aload_n 0, 1), some (.getfield 96, 3), none, none, some (.if_icmp .le 5, 3), none, none, some (.iconst (-1), 1), some (.ireturn, 1), some (.aload_n 0, 1), some (.dup, 1), some (.getfield 96, 3), none, none, some (.iload_n 1, 1), some (.isub, 1), some (.putfield 96, 3), none, none, some (.aload_n 0, 1), some (.getfield 96, 3), none, none, some (.ireturn, 1)]]
def ft_I13 : List (List (Option (Instr × Nat))) := [[some (.iload_n 1, 1), some (.ifCond .lt 8, 3), none, none, some (.iload_n 1, 1), some (.iconst 4, 1), some (.if_icmp .lt 5, 3), none, none, some (.iconst (-1), 1), some (.ireturn, 1), some (.aload_n 0, 1), some (.getfield 96, 3), none, none, some (.istore_n 2, 1), some (.aload_n 0, 1), some (.iconst 0, 1), some (.putfield 96, 3), none, none, some (.aload_n 0, 1), some (.bipush (-2), 2), none, some (.putfield 76, 3), none, none, some (.iload_n 2, 1), some (.sipush 3000, 3), none, none, some (.if_icmp .le 6, 3)], [none, none, some (.bipush (-3), 2), none, some (.ireturn, 1), some (.aload_n 0, 1), some (.getfield 73, 3), none, none, some (.aload_n 0, 1), some (.getfield 69, 3), none, none, some (.invokevirtual 103, 3), none, none, some (.aload_n 0, 1), some (.getfield 9, 3), none, none, some (.iconst 0, 1), some (.aload_n 0, 1), some (.getfield 73, 3), none, none, some (.getfield 107, 3), none, none, some (.iload_n 1, 1), some (.aaload, 1), some (.iconst 0, 1), some (.iload_n 2, 1)], [some (.invokestatic 111, 3), none, none, some (.aload_n 0, 1), some (.getfield 73, 3), none, none, some (.getfield 117, 3), none, none, some (.iload_n 1, 1), some (.iload_n 2, 1), some (.iastore, 1), some (.aload_n 0, 1), some (.getfield 16, 3), none, none, some (.aload_n 0, 1), some (.getfield 73, 3), none, none, some (.iload_n 1, 1), some (.bipush 8, 2), none, some (.aload_n 0, 1), some (.getfield 69, 3), none, none, some (.iload_n 1, 1), some (.invokevirtual 120, 3)], [some (.isub, 1), some (.invokevirtual 124, 3), none, none, some (.istore_n 3, 1), some (.iload_n 3, 1), some (.ifCond .eq 19, 3), none, none, some (.aload_n 0, 1), some (.aload_n 0, 1), some (.getfield 16, 3), none, none, some (.getfield 128, 3), none, none, some (.putfield 76, 3), none, none, some (.bipush (-10), 2), none, some (.iload_n 3, 1), some (.isub, 1), some (.ireturn, 1), some (.aload_n 0, 1), some (.invokevirtual 131, 3), none, none, some (.aload_n 0, 1), some (.getfield 60, 3)], [none, some (.invokevirtual 134, 3), none, none, some (.aload_n 0, 1), some (.iconst 0, 1), some (.putfield 137, 3), none, none, some (.aload_n 0, 1), some (.getfield 69, 3), none, none, some (.iload_n 1, 1), some (.invokevirtual 141, 3), none, none, some (.ireturn, 1)]]
def ft_I14 : List (List (Option (Instr × Nat))) := [[some (.iconst 0, 1), some (.istore_n 2, 1), some (.iload_n 2, 1), some (.iconst 4, 1), some (.if_icmp .ge 44, 3), none, none, some (.aload_n 1, 1), some (.getfield 23, 3), none, none, some (.iload_n 2, 1), some (.aaload, 1), some (.iconst 0, 1), some (.aload_n 0, 1), some (.getfield 23, 3), none, none, some (.iload_n 2, 1), some (.aaload, 1), some (.iconst 0, 1), some (.aload_n 1, 1), some (.getfield 26, 3), none, none, some (.iload_n 2, 1), some (.iaload, 1), some (.invokestatic 82, 3), none, none, some (.aload_n 0, 1), some (.getfield 26, 3)], [none, none, some (.iload_n 2, 1), some (.aload_n 1, 1), some (.getfield 26, 3), none, none, some (.iload_n 2, 1), some (.iaload, 1), some (.iastore, 1), some (.iinc 2 1, 3), none, none, some (.goto (-43), 3), none, none, some (.return_, 1)]]
def ft_I15 : List (List (Option (Instr × Nat))) := [[some (.iconst 0, 1), some (.istore_n 2, 1), some (.iconst 0, 1), some (.istore_n 3, 1), some (.iload_n 3, 1), some (.aload_n 0, 1), some (.getfield 72, 3), none, none, some (.if_icmp .ge 34, 3), none, none, some (.aload_n 0, 1), some (.getfield 30, 3), none, none, some (.aload_n 0, 1), some (.getfield 11, 3), none, none, some (.iload_n 3, 1), some (.aaload, 1), some (.getfield 88, 3), none, none, some (.iaload, 1), some (.sipush 10000, 3), none, none, some (.idiv, 1), some (.iload_n 1, 1), some (.if_icmp .eq 6, 3)], [none, none, some (.iinc 2 1, 3), none, none, some (.iinc 3 1, 3), none, none, some (.goto (-36), 3), none, none, some (.iload_n 2, 1), some (.ireturn, 1)]]
def ft_I16 : List (List (Option (Instr × Nat))) := [[some (.aload_n 0, 1), some (.aload_n 1, 1), some (.invokevirtual 43, 3), none, none, some (.aload_n 0, 1), some (.iconst 0, 1), some (.putfield 47, 3), none, none, some (.aload_n 0, 1), some (.iconst 0, 1), some (.putfield 51, 3), none, none, some (.iconst 0, 1), some (.istore 4, 2), none, some (.iload 4, 2), none, some (.iconst 4, 1), some (.if_icmp .ge 125, 3), none, none, some (.aload_n 0, 1), some (.getfield 39, 3), none, none, some (.ifCond .ne 118, 3), none, none, some (.aload_n 0, 1)], [some (.getfield 24, 3), none, none, some (.getfield 54, 3), none, none, some (.iload 4, 2), none, some (.iaload, 1), some (.sipush 3000, 3), none, none, some (.if_icmp .le 24, 3), none, none, some (.aload_n 0, 1), some (.bipush 9, 2), none, some (.putfield 39, 3), none, none, some (.aload_n 0, 1), some (.iload 4, 2), none, some (.sipush 10000, 3), none, none, some (.imul, 1), some (.putfield 57, 3), none, none, some (.aload_n 0, 1)], [some (.getfield 39, 3), none, none, some (.ireturn, 1), some (.aload_n 0, 1), some (.iload 4, 2), none, some (.sipush 600, 3), none, none, some (.invokevirtual 60, 3), none, none, some (.iconst 0, 1), some (.istore 5, 2), none, some (.iload 5, 2), none, some (.ldc 64, 2), none, some (.if_icmp .ge 39, 3), none, none, some (.aload_n 0, 1), some (.invokevirtual 65, 3), none, none, some (.bipush 10, 2), none, some (.if_icmp .ne 30, 3)], [some (.aload_n 0, 1), some (.iload 4, 2), none, some (.iload_n 2, 1), some (.if_icmp .ne 13, 3), none, none, some (.iload 5, 2), none, some (.iload_n 3, 1), some (.if_icmp .lt 7, 3), none, none, some (.iconst 1, 1), some (.goto 4, 3), none, none, some (.iconst 0, 1), some (.invokevirtual 69, 3), none, none, some (.iinc 5 1, 3), none, none, some (.goto (-40), 3), none, none, some (.aload_n 0, 1), some (.aload_n 0, 1), some (.invokevirtual 65, 3)], [some (.iconst 1, 1), some (.if_icmp .ne 7, 3), none, none, some (.iconst 1, 1), some (.goto 4, 3), none, none, some (.iconst 0, 1), some (.invokevirtual 73, 3), none, none, some (.iinc 4 1, 3), none, none, some (.goto (-125), 3), none, none, some (.aload_n 0, 1), some (.getfield 39, 3), none, none, some (.ireturn, 1)]]
def ft_I17 : List (List (Option (Instr × Nat))) := [[some (.aload_n 0, 1), some (.aload_n 1, 1), some (.putfield 24, 3), none, none, some (.aload_n 0, 1), some (.getfield 24, 3), none, none, some (.invokevirtual 28, 3), none, none, some (.aload_n 0, 1), some (.getfield 9, 3), none, none, some (.iconst 0, 1), some (.invokestatic 33, 3), none, none, some (.aload_n 0, 1), some (.iconst 0, 1), some (.putfield 39, 3), none, none, some (.return_, 1)]]
def ft_I18 : List (List (Option (Instr × Nat))) := [[some (.aload_n 0, 1), some (.iconst 0, 1), some (.putfield 60, 3), none, none, some (.aload_n 0, 1), some (.iconst 0, 1), some (.putfield 63, 3), none, none, some (.aload_n 0, 1), some (.iconst 0, 1), some (.putfield 66, 3), none, none, some (.aload_n 0, 1), some (.iconst 0, 1), some (.putfield 69, 3), none, none, some (.aload_n 0, 1), some (.iconst 0, 1), some (.putfield 72, 3), none, none, some (.aload_n 0, 1), some (.iconst 0, 1), some (.putfield 75, 3), none, none, some (.aload_n 0, 1), some (.iconst 0, 1)], [some (.putfield 79, 3), none, none, some (.aload_n 0, 1), some (.bipush (-2), 2), none, some (.putfield 17, 3), none, none, some (.return_, 1)]]
def ft_I19 : List (List (Option (Instr × Nat))) := [[some (.iconst 0, 1), some (.istore_n 2, 1), some (.aload_n 0, 1), some (.arraylength, 1), some (.istore_n 3, 1), some (.iload_n 2, 1), some (.iload_n 3, 1), some (.if_icmp .ge 13, 3), none, none, some (.aload_n 0, 1), some (.iload_n 2, 1), some (.iload_n 1, 1), some (.iastore, 1), some (.iinc 2 1, 3), none, none, some (.goto (-12), 3), none, none, some (.return_, 1)]]
def ft_I20 : List (List (Option (Instr × Nat))) := [[some (.aload_n 0, 1), some (.iconst 0, 1), some (.putfield 39, 3), none, none, some (.aload_n 0, 1), some (.bipush (-2), 2), none, some (.putfield 57, 3), none, none, some (.aload_n 0, 1), some (.iconst 0, 1), some (.putfield 84, 3), none, none, some (.aload_n 0, 1), some (.aconst_null, 1), some (.putfield 87, 3), none, none, some (.aload_n 0, 1), some (.aconst_null, 1), some (.putfield 91, 3), none, none, some (.aload_n 0, 1), some (.iload_n 2, 1), some (.putfield 95, 3), none, none, some (.aload_n 0, 1)], [some (.aload_n 0, 1), some (.getfield 24, 3), none, none, some (.getfield 98, 3), none, none, some (.putfield 101, 3), none, none, some (.aload_n 0, 1), some (.aload_n 0, 1), some (.getfield 101, 3), none, none, some (.putfield 104, 3), none, none, some (.aload_n 0, 1), some (.iload_n 1, 1), some (.invokevirtual 107, 3), none, none, some (.return_, 1)]]
def ft_I21 : List (List (Option (Instr × Nat))) := [[some (.aload_n 0, 1), some (.getfield 24, 3), none, none, some (.getfield 111, 3), none, none, some (.iload_n 1, 1), some (.aaload, 1), some (.astore_n 2, 1), some (.aload_n 0, 1), some (.getfield 24, 3), none, none, some (.getfield 54, 3), none, none, some (.iload_n 1, 1), some (.iaload, 1), some (.aload_n 2, 1), some (.arraylength, 1), some (.invokestatic 115, 3), none, none, some (.istore_n 3, 1), some (.aload_n 0, 1), some (.iconst 1, 1), some (.putfield 121, 3), none, none, some (.aload_n 2, 1), some (.iconst 0, 1)], [some (.iload_n 3, 1), some (.invokestatic 124, 3), none, none, some (.istore 4, 2), none, some (.iconst 0, 1), some (.istore 5, 2), none, some (.iload 5, 2), none, some (.aload_n 0, 1), some (.getfield 95, 3), none, none, some (.if_icmp .gt 199, 3), none, none, some (.iload 4, 2), none, some (.iload_n 3, 1), some (.if_icmp .ge 193, 3), none, none, some (.aload_n 0, 1), some (.getfield 121, 3), none, none, some (.iconst 1, 1), some (.if_icmp .ne 185, 3)], [some (.aload_n 0, 1), some (.aload_n 2, 1), some (.iload 4, 2), none, some (.iload_n 3, 1), some (.invokevirtual 128, 3), none, none, some (.istore 6, 2), none, some (.iload 6, 2), none, some (.ifCond .eq 21, 3), none, none, some (.aload_n 0, 1), some (.getfield 24, 3), none, none, some (.getfield 98, 3), none, none, some (.aload_n 0, 1), some (.getfield 24, 3), none, none, some (.getfield 131, 3), none, none, some (.arraylength, 1), some (.if_icmp .lt 11, 3)], [none, some (.aload_n 0, 1), some (.iconst 2, 1), some (.putfield 121, 3), none, none, some (.goto 138, 3), none, none, some (.aload_n 0, 1), some (.getfield 24, 3), none, none, some (.getfield 98, 3), none, none, some (.istore 7, 2), none, some (.aload_n 0, 1), some (.getfield 24, 3), none, none, some (.getfield 131, 3), none, none, some (.iload 7, 2), none, some (.iload_n 1, 1), some (.sipush 10000, 3), none, none, some (.imul, 1)], [some (.iload 4, 2), none, some (.iadd, 1), some (.iastore, 1), some (.aload_n 0, 1), some (.getfield 24, 3), none, none, some (.getfield 133, 3), none, none, some (.iload 7, 2), none, some (.iload 6, 2), none, some (.iastore, 1), some (.aload_n 0, 1), some (.getfield 24, 3), none, none, some (.getfield 136, 3), none, none, some (.iload 7, 2), none, some (.aload_n 0, 1), some (.getfield 139, 3), none, none, some (.iastore, 1), some (.aload_n 0, 1), some (.getfield 24, 3)], [none, none, some (.getfield 141, 3), none, none, some (.iload 7, 2), none, some (.aconst_null, 1), some (.aastore, 1), some (.aload_n 0, 1), some (.getfield 24, 3), none, none, some (.iload 7, 2), none, some (.iconst 1, 1), some (.iadd, 1), some (.putfield 98, 3), none, none, some (.aload_n 0, 1), some (.getfield 24, 3), none, none, some (.getfield 145, 3), none, none, some (.iload 7, 2), none, some (.aload_n 0, 1), some (.getfield 139, 3)], [none, some (.iconst 3, 1), some (.if_icmp .eq 19, 3), none, none, some (.aload_n 0, 1), some (.getfield 139, 3), none, none, some (.iconst 4, 1), some (.if_icmp .eq 11, 3), none, none, some (.aload_n 0, 1), some (.getfield 139, 3), none, none, some (.iconst 5, 1), some (.if_icmp .ne 12, 3), none, none, some (.aload_n 0, 1), some (.iload 7, 2), none, some (.invokevirtual 148, 3), none, none, some (.goto 8, 3), none, none, some (.aload_n 0, 1), some (.getfield 139, 3)], [none, none, some (.ineg, 1), some (.iastore, 1), some (.aload_n 2, 1), some (.iload 4, 2), none, some (.iload 6, 2), none, some (.iadd, 1), some (.iload_n 3, 1), some (.invokestatic 124, 3), none, none, some (.istore 4, 2), none, some (.iinc 5 1, 3), none, none, some (.goto (-202), 3), none, none, some (.aload_n 0, 1), some (.iload_n 1, 1), some (.sipush 10000, 3), none, none, some (.imul, 1), some (.iload 4, 2), none, some (.iadd, 1), some (.putfield 152, 3)], [none, none, some (.return_, 1)]]
def ft_I22 : List (List (Option (Instr × Nat))) := [[some (.iload_n 0, 1), some (.iload_n 1, 1), some (.if_icmp .gt 7, 3), none, none, some (.iload_n 0, 1), some (.goto 4, 3), none, none, some (.iload_n 1, 1), some (.ireturn, 1)]]
def ft_I23 : List (List (Option (Instr × Nat))) := [[some (.iload_n 1, 1), some (.istore_n 3, 1), some (.iconst 0, 1), some (.istore 4, 2), none, some (.iload_n 3, 1), some (.iload_n 2, 1), some (.if_icmp .ge 96, 3), none, none, some (.aload_n 0, 1), some (.iload_n 3, 1), some (.baload, 1), some (.istore 5, 2), none, some (.iload 4, 2), none, some (.ifCond .eq 20, 3), none, none, some (.iload 5, 2), none, some (.bipush 10, 2), none, some (.if_icmp .eq 7, 3), none, none, some (.iconst 1, 1), some (.goto 4, 3), none, none, some (.iconst 0, 1)], [some (.istore 4, 2), none, some (.goto 63, 3), none, none, some (.iload 5, 2), none, some (.bipush 47, 2), none, some (.if_icmp .ne 26, 3), none, none, some (.iload_n 3, 1), some (.iconst 1, 1), some (.iadd, 1), some (.iload_n 2, 1), some (.if_icmp .ge 19, 3), none, none, some (.aload_n 0, 1), some (.iload_n 3, 1), some (.iconst 1, 1), some (.iadd, 1), some (.baload, 1), some (.bipush 47, 2), none, some (.if_icmp .ne 9, 3), none, none, some (.iconst 1, 1), some (.istore 4, 2)], [some (.goto 33, 3), none, none, some (.iload 5, 2), none, some (.bipush 9, 2), none, some (.if_icmp .eq 26, 3), none, none, some (.iload 5, 2), none, some (.bipush 10, 2), none, some (.if_icmp .eq 19, 3), none, none, some (.iload 5, 2), none, some (.bipush 13, 2), none, some (.if_icmp .eq 12, 3), none, none, some (.iload 5, 2), none, some (.bipush 32, 2), none, some (.if_icmp .eq 5, 3), none, none, some (.iload_n 3, 1)], [some (.ireturn, 1), some (.iinc 3 1, 3), none, none, some (.goto (-95), 3), none, none, some (.iload_n 3, 1), some (.ireturn, 1)]]
def ft_I34 : List (List (Option (Instr × Nat))) := [[some (.aload_n 0, 1), some (.getfield 39, 3), none, none, some (.ifCond .eq 5, 3), none, none, some (.iconst 0, 1), some (.ireturn, 1), some (.aload_n 0, 1), some (.getfield 104, 3), none, none, some (.aload_n 0, 1), some (.getfield 24, 3), none, none, some (.getfield 98, 3), none, none, some (.if_icmp .ge 18, 3), none, none, some (.aload_n 0, 1), some (.getfield 24, 3), none, none, some (.getfield 136, 3), none, none, some (.aload_n 0, 1), some (.getfield 104, 3)], [none, none, some (.iaload, 1), some (.goto 7, 3), none, none, some (.aload_n 0, 1), some (.getfield 121, 3), none, none, some (.ireturn, 1)]]
def ft_I36 : List (List (Option (Instr × Nat))) := [[some (.aload_n 0, 1), some (.getfield 104, 3), none, none, some (.aload_n 0, 1), some (.getfield 24, 3), none, none, some (.getfield 98, 3), none, none, some (.if_icmp .ge 7, 3), none, none, some (.iconst 1, 1), some (.goto 4, 3), none, none, some (.iconst 0, 1), some (.istore_n 2, 1), some (.iload_n 2, 1), some (.ifCond .ne 19, 3), none, none, some (.aload_n 0, 1), some (.getfield 121, 3), none, none, some (.iconst 2, 1), some (.if_icmp .ne 11, 3)], [some (.aload_n 0, 1), some (.iconst 1, 1), some (.invokevirtual 181, 3), none, none, some (.goto 64, 3), none, none, some (.iload_n 1, 1), some (.ifCond .ne 11, 3), none, none, some (.aload_n 0, 1), some (.iconst 2, 1), some (.invokevirtual 181, 3), none, none, some (.goto 52, 3), none, none, some (.iload_n 2, 1), some (.ifCond .eq 27, 3), none, none, some (.aload_n 0, 1), some (.getfield 104, 3), none, none, some (.aload_n 0, 1), some (.getfield 101, 3)], [some (.isub, 1), some (.aload_n 0, 1), some (.getfield 95, 3), none, none, some (.if_icmp .lt 11, 3), none, none, some (.aload_n 0, 1), some (.iconst 3, 1), some (.invokevirtual 181, 3), none, none, some (.goto 24, 3), none, none, some (.iload_n 2, 1), some (.ifCond .eq 20, 3), none, none, some (.aload_n 0, 1), some (.getfield 39, 3), none, none, some (.ifCond .ne 13, 3), none, none, some (.aload_n 0, 1), some (.dup, 1), some (.getfield 104, 3)], [some (.iconst 1, 1), some (.iadd, 1), some (.putfield 104, 3), none, none, some (.return_, 1)]]
def ft_I37 : List (List (Option (Instr × Nat))) := [[some (.aload_n 0, 1), some (.getfield 39, 3), none, none, some (.ifCond .ne 45, 3), none, none, some (.aload_n 0, 1), some (.iload_n 1, 1), some (.putfield 39, 3), none, none, some (.aload_n 0, 1), some (.aload_n 0, 1), some (.getfield 104, 3), none, none, some (.aload_n 0, 1), some (.getfield 24, 3), none, none, some (.getfield 98, 3), none, none, some (.if_icmp .ge 18, 3), none, none, some (.aload_n 0, 1), some (.getfield 24, 3), none, none, some (.getfield 131, 3)], [none, none, some (.aload_n 0, 1), some (.getfield 104, 3), none, none, some (.iaload, 1), some (.goto 7, 3), none, none, some (.aload_n 0, 1), some (.getfield 152, 3), none, none, some (.putfield 57, 3), none, none, some (.return_, 1)]]
def ft_I52 : List (List (Option (Instr × Nat))) := [[some (.aload_n 0, 1), some (.getfield 84, 3), none, none, some (.istore_n 2, 1), some (.aload_n 0, 1), some (.iload_n 1, 1), some (.invokevirtual 313, 3), none, none, some (.astore_n 3, 1), some (.iconst 0, 1), some (.istore 4, 2), none, some (.iload 4, 2), none, some (.ldc 64, 2), none, some (.if_icmp .ge 96, 3), none, none, some (.aload_n 0, 1), some (.invokevirtual 65, 3), none, none, some (.invokestatic 316, 3), none, none, some (.ifCond .le 86, 3), none, none, some (.aload_n 0, 1)], [some (.aload_n 3, 1), some (.iload_n 2, 1), some (.aload_n 0, 1), some (.invokevirtual 65, 3), none, none, some (.invokestatic 316, 3), none, none, some (.invokevirtual 319, 3), none, none, some (.astore_n 3, 1), some (.aload_n 0, 1), some (.getfield 84, 3), none, none, some (.aload_n 0, 1), some (.getfield 17, 3), none, none, some (.arraylength, 1), some (.if_icmp .lt 10, 3), none, none, some (.aload_n 0, 1), some (.iconst 3, 1), some (.invokevirtual 181, 3), none, none, some (.aload_n 3, 1), some (.areturn, 1)], [some (.aload_n 0, 1), some (.getfield 17, 3), none, none, some (.aload_n 0, 1), some (.getfield 84, 3), none, none, some (.aload_n 3, 1), some (.aastore, 1), some (.aload_n 0, 1), some (.getfield 21, 3), none, none, some (.aload_n 0, 1), some (.getfield 84, 3), none, none, some (.aload_n 0, 1), some (.getfield 104, 3), none, none, some (.iastore, 1), some (.aload_n 0, 1), some (.dup, 1), some (.getfield 84, 3), none, none, some (.iconst 1, 1), some (.iadd, 1), some (.putfield 84, 3)], [none, some (.aload_n 0, 1), some (.iconst 1, 1), some (.invokevirtual 73, 3), none, none, some (.aload_n 0, 1), some (.iload_n 1, 1), some (.invokevirtual 313, 3), none, none, some (.astore_n 3, 1), some (.iinc 4 1, 3), none, none, some (.goto (-97), 3), none, none, some (.aload_n 0, 1), some (.aload_n 3, 1), some (.iload_n 2, 1), some (.iconst 0, 1), some (.invokevirtual 319, 3), none, none, some (.astore_n 3, 1), some (.aload_n 0, 1), some (.iload_n 2, 1), some (.putfield 84, 3), none, none, some (.aload_n 3, 1)], [some (.areturn, 1)]]
def ft_I53 : List (List (Option (Instr × Nat))) := [[some (.aload_n 0, 1), some (.getfield 104, 3), none, none, some (.istore_n 2, 1), some (.aload_n 0, 1), some (.invokevirtual 65, 3), none, none, some (.istore_n 3, 1), some (.iload_n 3, 1), some (.bipush 45, 2), none, some (.if_icmp .eq 15, 3), none, none, some (.iload_n 3, 1), some (.bipush 49, 2), none, some (.if_icmp .eq 9, 3), none, none, some (.aload_n 0, 1), some (.iload_n 1, 1), some (.invokevirtual 360, 3), none, none, some (.areturn, 1), some (.aload_n 0, 1), some (.iconst 1, 1), some (.invokevirtual 73, 3)], [none, some (.aload_n 0, 1), some (.iload_n 1, 1), some (.iconst 1, 1), some (.iadd, 1), some (.invokevirtual 296, 3), none, none, some (.aload_n 0, 1), some (.getfield 39, 3), none, none, some (.ifCond .ne 13, 3), none, none, some (.aload_n 0, 1), some (.iload_n 1, 1), some (.iconst 1, 1), some (.iadd, 1), some (.invokevirtual 313, 3), none, none, some (.goto 4, 3), none, none, some (.aconst_null, 1), some (.astore 4, 2), none, some (.aload_n 0, 1), some (.bipush 63, 2), none, some (.iload_n 2, 1)], [some (.iload_n 2, 1), some (.aload 4, 2), none, some (.invokevirtual 327, 3), none, none, some (.astore 5, 2), none, some (.aload 5, 2), none, some (.iload_n 3, 1), some (.putfield 335, 3), none, none, some (.aload 5, 2), none, some (.areturn, 1)]]
def ft_I54 : List (List (Option (Instr × Nat))) := [[some (.aload_n 0, 1), some (.iload_n 1, 1), some (.invokevirtual 363, 3), none, none, some (.astore_n 2, 1), some (.iconst 0, 1), some (.istore_n 3, 1), some (.iload_n 3, 1), some (.ldc 64, 2), none, some (.if_icmp .ge 95, 3), none, none, some (.aload_n 0, 1), some (.invokevirtual 65, 3), none, none, some (.bipush 36, 2), none, some (.if_icmp .ne 86, 3), none, none, some (.aload_n 0, 1), some (.iconst 1, 1), some (.invokevirtual 73, 3), none, none, some (.aload_n 0, 1), some (.getfield 104, 3)], [some (.istore 4, 2), none, some (.aload_n 0, 1), some (.aload_n 0, 1), some (.invokevirtual 65, 3), none, none, some (.iconst 3, 1), some (.if_icmp .ne 7, 3), none, none, some (.iconst 1, 1), some (.goto 4, 3), none, none, some (.iconst 0, 1), some (.invokevirtual 73, 3), none, none, some (.aload_n 2, 1), some (.ifnonnull 8, 3), none, none, some (.iload 4, 2), none, some (.goto 7, 3), none, none, some (.aload_n 2, 1), some (.getfield 326, 3)], [some (.istore 5, 2), none, some (.aload_n 0, 1), some (.invokevirtual 65, 3), none, none, some (.bipush 32, 2), none, some (.if_icmp .ne 16, 3), none, none, some (.aload_n 0, 1), some (.iload 5, 2), none, some (.iload 4, 2), none, some (.aload_n 2, 1), some (.iload_n 1, 1), some (.invokevirtual 366, 3), none, none, some (.goto 14, 3), none, none, some (.aload_n 0, 1), some (.bipush 61, 2), none, some (.iload 5, 2), none, some (.iload 4, 2), none, some (.aload_n 2, 1)], [some (.invokevirtual 327, 3), none, none, some (.astore_n 2, 1), some (.iinc 3 1, 3), none, none, some (.goto (-95), 3), none, none, some (.aload_n 2, 1), some (.areturn, 1)]]
def ft_I55 : List (List (Option (Instr × Nat))) := [[some (.aload_n 0, 1), some (.getfield 104, 3), none, none, some (.istore_n 2, 1), some (.aload_n 0, 1), some (.invokevirtual 65, 3), none, none, some (.istore_n 3, 1), some (.iload_n 3, 1)], [], [], [], [none, none, none, none, none, none, none, none, none, none, none, none, none, none, none, none, some (.aload_n 0, 1), some (.iconst 1, 1), some (.invokevirtual 73, 3), none, none, some (.aload_n 0, 1), some (.iload_n 3, 1), some (.iload_n 2, 1), some (.iload_n 2, 1), some (.aconst_null, 1), some (.invokevirtual 327, 3), none, none, some (.astore 4, 2), none, some (.aload 4, 2)], [none, some (.iload_n 3, 1), some (.iconst 4, 1), some (.if_icmp .ne 11, 3), none, none, some (.aload_n 0, 1), some (.iload_n 2, 1), some (.invokevirtual 370, 3), none, none, some (.goto 4, 3), none, none, some (.iconst 0, 1), some (.putfield 335, 3), none, none, some (.aload 4, 2), none, some (.areturn, 1), some (.aload_n 0, 1), some (.iconst 1, 1), some (.invokevirtual 73, 3), none, none, some (.aload_n 0, 1), some (.invokevirtual 65, 3), none, none, some (.bipush 32, 2)], [some (.if_icmp .ne 14, 3), none, none, some (.aload_n 0, 1), some (.iload_n 2, 1), some (.iload_n 2, 1), some (.aconst_null, 1), some (.iload_n 1, 1), some (.invokevirtual 366, 3), none, none, some (.goto 11, 3), none, none, some (.aload_n 0, 1), some (.iconst 3, 1), some (.iload_n 2, 1), some (.iload_n 2, 1), some (.aconst_null, 1), some (.invokevirtual 327, 3), none, none, some (.areturn, 1), some (.aload_n 0, 1), some (.iconst 1, 1), some (.invokevirtual 73, 3), none, none, some (.aload_n 0, 1), some (.getfield 51, 3)], [some (.ifCond .eq 25, 3), none, none, some (.aload_n 0, 1), some (.invokevirtual 65, 3), none, none, some (.bipush 52, 2), none, some (.if_icmp .ne 16, 3), none, none, some (.aload_n 0, 1), some (.iconst 1, 1), some (.invokevirtual 73, 3), none, none, some (.aload_n 0, 1), some (.aload_n 0, 1), some (.invokevirtual 232, 3), none, none, some (.invokevirtual 73, 3), none, none, some (.aload_n 0, 1), some (.iconst 5, 1), some (.iload_n 2, 1), some (.iload_n 2, 1), some (.aconst_null, 1), some (.invokevirtual 327, 3)], [none, some (.astore 5, 2), none, some (.aload 5, 2), none, some (.aload_n 0, 1), some (.getfield 24, 3), none, none, some (.aload_n 0, 1), some (.getfield 24, 3), none, none, some (.getfield 131, 3), none, none, some (.iload_n 2, 1), some (.iaload, 1), some (.iconst 1, 1), some (.iadd, 1), some (.invokevirtual 174, 3), none, none, some (.bipush 97, 2), none, some (.isub, 1), some (.putfield 335, 3), none, none, some (.aload 5, 2), none, some (.areturn, 1)], [some (.aload_n 0, 1), some (.iconst 1, 1), some (.invokevirtual 73, 3), none, none, some (.aload_n 0, 1), some (.getfield 104, 3), none, none, some (.istore 6, 2), none, some (.aload_n 0, 1), some (.aload_n 0, 1), some (.invokevirtual 65, 3), none, none, some (.iconst 3, 1), some (.if_icmp .ne 7, 3), none, none, some (.iconst 1, 1), some (.goto 4, 3), none, none, some (.iconst 0, 1), some (.invokevirtual 73, 3), none, none, some (.aload_n 0, 1), some (.aload_n 0, 1), some (.invokevirtual 65, 3)], [none, some (.bipush 32, 2), none, some (.if_icmp .ne 7, 3), none, none, some (.iconst 1, 1), some (.goto 4, 3), none, none, some (.iconst 0, 1), some (.invokevirtual 73, 3), none, none, some (.aload_n 0, 1), some (.aload_n 0, 1), some (.invokevirtual 65, 3), none, none, some (.bipush 33, 2), none, some (.if_icmp .ne 7, 3), none, none, some (.iconst 1, 1), some (.goto 4, 3), none, none, some (.iconst 0, 1), some (.invokevirtual 73, 3)], [some (.aload_n 0, 1), some (.bipush 22, 2), none, some (.iload_n 2, 1), some (.iload 6, 2), none, some (.aconst_null, 1), some (.invokevirtual 327, 3), none, none, some (.areturn, 1), some (.aload_n 0, 1), some (.iconst 1, 1), some (.invokevirtual 73, 3), none, none, some (.aload_n 0, 1), some (.iload_n 1, 1), some (.iconst 1, 1), some (.iadd, 1), some (.invokevirtual 296, 3), none, none, some (.aload_n 0, 1), some (.getfield 39, 3), none, none, some (.ifCond .ne 13, 3), none, none, some (.aload_n 0, 1), some (.iload_n 1, 1)], [some (.iconst 1, 1), some (.iadd, 1), some (.invokevirtual 76, 3), none, none, some (.goto 4, 3), none, none, some (.aconst_null, 1), some (.astore 7, 2), none, some (.aload_n 0, 1), some (.aload_n 0, 1), some (.invokevirtual 65, 3), none, none, some (.bipush 33, 2), none, some (.if_icmp .ne 7, 3), none, none, some (.iconst 1, 1), some (.goto 4, 3), none, none, some (.iconst 0, 1), some (.invokevirtual 73, 3), none, none, some (.aload_n 0, 1), some (.bipush 62, 2)], [some (.iload_n 2, 1), some (.iload_n 2, 1), some (.aload 7, 2), none, some (.invokevirtual 327, 3), none, none, some (.areturn, 1), some (.aload_n 0, 1), some (.iconst 0, 1), some (.invokevirtual 73, 3), none, none, some (.aconst_null, 1), some (.areturn, 1)]]
def ft_I61 : List (List (Option (Instr × Nat))) := [[some (.iload_n 0, 1)], [], [none, none, none, none, none, none, none, none, some (.iconst 1, 1), some (.ireturn, 1), some (.iconst 2, 1), some (.ireturn, 1), some (.iconst 3, 1), some (.ireturn, 1), some (.iconst 4, 1), some (.ireturn, 1), some (.iconst 5, 1), some (.ireturn, 1), some (.bipush 6, 2), none, some (.ireturn, 1), some (.iconst 0, 1), some (.ireturn, 1)]]
def ft_I62 : List (List (Option (Instr × Nat))) := [[some (.aload_n 1, 1), some (.astore 4, 2), none, some (.aload_n 0, 1), some (.getfield 84, 3), none, none, some (.iload_n 2, 1), some (.if_icmp .le 165, 3), none, none, some (.aload 4, 2), none, some (.ifnull 160, 3), none, none, some (.aload_n 0, 1), some (.getfield 24, 3), none, none, some (.aload_n 0, 1), some (.getfield 21, 3), none, none, some (.aload_n 0, 1), some (.getfield 84, 3), none, none, some (.iconst 1, 1), some (.isub, 1), some (.iaload, 1), some (.invokevirtual 323, 3)], [none, none, some (.invokestatic 316, 3), none, none, some (.iload_n 3, 1), some (.if_icmp .lt 135, 3), none, none, some (.aload_n 0, 1), some (.dup, 1), some (.getfield 84, 3), none, none, some (.iconst 1, 1), some (.isub, 1), some (.putfield 84, 3), none, none, some (.aload_n 0, 1), some (.getfield 17, 3), none, none, some (.aload_n 0, 1), some (.getfield 84, 3), none, none, some (.aaload, 1), some (.astore 5, 2), none, some (.aload 5, 2)], [some (.ifnonnull 5, 3), none, none, some (.aconst_null, 1), some (.areturn, 1), some (.aload_n 0, 1), some (.getfield 21, 3), none, none, some (.aload_n 0, 1), some (.getfield 84, 3), none, none, some (.iaload, 1), some (.istore 6, 2), none, some (.aload_n 0, 1), some (.bipush 64, 2), none, some (.aload 5, 2), none, some (.getfield 326, 3), none, none, some (.iload 6, 2), none, some (.aload 5, 2), none, some (.invokevirtual 327, 3), none, none, some (.astore 7, 2)], [none, some (.aload 7, 2), none, some (.aload 4, 2), none, some (.getfield 331, 3), none, none, some (.putfield 331, 3), none, none, some (.aload 7, 2), none, some (.aload 4, 2), none, some (.putfield 332, 3), none, none, some (.aload 7, 2), none, some (.aload_n 0, 1), some (.getfield 24, 3), none, none, some (.iload 6, 2), none, some (.invokevirtual 323, 3), none, none, some (.putfield 335, 3)], [some (.aload 7, 2), none, some (.getfield 335, 3), none, none, some (.bipush 50, 2), none, some (.if_icmp .eq 13, 3), none, none, some (.aload 7, 2), none, some (.getfield 335, 3), none, none, some (.bipush 51, 2), none, some (.if_icmp .ne 21, 3), none, none, some (.aload_n 0, 1), some (.getfield 24, 3), none, none, some (.getfield 337, 3), none, none, some (.aload 4, 2), none, some (.getfield 340, 3)], [some (.aaload, 1), some (.aload 7, 2), none, some (.putfield 343, 3), none, none, some (.aload 7, 2), none, some (.astore 4, 2), none, some (.goto (-167), 3), none, none, some (.aload 4, 2), none, some (.areturn, 1)]]
def ft_I65 : List (List (Option (Instr × Nat))) := [[some (.aload_n 0, 1), some (.getfield 69, 3), none, none, some (.astore_n 1, 1), some (.aload_n 0, 1), some (.aload_n 0, 1), some (.getfield 73, 3), none, none, some (.putfield 69, 3), none, none, some (.aload_n 0, 1), some (.aload_n 1, 1), some (.putfield 73, 3), none, none, some (.aload_n 0, 1), some (.iconst 0, 1), some (.putfield 144, 3), none, none, some (.aload_n 0, 1), some (.getfield 53, 3), none, none, some (.invokevirtual 147, 3), none, none, some (.aload_n 0, 1), some (.getfield 84, 3)], [none, none, some (.iconst 4, 1), some (.bipush (-2), 2), none, some (.iastore, 1), some (.return_, 1)]]
def ft_I66 : List (List (Option (Instr × Nat))) := [[some (.aload_n 0, 1), some (.iconst 0, 1), some (.putfield 49, 3), none, none, some (.aload_n 0, 1), some (.iconst 0, 1), some (.putfield 53, 3), none, none, some (.aload_n 0, 1), some (.iconst 0, 1), some (.putfield 56, 3), none, none, some (.return_, 1)]]
def ft_I67 : List (List (Option (Instr × Nat))) := [[some (.aload_n 0, 1), some (.iconst 0, 1), some (.putfield 22, 3), none, none, some (.aload_n 0, 1), some (.iconst 0, 1), some (.putfield 26, 3), none, none, some (.return_, 1)]]
def ft_I68 : List (List (Option (Instr × Nat))) := [[some (.iconst 0, 1), some (.istore_n 2, 1), some (.iconst 0, 1), some (.istore_n 3, 1), some (.iload_n 3, 1), some (.aload_n 0, 1), some (.getfield 60, 3), none, none, some (.if_icmp .ge 26, 3), none, none, some (.aload_n 0, 1), some (.getfield 30, 3), none, none, some (.iload_n 3, 1), some (.iaload, 1), some (.sipush 10000, 3), none, none, some (.idiv, 1), some (.iload_n 1, 1), some (.if_icmp .ne 6, 3), none, none, some (.iinc 2 1, 3), none, none, some (.iinc 3 1, 3)], [some (.goto (-28), 3), none, none, some (.iload_n 2, 1), some (.ireturn, 1)]]
def ft_I69 : List (List (Option (Instr × Nat))) := [[some (.aload_n 0, 1), some (.getfield 76, 3), none, none, some (.ireturn, 1)]]
def ft_I70 : List (List (Option (Instr × Nat))) := [[some (.iload_n 1, 1), some (.ifCond .lt 8, 3), none, none, some (.iload_n 1, 1), some (.iconst 4, 1), some (.if_icmp .lt 7, 3), none, none, some (.iconst (-1), 1), some (.goto 12, 3), none, none, some (.aload_n 0, 1), some (.getfield 69, 3), none, none, some (.getfield 117, 3), none, none, some (.iload_n 1, 1), some (.iaload, 1), some (.ireturn, 1)]]
def ft_I71 : List (List (Option (Instr × Nat))) := [[some (.iload_n 1, 1), some (.ifCond .lt 25, 3), none, none, some (.iload_n 1, 1), some (.iconst 4, 1), some (.if_icmp .ge 20, 3), none, none, some (.iload_n 2, 1), some (.ifCond .lt 16, 3), none, none, some (.iload_n 2, 1), some (.aload_n 0, 1), some (.getfield 69, 3), none, none, some (.getfield 117, 3), none, none, some (.iload_n 1, 1), some (.iaload, 1), some (.if_icmp .lt 5, 3), none, none, some (.iconst (-1), 1), some (.ireturn, 1), some (.aload_n 0, 1), some (.getfield 69, 3)], [some (.getfield 107, 3), none, none, some (.iload_n 1, 1), some (.aaload, 1), some (.iload_n 2, 1), some (.baload, 1), some (.sipush 255, 3), none, none, some (.iand, 1), some (.ireturn, 1)]]
def ft_I72 : List (List (Option (Instr × Nat))) := [[some (.iload_n 2, 1), some (.ifCond .lt 8, 3), none, none, some (.iload_n 2, 1), some (.iconst 1, 1), some (.if_icmp .le 5, 3), none, none, some (.iconst (-1), 1), some (.ireturn, 1), some (.aload_n 0, 1), some (.getfield 69, 3), none, none, some (.iload_n 1, 1), some (.invokevirtual 148, 3), none, none, some (.istore_n 3, 1), some (.iload_n 3, 1), some (.ifCond .ge 6, 3), none, none, some (.bipush (-2), 2), none, some (.ireturn, 1), some (.iload_n 2, 1), some (.ifCond .ne 15, 3), none, none, some (.aload_n 0, 1)], [some (.getfield 69, 3), none, none, some (.getfield 151, 3), none, none, some (.iload_n 3, 1), some (.iaload, 1), some (.goto 15, 3), none, none, some (.aload_n 0, 1), some (.getfield 69, 3), none, none, some (.getfield 154, 3), none, none, some (.iload_n 3, 1), some (.iaload, 1), some (.invokestatic 157, 3), none, none, some (.ireturn, 1)]]
def ft_I73 : List (List (Option (Instr × Nat))) := [[some (.iconst 0, 1), some (.istore_n 2, 1), some (.aload_n 0, 1), some (.getfield 60, 3), none, none, some (.iconst 1, 1), some (.isub, 1), some (.istore_n 3, 1), some (.iconst 0, 1), some (.istore 4, 2), none, some (.iload 4, 2), none, some (.bipush 40, 2), none, some (.if_icmp .ge 59, 3), none, none, some (.iload_n 2, 1), some (.iload_n 3, 1), some (.if_icmp .gt 54, 3), none, none, some (.iload_n 2, 1), some (.iload_n 3, 1), some (.iadd, 1), some (.iconst 2, 1), some (.idiv, 1), some (.istore 5, 2), none, some (.aload_n 0, 1)], [some (.getfield 30, 3), none, none, some (.iload 5, 2), none, some (.iaload, 1), some (.iload_n 1, 1), some (.if_icmp .ne 6, 3), none, none, some (.iload 5, 2), none, some (.ireturn, 1), some (.aload_n 0, 1), some (.getfield 30, 3), none, none, some (.iload 5, 2), none, some (.iaload, 1), some (.iload_n 1, 1), some (.if_icmp .ge 11, 3), none, none, some (.iload 5, 2), none, some (.iconst 1, 1), some (.iadd, 1), some (.istore_n 2, 1), some (.goto 8, 3)], [some (.iload 5, 2), none, some (.iconst 1, 1), some (.isub, 1), some (.istore_n 3, 1), some (.iinc 4 1, 3), none, none, some (.goto (-60), 3), none, none, some (.iconst (-1), 1), some (.ireturn, 1)]]
def ft_I75 : List (List (Option (Instr × Nat))) := [[some (.aload_n 0, 1), some (.invokevirtual 160, 3), none, none, some (.pop, 1), some (.aload_n 0, 1), some (.aload_n 0, 1), some (.getfield 69, 3), none, none, some (.getfield 164, 3), none, none, some (.putfield 76, 3), none, none, some (.aload_n 0, 1), some (.getfield 69, 3), none, none, some (.getfield 167, 3), none, none, some (.ireturn, 1)]]
def ft_I76 : List (List (Option (Instr × Nat))) := [[some (.aload_n 0, 1), some (.getfield 69, 3), none, none, some (.getfield 170, 3), none, none, some (.ifCond .ne 14, 3), none, none, some (.aload_n 0, 1), some (.getfield 23, 3), none, none, some (.aload_n 0, 1), some (.getfield 69, 3), none, none, some (.invokevirtual 172, 3), none, none, some (.aload_n 0, 1), some (.getfield 69, 3), none, none, some (.getfield 167, 3), none, none, some (.ifCond .ne 7, 3), none, none, some (.iconst 1, 1)], [some (.goto 4, 3), none, none, some (.iconst 0, 1), some (.ireturn, 1)]]
def ft_I77 : List (List (Option (Instr × Nat))) := [[some (.aload_n 0, 1), some (.aload_n 1, 1), some (.putfield 21, 3), none, none, some (.aload_n 0, 1), some (.getfield 21, 3), none, none, some (.iconst 1, 1), some (.putfield 25, 3), none, none, some (.aload_n 0, 1), some (.getfield 21, 3), none, none, some (.iconst 0, 1), some (.putfield 31, 3), none, none, some (.aload_n 0, 1), some (.getfield 21, 3), none, none, some (.bipush (-2), 2), none, some (.putfield 35, 3), none, none, some (.aload_n 0, 1), some (.invokevirtual 38, 3)], [none, none, some (.aload_n 0, 1), some (.getfield 21, 3), none, none, some (.getfield 31, 3), none, none, some (.ifCond .ne 11, 3), none, none, some (.aload_n 0, 1), some (.invokevirtual 41, 3), none, none, some (.aload_n 0, 1), some (.invokevirtual 44, 3), none, none, some (.aload_n 0, 1), some (.getfield 21, 3), none, none, some (.getfield 31, 3), none, none, some (.ifCond .ne 60, 3), none, none, some (.iconst 0, 1), some (.istore_n 2, 1)], [some (.iload_n 2, 1), some (.aload_n 0, 1), some (.getfield 21, 3), none, none, some (.getfield 47, 3), none, none, some (.if_icmp .ge 39, 3), none, none, some (.aload_n 0, 1), some (.getfield 21, 3), none, none, some (.getfield 50, 3), none, none, some (.iload_n 2, 1), some (.aaload, 1), some (.astore_n 3, 1), some (.aload_n 3, 1), some (.aload_n 3, 1), some (.getfield 54, 3), none, none, some (.ifnonnull 7, 3), none, none, some (.iconst (-1), 1), some (.goto 8, 3)], [none, some (.aload_n 0, 1), some (.aload_n 3, 1), some (.invokevirtual 60, 3), none, none, some (.putfield 64, 3), none, none, some (.iinc 2 1, 3), none, none, some (.goto (-44), 3), none, none, some (.aload_n 0, 1), some (.invokevirtual 67, 3), none, none, some (.aload_n 0, 1), some (.invokevirtual 70, 3), none, none, some (.aload_n 0, 1), some (.getfield 21, 3), none, none, some (.getfield 31, 3), none, none, some (.ifCond .ne 7, 3)], [none, some (.aload_n 0, 1), some (.invokevirtual 73, 3), none, none, some (.return_, 1)]]
def ft_I78 : List (List (Option (Instr × Nat))) := [[some (.iconst 0, 1), some (.istore_n 1, 1), some (.iload_n 1, 1), some (.aload_n 0, 1), some (.getfield 21, 3), none, none, some (.getfield 83, 3), none, none, some (.if_icmp .ge 120, 3), none, none, some (.aload_n 0, 1), some (.getfield 21, 3), none, none, some (.getfield 89, 3), none, none, some (.iload_n 1, 1), some (.aaload, 1), some (.astore_n 2, 1), some (.aload_n 2, 1), some (.aconst_null, 1), some (.putfield 95, 3), none, none, some (.aload_n 0, 1), some (.getfield 21, 3)], [some (.getfield 98, 3), none, none, some (.aload_n 2, 1), some (.getfield 92, 3), none, none, some (.aload_n 0, 1), some (.aload_n 2, 1), some (.getfield 92, 3), none, none, some (.invokevirtual 101, 3), none, none, some (.aastore, 1), some (.aload_n 0, 1), some (.getfield 21, 3), none, none, some (.getfield 98, 3), none, none, some (.aload_n 2, 1), some (.getfield 92, 3), none, none, some (.aaload, 1), some (.aload_n 2, 1), some (.if_acmp .eq 12, 3)], [some (.aload_n 0, 1), some (.iconst 1, 1), some (.aload_n 2, 1), some (.getfield 92, 3), none, none, some (.invokevirtual 79, 3), none, none, some (.aload_n 2, 1), some (.getfield 105, 3), none, none, some (.ifCond .lt 47, 3), none, none, some (.aload_n 2, 1), some (.aload_n 0, 1), some (.aload_n 2, 1), some (.getfield 105, 3), none, none, some (.invokevirtual 101, 3), none, none, some (.putfield 95, 3), none, none, some (.aload_n 0, 1), some (.getfield 21, 3)], [some (.getfield 98, 3), none, none, some (.aload_n 2, 1), some (.getfield 105, 3), none, none, some (.aload_n 2, 1), some (.getfield 95, 3), none, none, some (.aastore, 1), some (.aload_n 2, 1), some (.getfield 95, 3), none, none, some (.ifnonnull 12, 3), none, none, some (.aload_n 0, 1), some (.iconst 2, 1), some (.aload_n 2, 1), some (.getfield 105, 3), none, none, some (.invokevirtual 79, 3), none, none, some (.iinc 1 1, 3), none, none, some (.goto (-125), 3)], [none, none, some (.iconst 0, 1), some (.istore_n 1, 1), some (.iload_n 1, 1), some (.aload_n 0, 1), some (.getfield 21, 3), none, none, some (.getfield 83, 3), none, none, some (.if_icmp .ge 36, 3), none, none, some (.aload_n 0, 1), some (.getfield 21, 3), none, none, some (.getfield 89, 3), none, none, some (.iload_n 1, 1), some (.aaload, 1), some (.astore_n 2, 1), some (.aload_n 2, 1), some (.aload_n 2, 1), some (.invokevirtual 108, 3), none, none, some (.ifCond .eq 12, 3)], [none, some (.aload_n 0, 1), some (.iconst 2, 1), some (.aload_n 2, 1), some (.getfield 105, 3), none, none, some (.invokevirtual 79, 3), none, none, some (.iinc 1 1, 3), none, none, some (.goto (-41), 3), none, none, some (.return_, 1)]]
def ft_I82 : List (List (Option (Instr × Nat))) := [[some (.iconst 0, 1), some (.istore_n 1, 1), some (.iload_n 1, 1), some (.aload_n 0, 1), some (.getfield 21, 3), none, none, some (.getfield 112, 3), none, none, some (.if_icmp .ge 83, 3), none, none, some (.aload_n 0, 1), some (.getfield 21, 3), none, none, some (.getfield 115, 3), none, none, some (.iload_n 1, 1), some (.aaload, 1), some (.astore_n 2, 1), some (.aload_n 2, 1), some (.getfield 118, 3), none, none, some (.ifCond .ne 17, 3), none, none, some (.aload_n 2, 1), some (.bipush 10, 2)], [none, some (.aload_n 2, 1), some (.getfield 121, 3), none, none, some (.iadd, 1), some (.putfield 124, 3), none, none, some (.goto 46, 3), none, none, some (.aload_n 0, 1), some (.getfield 21, 3), none, none, some (.getfield 98, 3), none, none, some (.aload_n 2, 1), some (.getfield 92, 3), none, none, some (.aload_n 2, 1), some (.aastore, 1), some (.aload_n 2, 1), some (.aload_n 0, 1), some (.aload_n 2, 1), some (.getfield 105, 3), none, none, some (.invokevirtual 125, 3)], [none, none, some (.putfield 124, 3), none, none, some (.aload_n 2, 1), some (.getfield 124, 3), none, none, some (.bipush (-9), 2), none, some (.if_icmp .ne 12, 3), none, none, some (.aload_n 0, 1), some (.iconst 4, 1), some (.aload_n 2, 1), some (.getfield 105, 3), none, none, some (.invokevirtual 79, 3), none, none, some (.iinc 1 1, 3), none, none, some (.goto (-88), 3), none, none, some (.return_, 1)]]
def ft_I84 : List (List (Option (Instr × Nat))) := [[some (.iconst 0, 1), some (.istore_n 1, 1), some (.iload_n 1, 1), some (.aload_n 0, 1), some (.getfield 21, 3), none, none, some (.getfield 112, 3), none, none, some (.if_icmp .ge 44, 3), none, none, some (.aload_n 0, 1), some (.getfield 21, 3), none, none, some (.getfield 115, 3), none, none, some (.iload_n 1, 1), some (.aaload, 1), some (.astore_n 2, 1), some (.aload_n 2, 1), some (.invokevirtual 132, 3), none, none, some (.ifCond .eq 21, 3), none, none, some (.aload_n 0, 1), some (.aload_n 2, 1)], [some (.invokevirtual 136, 3), none, none, some (.aload_n 2, 1), some (.getfield 118, 3), none, none, some (.iconst 2, 1), some (.if_icmp .ne 8, 3), none, none, some (.aload_n 0, 1), some (.aload_n 2, 1), some (.invokevirtual 140, 3), none, none, some (.iinc 1 1, 3), none, none, some (.goto (-49), 3), none, none, some (.return_, 1)]]
def ft_I110 : List (List (Option (Instr × Nat))) := [[some (.aload_n 0, 1), some (.getfield 21, 3), none, none, some (.getfield 275, 3), none, none, some (.iconst 1, 1), some (.isub, 1), some (.istore_n 1, 1), some (.iload_n 1, 1), some (.ifCond .lt 211, 3), none, none, some (.aload_n 0, 1), some (.getfield 21, 3), none, none, some (.getfield 278, 3), none, none, some (.iload_n 1, 1), some (.aaload, 1), some (.astore_n 2, 1), some (.aload_n 2, 1), some (.aload_n 2, 1), some (.invokestatic 282, 3), none, none, some (.putfield 286, 3)], [some (.aload_n 2, 1), some (.getfield 288, 3)], [none, none, none, none, none, none, none, none, none, none, none, none, none, none, none, none, some (.aload_n 0, 1), some (.aload_n 2, 1), some (.getfield 289, 3), none, none, some (.aload_n 2, 1), some (.getfield 292, 3), none, none, some (.getfield 124, 3), none, none, some (.invokevirtual 295, 3), none, none, some (.goto 121, 3)], [none, none, some (.aload_n 0, 1), some (.aload_n 2, 1), some (.getfield 289, 3), none, none, some (.aload_n 2, 1), some (.getfield 299, 3), none, none, some (.invokevirtual 301, 3), none, none, some (.goto 106, 3), none, none, some (.aload_n 2, 1), some (.getfield 289, 3), none, none, some (.invokestatic 305, 3), none, none, some (.ifCond .eq 96, 3), none, none, some (.aload_n 2, 1), some (.getfield 289, 3), none, none, some (.getfield 159, 3)], [none, none, some (.bipush 60, 2), none, some (.if_icmp .eq 84, 3), none, none, some (.aload_n 0, 1), some (.bipush 14, 2), none, some (.aload_n 2, 1), some (.getfield 309, 3), none, none, some (.invokevirtual 79, 3), none, none, some (.goto 71, 3), none, none, some (.aload_n 0, 1), some (.aload_n 2, 1), some (.getfield 289, 3), none, none, some (.iconst 1, 1), some (.invokevirtual 183, 3), none, none, some (.pop, 1), some (.goto 58, 3)], [none, some (.aload_n 0, 1), some (.aload_n 2, 1), some (.invokevirtual 310, 3), none, none, some (.goto 50, 3), none, none, some (.aload_n 2, 1), some (.getfield 289, 3), none, none, some (.invokestatic 305, 3), none, none, some (.ifCond .eq 40, 3), none, none, some (.aload_n 2, 1), some (.getfield 289, 3), none, none, some (.getfield 64, 3), none, none, some (.ifCond .eq 30, 3), none, none, some (.aload_n 2, 1), some (.getfield 289, 3)], [none, some (.getfield 64, 3), none, none, some (.iconst 1, 1), some (.if_icmp .eq 19, 3), none, none, some (.aload_n 0, 1), some (.bipush 7, 2), none, some (.aload_n 2, 1), some (.getfield 289, 3), none, none, some (.getfield 190, 3), none, none, some (.invokevirtual 79, 3), none, none, some (.goto 3, 3), none, none, some (.iinc 1 (-1), 3), none, none, some (.goto (-209), 3), none, none, some (.return_, 1)]]
def ft_I116 : List (List (Option (Instr × Nat))) := [[some (.iconst 0, 1), some (.istore_n 1, 1), some (.iload_n 1, 1), some (.aload_n 0, 1), some (.getfield 21, 3), none, none, some (.getfield 112, 3), none, none, some (.if_icmp .ge 119, 3), none, none, some (.aload_n 0, 1), some (.getfield 21, 3), none, none, some (.getfield 115, 3), none, none, some (.iload_n 1, 1), some (.aaload, 1), some (.astore_n 2, 1), some (.aload_n 2, 1), some (.getfield 118, 3), none, none, some (.iconst 1, 1), some (.if_icmp .ne 18, 3), none, none, some (.aload_n 0, 1)], [some (.aload_n 2, 1), some (.getfield 322, 3), none, none, some (.aload_n 2, 1), some (.getfield 124, 3), none, none, some (.invokevirtual 295, 3), none, none, some (.goto 80, 3), none, none, some (.aload_n 2, 1), some (.getfield 118, 3), none, none, some (.iconst 2, 1), some (.if_icmp .ne 41, 3), none, none, some (.aload_n 2, 1), some (.getfield 124, 3), none, none, some (.iconst 3, 1), some (.if_icmp .eq 64, 3), none, none, some (.aload_n 2, 1), some (.getfield 223, 3)], [none, none, some (.ifnull 57, 3), none, none, some (.aload_n 2, 1), some (.getfield 223, 3), none, none, some (.getfield 286, 3), none, none, some (.ifCond .eq 47, 3), none, none, some (.aload_n 0, 1), some (.bipush 12, 2), none, some (.aload_n 2, 1), some (.getfield 92, 3), none, none, some (.invokevirtual 79, 3), none, none, some (.goto 34, 3), none, none, some (.aload_n 2, 1), some (.getfield 118, 3)], [some (.ifCond .eq 27, 3), none, none, some (.aload_n 0, 1), some (.aload_n 2, 1), some (.getfield 143, 3), none, none, some (.aload_n 2, 1), some (.getfield 92, 3), none, none, some (.invokevirtual 204, 3), none, none, some (.ifnull 12, 3), none, none, some (.aload_n 0, 1), some (.iconst 5, 1), some (.aload_n 2, 1), some (.getfield 92, 3), none, none, some (.invokevirtual 79, 3), none, none, some (.iinc 1 1, 3), none, none, some (.goto (-124), 3)], [none, some (.return_, 1)]]
def ft_I117 : List (List (Option (Instr × Nat))) := [[some (.aload_n 0, 1), some (.getfield 17, 3), none, none, some (.iconst 0, 1), some (.invokestatic 323, 3), none, none, some (.iconst 0, 1), some (.istore_n 1, 1), some (.iconst 0, 1), some (.istore_n 2, 1), some (.iload_n 2, 1), some (.aload_n 0, 1), some (.getfield 21, 3), none, none, some (.getfield 112, 3), none, none, some (.if_icmp .ge 175, 3), none, none, some (.aload_n 0, 1), some (.getfield 21, 3), none, none, some (.getfield 115, 3), none, none, some (.iload_n 2, 1), some (.aaload, 1)], [some (.astore_n 3, 1), some (.aload_n 3, 1), some (.aload_n 0, 1), some (.getfield 17, 3), none, none, some (.aload_n 3, 1), some (.getfield 118, 3), none, none, some (.iaload, 1), some (.putfield 121, 3), none, none, some (.aload_n 0, 1), some (.getfield 17, 3), none, none, some (.aload_n 3, 1), some (.getfield 118, 3), none, none, some (.dup2, 1), some (.iaload, 1), some (.iconst 1, 1), some (.iadd, 1), some (.iastore, 1), some (.aload_n 3, 1), some (.getfield 118, 3), none, none, some (.ifCond .ne 43, 3)], [none, none, some (.aload_n 3, 1), some (.iconst 0, 1), some (.putfield 329, 3), none, none, some (.aload_n 3, 1), some (.astore 4, 2), none, some (.aload 4, 2), none, some (.ifnull 27, 3), none, none, some (.aload_n 3, 1), some (.dup, 1), some (.getfield 329, 3), none, none, some (.aload 4, 2), none, some (.invokestatic 332, 3), none, none, some (.iadd, 1), some (.putfield 329, 3), none, none, some (.aload 4, 2), none, some (.getfield 95, 3)], [none, none, some (.astore 4, 2), none, some (.goto (-26), 3), none, none, some (.goto 86, 3), none, none, some (.aload_n 3, 1), some (.getfield 118, 3), none, none, some (.iconst 2, 1), some (.if_icmp .ne 20, 3), none, none, some (.aload_n 3, 1), some (.aload_n 0, 1), some (.aload_n 3, 1), some (.invokevirtual 336, 3), none, none, some (.putfield 340, 3), none, none, some (.aload_n 3, 1), some (.iconst 0, 1), some (.putfield 329, 3)], [some (.goto 61, 3), none, none, some (.aload_n 3, 1), some (.getfield 118, 3), none, none, some (.iconst 1, 1), some (.if_icmp .ne 21, 3), none, none, some (.aload_n 3, 1), some (.getfield 156, 3), none, none, some (.ifCond .eq 14, 3), none, none, some (.aload_n 3, 1), some (.iload_n 1, 1), some (.putfield 343, 3), none, none, some (.iinc 1 1, 3), none, none, some (.goto 35, 3), none, none, some (.aload_n 3, 1), some (.getfield 118, 3)], [none, some (.iconst 1, 1), some (.if_icmp .eq 27, 3), none, none, some (.aload_n 3, 1), some (.aload_n 3, 1), some (.getfield 143, 3), none, none, some (.getfield 329, 3), none, none, some (.putfield 343, 3), none, none, some (.aload_n 3, 1), some (.getfield 143, 3), none, none, some (.dup, 1), some (.getfield 329, 3), none, none, some (.iconst 1, 1), some (.iadd, 1), some (.putfield 329, 3), none, none, some (.iinc 2 1, 3)], [some (.goto (-180), 3), none, none, some (.iconst 0, 1), some (.istore_n 2, 1), some (.iload_n 2, 1), some (.aload_n 0, 1), some (.getfield 21, 3), none, none, some (.getfield 83, 3), none, none, some (.if_icmp .ge 21, 3), none, none, some (.aload_n 0, 1), some (.getfield 21, 3), none, none, some (.getfield 89, 3), none, none, some (.iload_n 2, 1), some (.aaload, 1), some (.invokestatic 346, 3), none, none, some (.iinc 2 1, 3), none, none, some (.goto (-26), 3)], [none, none, some (.return_, 1)]]
def ft_I121 : List (List (Option (Instr × Nat))) := [[some (.iload_n 2, 1), some (.ifCond .lt 8, 3), none, none, some (.iload_n 2, 1), some (.iconst 1, 1), some (.if_icmp .le 5, 3), none, none, some (.iconst (-1), 1), some (.ireturn, 1), some (.aload_n 0, 1), some (.invokevirtual 160, 3), none, none, some (.ifCond .ne 6, 3), none, none, some (.bipush (-2), 2), none, some (.ireturn, 1), some (.aload_n 0, 1), some (.getfield 69, 3), none, none, some (.iload_n 1, 1), some (.invokevirtual 175, 3), none, none, some (.astore_n 3, 1), some (.aload_n 3, 1), some (.ifnonnull 6, 3)], [none, none, some (.bipush (-2), 2), none, some (.ireturn, 1), some (.iload_n 2, 1), some (.ifCond .ne 18, 3), none, none, some (.aload_n 0, 1), some (.getfield 69, 3), none, none, some (.getfield 179, 3), none, none, some (.aload_n 3, 1), some (.getfield 182, 3), none, none, some (.iaload, 1), some (.goto 7, 3), none, none, some (.aload_n 3, 1), some (.getfield 187, 3), none, none, some (.ireturn, 1)]]
def ft_I122 : List (List (Option (Instr × Nat))) := [[some (.aload_n 0, 1), some (.iload_n 1, 1), some (.invokevirtual 95, 3), none, none, some (.istore_n 2, 1), some (.iload_n 2, 1), some (.ifCond .lt 22, 3), none, none, some (.aload_n 0, 1), some (.getfield 36, 3), none, none, some (.iload_n 2, 1), some (.iaload, 1), some (.iconst 3, 1), some (.if_icmp .ne 12, 3), none, none, some (.aload_n 0, 1), some (.getfield 42, 3), none, none, some (.iload_n 2, 1), some (.aaload, 1), some (.goto 4, 3), none, none, some (.aconst_null, 1), some (.areturn, 1)]]
def ft_I123 : List (List (Option (Instr × Nat))) := [[some (.aload_n 0, 1), some (.invokevirtual 160, 3), none, none, some (.ifCond .ne 6, 3), none, none, some (.bipush (-2), 2), none, some (.ireturn, 1), some (.aload_n 0, 1), some (.getfield 69, 3), none, none, some (.iload_n 1, 1), some (.iload_n 2, 1), some (.invokevirtual 190, 3), none, none, some (.astore_n 3, 1), some (.aload_n 3, 1), some (.ifnonnull 8, 3), none, none, some (.bipush (-2), 2), none, some (.goto 7, 3), none, none, some (.aload_n 3, 1), some (.getfield 194, 3)], [none, some (.ireturn, 1)]]
def ft_I124 : List (List (Option (Instr × Nat))) := [[some (.aload_n 0, 1), some (.iload_n 1, 1), some (.invokevirtual 95, 3), none, none, some (.istore_n 3, 1), some (.aload_n 0, 1), some (.iload_n 2, 1), some (.invokevirtual 95, 3), none, none, some (.istore 4, 2), none, some (.iload_n 3, 1), some (.ifCond .lt 9, 3), none, none, some (.iload 4, 2), none, some (.iload_n 3, 1), some (.if_icmp .ge 5, 3), none, none, some (.aconst_null, 1), some (.areturn, 1), some (.aload_n 0, 1), some (.getfield 63, 3), none, none, some (.iconst 1, 1), some (.isub, 1), some (.istore 5, 2)], [none, some (.iload 5, 2), none, some (.ifCond .lt 50, 3), none, none, some (.aload_n 0, 1), some (.getfield 47, 3), none, none, some (.iload 5, 2), none, some (.aaload, 1), some (.astore 6, 2), none, some (.aload 6, 2), none, some (.getfield 132, 3), none, none, some (.iload_n 3, 1), some (.if_icmp .ne 26, 3), none, none, some (.aload 6, 2), none, some (.getfield 133, 3), none, none, some (.iload 4, 2), none, some (.if_icmp .ne 16, 3)], [none, none, some (.aload 6, 2), none, some (.getfield 134, 3), none, none, some (.bipush 65, 2), none, some (.if_icmp .eq 6, 3), none, none, some (.aload 6, 2), none, some (.areturn, 1), some (.iinc 5 (-1), 3), none, none, some (.goto (-49), 3), none, none, some (.aconst_null, 1), some (.areturn, 1)]]
def ft_I125 : List (List (Option (Instr × Nat))) := [[some (.iload_n 1, 1), some (.ifCond .lt 8, 3), none, none, some (.iload_n 1, 1), some (.iconst 5, 1), some (.if_icmp .lt 5, 3), none, none, some (.iconst (-1), 1), some (.ireturn, 1), some (.aload_n 0, 1), some (.invokevirtual 160, 3), none, none, some (.ifCond .eq 14, 3), none, none, some (.aload_n 0, 1), some (.getfield 69, 3), none, none, some (.iload_n 1, 1), some (.invokevirtual 199, 3), none, none, some (.goto 5, 3), none, none, some (.bipush (-2), 2), none, some (.ireturn, 1)]]
def ft_I126 : List (List (Option (Instr × Nat))) := [[some (.iconst 0, 1), some (.istore_n 2, 1), some (.iconst 0, 1), some (.istore_n 3, 1), some (.iload_n 3, 1), some (.aload_n 0, 1), some (.getfield 69, 3), none, none, some (.if_icmp .ge 25, 3), none, none, some (.aload_n 0, 1), some (.getfield 57, 3), none, none, some (.iload_n 3, 1), some (.aaload, 1), some (.getfield 102, 3), none, none, some (.iload_n 1, 1), some (.if_icmp .ne 6, 3), none, none, some (.iinc 2 1, 3), none, none, some (.iinc 3 1, 3), none, none, some (.goto (-27), 3)], [none, none, some (.iload_n 2, 1), some (.ireturn, 1)]]
def ft_I127 : List (List (Option (Instr × Nat))) := [[some (.iload_n 1, 1), some (.ifCond .lt 8, 3), none, none, some (.iload_n 1, 1), some (.iconst 5, 1), some (.if_icmp .lt 5, 3), none, none, some (.iconst (-1), 1), some (.ireturn, 1), some (.aload_n 0, 1), some (.invokevirtual 160, 3), none, none, some (.ifCond .ne 6, 3), none, none, some (.bipush (-2), 2), none, some (.ireturn, 1), some (.aload_n 0, 1), some (.getfield 69, 3), none, none, some (.iload_n 1, 1), some (.iload_n 2, 1), some (.invokevirtual 202, 3), none, none, some (.astore_n 3, 1), some (.aload_n 3, 1)], [some (.ifnonnull 7, 3), none, none, some (.iconst (-1), 1), some (.goto 15, 3), none, none, some (.aload_n 0, 1), some (.getfield 69, 3), none, none, some (.getfield 179, 3), none, none, some (.aload_n 3, 1), some (.getfield 182, 3), none, none, some (.iaload, 1), some (.ireturn, 1)]]
def ft_I128 : List (List (Option (Instr × Nat))) := [[some (.iconst 0, 1), some (.istore_n 3, 1), some (.iload_n 3, 1), some (.aload_n 0, 1), some (.getfield 69, 3), none, none, some (.if_icmp .ge 42, 3), none, none, some (.aload_n 0, 1), some (.getfield 57, 3), none, none, some (.iload_n 3, 1), some (.aaload, 1), some (.getfield 102, 3), none, none, some (.iload_n 1, 1), some (.if_icmp .ne 23, 3), none, none, some (.aload_n 0, 1), some (.getfield 57, 3), none, none, some (.iload_n 3, 1), some (.aaload, 1), some (.getfield 105, 3)], [some (.iload_n 2, 1), some (.if_icmp .ne 10, 3), none, none, some (.aload_n 0, 1), some (.getfield 57, 3), none, none, some (.iload_n 3, 1), some (.aaload, 1), some (.areturn, 1), some (.iinc 3 1, 3), none, none, some (.goto (-44), 3), none, none, some (.aconst_null, 1), some (.areturn, 1)]]
def ft_I129 : List (List (Option (Instr × Nat))) := [[some (.aload_n 0, 1), some (.invokevirtual 160, 3), none, none, some (.ifCond .eq 14, 3), none, none, some (.aload_n 0, 1), some (.getfield 69, 3), none, none, some (.iload_n 1, 1), some (.invokevirtual 206, 3), none, none, some (.goto 4, 3), none, none, some (.aconst_null, 1), some (.astore_n 2, 1), some (.aload_n 2, 1), some (.ifnonnull 8, 3), none, none, some (.bipush (-2), 2), none, some (.goto 11, 3), none, none, some (.aload_n 0, 1), some (.getfield 69, 3)], [none, some (.aload_n 2, 1), some (.invokevirtual 209, 3), none, none, some (.ireturn, 1)]]
def ft_I130 : List (List (Option (Instr × Nat))) := [[some (.aload_n 0, 1), some (.iload_n 1, 1), some (.invokevirtual 98, 3), none, none, some (.astore_n 2, 1), some (.aload_n 2, 1), some (.ifnull 20, 3), none, none, some (.aload_n 0, 1), some (.getfield 30, 3), none, none, some (.aload_n 2, 1), some (.getfield 88, 3), none, none, some (.iaload, 1), some (.iload_n 1, 1), some (.if_icmp .ne 7, 3), none, none, some (.aload_n 2, 1), some (.goto 4, 3), none, none, some (.aconst_null, 1), some (.areturn, 1)]]
def ft_I133 : List (List (Option (Instr × Nat))) := [[some (.aload_n 0, 1), some (.invokevirtual 160, 3), none, none, some (.ifCond .eq 14, 3), none, none, some (.aload_n 0, 1), some (.getfield 69, 3), none, none, some (.iload_n 1, 1), some (.invokevirtual 206, 3), none, none, some (.goto 4, 3), none, none, some (.aconst_null, 1), some (.astore_n 3, 1), some (.aload_n 3, 1), some (.ifnonnull 6, 3), none, none, some (.bipush (-2), 2), none, some (.ireturn, 1), some (.aload_n 0, 1), some (.getfield 69, 3), none, none, some (.aload_n 3, 1)], [some (.iload_n 2, 1), some (.invokevirtual 213, 3), none, none, some (.istore 4, 2), none, some (.iload 4, 2), none, some (.ifCond .ge 7, 3), none, none, some (.iconst (-1), 1), some (.goto 13, 3), none, none, some (.aload_n 0, 1), some (.getfield 69, 3), none, none, some (.getfield 179, 3), none, none, some (.iload 4, 2), none, some (.iaload, 1), some (.ireturn, 1)]]
def ft_I135 : List (List (Option (Instr × Nat))) := [[some (.aload_n 0, 1), some (.invokevirtual 160, 3), none, none, some (.ifCond .eq 14, 3), none, none, some (.aload_n 0, 1), some (.getfield 69, 3), none, none, some (.iload_n 1, 1), some (.invokevirtual 206, 3), none, none, some (.goto 4, 3), none, none, some (.aconst_null, 1), some (.astore_n 2, 1), some (.aload_n 2, 1), some (.ifnull 11, 3), none, none, some (.aload_n 2, 1), some (.getfield 187, 3), none, none, some (.iconst 2, 1), some (.if_icmp .eq 6, 3)], [some (.bipush (-2), 2), none, some (.ireturn, 1), some (.aload_n 0, 1), some (.getfield 69, 3), none, none, some (.aload_n 2, 1), some (.invokevirtual 217, 3), none, none, some (.ireturn, 1)]]
def ft_I137 : List (List (Option (Instr × Nat))) := [[some (.aload_n 0, 1), some (.getfield 220, 3), none, none, some (.bipush 50, 2), none, some (.if_icmp .lt 6, 3), none, none, some (.bipush (-3), 2), none, some (.ireturn, 1), some (.aload_n 0, 1), some (.getfield 80, 3), none, none, some (.aload_n 0, 1), some (.getfield 220, 3), none, none, some (.iload_n 1, 1), some (.iastore, 1), some (.aload_n 0, 1), some (.dup, 1), some (.getfield 220, 3), none, none, some (.iconst 1, 1), some (.iadd, 1), some (.putfield 220, 3)], [some (.aload_n 0, 1), some (.getfield 220, 3), none, none, some (.ireturn, 1)]]
def ft_I138 : List (List (Option (Instr × Nat))) := [[some (.aload_n 0, 1), some (.getfield 220, 3), none, none, some (.istore_n 1, 1), some (.aload_n 0, 1), some (.iconst 0, 1), some (.putfield 220, 3), none, none, some (.iload_n 1, 1), some (.ireturn, 1)]]
def ft_I139 : List (List (Option (Instr × Nat))) := [[some (.iload_n 1, 1), some (.ifCond .lt 8, 3), none, none, some (.iload_n 1, 1), some (.iconst 1, 1), some (.if_icmp .le 5, 3), none, none, some (.iconst (-1), 1), some (.ireturn, 1), some (.aload_n 0, 1), some (.invokevirtual 160, 3), none, none, some (.ifCond .eq 15, 3), none, none, some (.iload_n 1, 1), some (.iconst 1, 1), some (.if_icmp .ne 13, 3), none, none, some (.aload_n 0, 1), some (.invokevirtual 223, 3), none, none, some (.ifCond .ne 6, 3), none, none, some (.bipush (-2), 2)], [some (.ireturn, 1), some (.aload_n 0, 1), some (.getfield 30, 3), none, none, some (.iload_n 1, 1), some (.ifCond .ne 10, 3), none, none, some (.aload_n 0, 1), some (.getfield 69, 3), none, none, some (.goto 7, 3), none, none, some (.aload_n 0, 1), some (.getfield 73, 3), none, none, some (.aload_n 0, 1), some (.getfield 80, 3), none, none, some (.aload_n 0, 1), some (.getfield 220, 3), none, none, some (.invokevirtual 226, 3), none, none, some (.istore_n 2, 1)], [some (.aload_n 0, 1), some (.iconst 1, 1), some (.putfield 137, 3), none, none, some (.aload_n 0, 1), some (.getfield 30, 3), none, none, some (.getfield 230, 3), none, none, some (.iconst 0, 1), some (.aload_n 0, 1), some (.getfield 84, 3), none, none, some (.iconst 0, 1), some (.iconst 5, 1), some (.invokestatic 111, 3), none, none, some (.aload_n 0, 1), some (.getfield 30, 3), none, none, some (.getfield 233, 3), none, none, some (.iconst 0, 1), some (.aload_n 0, 1), some (.getfield 87, 3)], [none, none, some (.iconst 0, 1), some (.sipush 300, 3), none, none, some (.invokestatic 111, 3), none, none, some (.iload_n 2, 1), some (.ireturn, 1)]]
def ft_I140 : List (List (Option (Instr × Nat))) := [[some (.aload_n 0, 1), some (.getfield 60, 3), none, none, some (.getfield 236, 3), none, none, some (.ifCond .ne 5, 3), none, none, some (.iconst 0, 1), some (.ireturn, 1), some (.aload_n 0, 1), some (.getfield 60, 3), none, none, some (.aload_n 0, 1), some (.getfield 60, 3), none, none, some (.getfield 236, 3), none, none, some (.iconst 1, 1), some (.isub, 1), some (.aload_n 0, 1), some (.getfield 73, 3), none, none, some (.invokevirtual 239, 3)], [some (.aload_n 0, 1), some (.getfield 16, 3), none, none, some (.aload_n 0, 1), some (.getfield 73, 3), none, none, some (.iconst 0, 1), some (.bipush 8, 2), none, some (.invokevirtual 124, 3), none, none, some (.ifCond .eq 5, 3), none, none, some (.iconst 0, 1), some (.ireturn, 1), some (.aload_n 0, 1), some (.getfield 23, 3), none, none, some (.aload_n 0, 1), some (.getfield 73, 3), none, none, some (.invokevirtual 172, 3), none, none, some (.aload_n 0, 1), some (.getfield 73, 3)], [none, none, some (.getfield 167, 3), none, none, some (.ifCond .ne 7, 3), none, none, some (.iconst 1, 1), some (.goto 4, 3), none, none, some (.iconst 0, 1), some (.ireturn, 1)]]
def ft_I142 : List (List (Option (Instr × Nat))) := [[some (.aload_n 0, 1), some (.aload_n 1, 1), some (.putfield 48, 3), none, none, some (.aload_n 0, 1), some (.aload_n 2, 1), some (.putfield 52, 3), none, none, some (.aload_n 0, 1), some (.iload_n 3, 1), some (.aload_n 2, 1), some (.arraylength, 1), some (.invokestatic 55, 3), none, none, some (.putfield 61, 3), none, none, some (.aload_n 0, 1), some (.getfield 11, 3), none, none, some (.iconst 0, 1), some (.invokestatic 65, 3), none, none, some (.aload_n 0, 1), some (.getfield 11, 3)], [some (.iconst 4, 1), some (.bipush (-2), 2), none, some (.iastore, 1), some (.aload_n 0, 1), some (.getfield 31, 3), none, none, some (.iconst 0, 1), some (.invokestatic 65, 3), none, none, some (.aload_n 0, 1), some (.iconst 0, 1), some (.putfield 71, 3), none, none, some (.aload_n 0, 1), some (.iconst 0, 1), some (.putfield 74, 3), none, none, some (.aload_n 0, 1), some (.iconst 0, 1), some (.putfield 77, 3), none, none, some (.aload_n 0, 1), some (.iconst 0, 1), some (.putfield 80, 3)], [some (.aload_n 0, 1), some (.iconst 1, 1), some (.putfield 83, 3), none, none, some (.aload_n 0, 1), some (.invokevirtual 87, 3), none, none, some (.aload_n 0, 1), some (.getfield 36, 3), none, none, some (.iconst 0, 1), some (.aaload, 1), some (.astore 4, 2), none, some (.aload 4, 2), none, some (.iconst 0, 1), some (.iconst (-1), 1), some (.iastore, 1), some (.aload 4, 2), none, some (.iconst 1, 1), some (.iconst (-1), 1), some (.iastore, 1), some (.aload 4, 2), none, some (.iconst 4, 1), some (.iconst 0, 1), some (.iastore, 1)], [some (.aload 4, 2), none, some (.bipush 6, 2), none, some (.bipush 8, 2), none, some (.iastore, 1), some (.aload 4, 2), none, some (.bipush 7, 2), none, some (.iconst (-1), 1), some (.iastore, 1), some (.aload_n 0, 1), some (.aload 4, 2), none, some (.invokevirtual 90, 3), none, none, some (.iconst 0, 1), some (.istore 5, 2), none, some (.iload 5, 2), none, some (.ldc 94, 2), none, some (.if_icmp .ge 104, 3), none, none, some (.aload_n 0, 1), some (.getfield 83, 3)], [none, some (.ifCond .eq 97, 3), none, none, some (.aload_n 0, 1), some (.getfield 36, 3), none, none, some (.aload_n 0, 1), some (.getfield 77, 3), none, none, some (.aaload, 1), some (.astore 4, 2), none, some (.aload 4, 2), none, some (.iconst 2, 1), some (.iaload, 1), some (.istore 6, 2), none, some (.iload 6, 2), none, some (.aload 4, 2), none, some (.iconst 3, 1), some (.iaload, 1), some (.if_icmp .gt 30, 3), none, none, some (.aload 4, 2)], [some (.iconst 2, 1), some (.iload 6, 2), none, some (.iconst 1, 1), some (.iadd, 1), some (.iastore, 1), some (.aload_n 0, 1), some (.aload_n 0, 1), some (.getfield 48, 3), none, none, some (.getfield 95, 3), none, none, some (.iload 6, 2), none, some (.aaload, 1), some (.aload 4, 2), none, some (.invokevirtual 101, 3), none, none, some (.goto 38, 3), none, none, some (.aload 4, 2), none, some (.bipush 6, 2), none, some (.iaload, 1), some (.ifCond .lt 12, 3)], [none, some (.aload_n 0, 1), some (.aload 4, 2), none, some (.invokevirtual 105, 3), none, none, some (.goto 21, 3), none, none, some (.aload_n 0, 1), some (.aload_n 0, 1), some (.getfield 48, 3), none, none, some (.getfield 108, 3), none, none, some (.aload 4, 2), none, some (.iconst 0, 1), some (.iaload, 1), some (.aaload, 1), some (.aload 4, 2), none, some (.invokevirtual 112, 3), none, none, some (.iinc 5 1, 3), none, none, some (.goto (-105), 3)], [none, none, some (.aload_n 0, 1), some (.getfield 80, 3), none, none, some (.ireturn, 1)]]
def ft_I143 : List (List (Option (Instr × Nat))) := [[some (.aload_n 0, 1), some (.getfield 42, 3), none, none, some (.iconst 0, 1), some (.invokestatic 65, 3), none, none, some (.iconst 0, 1), some (.istore_n 1, 1), some (.iload_n 1, 1), some (.aload_n 0, 1), some (.getfield 48, 3), none, none, some (.getfield 116, 3), none, none, some (.if_icmp .ge 48, 3), none, none, some (.aload_n 0, 1), some (.getfield 48, 3), none, none, some (.getfield 119, 3), none, none, some (.iload_n 1, 1), some (.aaload, 1), some (.astore_n 2, 1), some (.aload_n 2, 1)], [some (.getfield 123, 3), none, none, some (.iconst 1, 1), some (.if_icmp .ne 24, 3), none, none, some (.aload_n 2, 1), some (.getfield 128, 3), none, none, some (.ifCond .eq 17, 3), none, none, some (.aload_n 2, 1), some (.getfield 131, 3), none, none, some (.ifnull 10, 3), none, none, some (.aload_n 0, 1), some (.bipush 8, 2), none, some (.aload_n 2, 1), some (.invokevirtual 135, 3), none, none, some (.iinc 1 1, 3), none, none, some (.goto (-53), 3)], [none, none, some (.iconst 0, 1), some (.istore_n 1, 1), some (.iload_n 1, 1), some (.bipush 8, 2), none, some (.if_icmp .ge 57, 3), none, none, some (.iconst 0, 1), some (.istore_n 2, 1), some (.iload_n 2, 1), some (.aload_n 0, 1), some (.getfield 48, 3), none, none, some (.getfield 139, 3), none, none, some (.if_icmp .ge 38, 3), none, none, some (.aload_n 0, 1), some (.getfield 48, 3), none, none, some (.getfield 142, 3), none, none, some (.iload_n 2, 1), some (.aaload, 1)], [some (.invokestatic 145, 3), none, none, some (.iload_n 1, 1), some (.if_icmp .ne 16, 3), none, none, some (.aload_n 0, 1), some (.aload_n 0, 1), some (.getfield 48, 3), none, none, some (.getfield 142, 3), none, none, some (.iload_n 2, 1), some (.aaload, 1), some (.invokevirtual 149, 3), none, none, some (.iinc 2 1, 3), none, none, some (.goto (-43), 3), none, none, some (.iinc 1 1, 3), none, none, some (.goto (-57), 3)], [some (.return_, 1)]]
def ft_I147 : List (List (Option (Instr × Nat))) := [[some (.aload_n 1, 1), some (.bipush 7, 2), none, some (.dup2, 1), some (.iaload, 1), some (.iconst 1, 1), some (.iadd, 1), some (.iastore, 1), some (.aload_n 1, 1), some (.bipush 7, 2), none, some (.iaload, 1), some (.aload_n 0, 1), some (.getfield 42, 3), none, none, some (.aload_n 1, 1), some (.bipush 6, 2), none, some (.iaload, 1), some (.iaload, 1), some (.if_icmp .ge 56, 3), none, none, some (.aload_n 0, 1), some (.getfield 48, 3), none, none, some (.getfield 119, 3), none, none, some (.aload_n 0, 1)], [some (.getfield 39, 3), none, none, some (.aload_n 1, 1), some (.bipush 6, 2), none, some (.iaload, 1), some (.aaload, 1), some (.aload_n 1, 1), some (.bipush 7, 2), none, some (.iaload, 1), some (.iaload, 1), some (.aaload, 1), some (.astore_n 2, 1), some (.aload_n 1, 1), some (.iconst 1, 1), some (.aload_n 2, 1), some (.getfield 157, 3), none, none, some (.iastore, 1), some (.aload_n 1, 1), some (.iconst 2, 1), some (.aload_n 2, 1), some (.getfield 131, 3), none, none, some (.getfield 271, 3), none, none, some (.iastore, 1)], [some (.aload_n 1, 1), some (.iconst 3, 1), some (.aload_n 2, 1), some (.getfield 131, 3), none, none, some (.getfield 202, 3), none, none, some (.iastore, 1), some (.goto 48, 3), none, none, some (.aload_n 1, 1), some (.bipush 6, 2), none, some (.iaload, 1), some (.bipush 8, 2), none, some (.if_icmp .ne 14, 3), none, none, some (.aload_n 1, 1), some (.iconst 1, 1), some (.iconst (-1), 1), some (.iastore, 1), some (.aload_n 0, 1), some (.invokevirtual 274, 3), none, none, some (.goto 28, 3)], [none, some (.aload_n 0, 1), some (.dup, 1), some (.getfield 77, 3), none, none, some (.iconst 1, 1), some (.isub, 1), some (.putfield 77, 3), none, none, some (.aload_n 0, 1), some (.aload_n 1, 1), some (.bipush 8, 2), none, some (.iaload, 1), some (.putfield 71, 3), none, none, some (.aload_n 0, 1), some (.aload_n 1, 1), some (.iconst 4, 1), some (.iaload, 1), some (.invokevirtual 207, 3), none, none, some (.return_, 1)]]
def ft_I148 : List (List (Option (Instr × Nat))) := [[some (.iconst 0, 1), some (.istore_n 1, 1), some (.iload_n 1, 1), some (.aload_n 0, 1), some (.getfield 48, 3), none, none, some (.getfield 116, 3), none, none, some (.if_icmp .ge 52, 3), none, none, some (.aload_n 0, 1), some (.getfield 48, 3), none, none, some (.aload_n 0, 1), some (.getfield 48, 3), none, none, some (.getfield 119, 3), none, none, some (.iload_n 1, 1), some (.aaload, 1), some (.invokestatic 277, 3), none, none, some (.ifCond .eq 27, 3)], [some (.aload_n 0, 1), some (.invokevirtual 249, 3), none, none, some (.ifCond .eq 19, 3), none, none, some (.aload_n 0, 1), some (.aload_n 0, 1), some (.getfield 48, 3), none, none, some (.getfield 119, 3), none, none, some (.iload_n 1, 1), some (.aaload, 1), some (.iconst 0, 1), some (.iconst 0, 1), some (.iconst 0, 1), some (.invokevirtual 256, 3), none, none, some (.return_, 1), some (.iinc 1 1, 3), none, none, some (.goto (-57), 3), none, none, some (.aload_n 0, 1), some (.bipush 7, 2)], [none, some (.invokevirtual 189, 3), none, none, some (.return_, 1)]]
def ft_I151 : List (List (Option (Instr × Nat))) := [[some (.aload_n 0, 1), some (.getfield 83, 3), none, none, some (.ifCond .eq 94, 3), none, none, some (.aload_n 0, 1), some (.iconst 0, 1), some (.putfield 83, 3), none, none, some (.aload_n 0, 1), some (.iload_n 1, 1), some (.putfield 80, 3), none, none, some (.aload_n 0, 1), some (.getfield 36, 3), none, none, some (.aload_n 0, 1), some (.getfield 77, 3), none, none, some (.aaload, 1), some (.astore_n 2, 1), some (.aload_n 2, 1), some (.iconst 1, 1), some (.iaload, 1), some (.ifCond .lt 34, 3)], [none, some (.aload_n 0, 1), some (.getfield 11, 3), none, none, some (.iconst 4, 1), some (.aload_n 0, 1), some (.getfield 48, 3), none, none, some (.getfield 178, 3), none, none, some (.aload_n 0, 1), some (.getfield 48, 3), none, none, some (.getfield 119, 3), none, none, some (.aload_n 2, 1), some (.iconst 1, 1), some (.iaload, 1), some (.aaload, 1), some (.getfield 181, 3), none, none, some (.iaload, 1), some (.iastore, 1), some (.goto 37, 3)], [some (.aload_n 2, 1), some (.iconst 0, 1), some (.iaload, 1), some (.ifCond .lt 31, 3), none, none, some (.aload_n 0, 1), some (.getfield 11, 3), none, none, some (.iconst 4, 1), some (.aload_n 0, 1), some (.getfield 48, 3), none, none, some (.getfield 178, 3), none, none, some (.aload_n 0, 1), some (.getfield 48, 3), none, none, some (.getfield 108, 3), none, none, some (.aload_n 2, 1), some (.iconst 0, 1), some (.iaload, 1), some (.aaload, 1), some (.getfield 184, 3)], [some (.iaload, 1), some (.iastore, 1), some (.return_, 1)]]
def ft_I174 : List (List (Option (Instr × Nat))) := [[some (.iload_n 1, 1), some (.ifCond .lt 8, 3), none, none, some (.iload_n 1, 1), some (.iconst 5, 1), some (.if_icmp .lt 5, 3), none, none, some (.iconst (-1), 1), some (.ireturn, 1), some (.aload_n 0, 1), some (.getfield 137, 3), none, none, some (.ifCond .eq 12, 3), none, none, some (.aload_n 0, 1), some (.getfield 84, 3), none, none, some (.iload_n 1, 1), some (.iaload, 1), some (.goto 5, 3), none, none, some (.bipush (-2), 2), none, some (.ireturn, 1)]]
def ft_I175 : List (List (Option (Instr × Nat))) := [[some (.aload_n 0, 1), some (.getfield 137, 3), none, none, some (.ifCond .eq 24, 3), none, none, some (.iload_n 1, 1), some (.ifCond .lt 20, 3), none, none, some (.iload_n 1, 1), some (.aload_n 0, 1), some (.getfield 84, 3), none, none, some (.iconst 0, 1), some (.iaload, 1), some (.if_icmp .ge 10, 3), none, none, some (.iload_n 1, 1), some (.sipush 300, 3), none, none, some (.if_icmp .lt 5, 3), none, none, some (.iconst 0, 1), some (.ireturn, 1), some (.aload_n 0, 1), some (.getfield 87, 3)], [none, none, some (.iload_n 1, 1), some (.iaload, 1), some (.ireturn, 1)]]
def ft_I176 : List (List (Option (Instr × Nat))) := [[some (.iload_n 1, 1), some (.iconst 1, 1), some (.if_icmp .lt 9, 3), none, none, some (.iload_n 1, 1), some (.bipush 20, 2), none, some (.if_icmp .le 5, 3), none, none, some (.iconst (-1), 1), some (.ireturn, 1), some (.aload_n 0, 1), some (.invokevirtual 160, 3), none, none, some (.ifCond .eq 10, 3), none, none, some (.aload_n 0, 1), some (.invokevirtual 223, 3), none, none, some (.ifCond .ne 6, 3), none, none, some (.bipush (-2), 2), none, some (.ireturn, 1), some (.iload_n 2, 1), some (.istore_n 3, 1)], [some (.iconst 0, 1), some (.istore 4, 2), none, some (.iload 4, 2), none, some (.iload_n 1, 1), some (.if_icmp .ge 68, 3), none, none, some (.iconst 0, 1), some (.istore 5, 2), none, some (.iload 5, 2), none, some (.aload_n 0, 1), some (.getfield 90, 3), none, none, some (.arraylength, 1), some (.if_icmp .ge 39, 3), none, none, some (.iload_n 3, 1), some (.ldc 243, 2), none, some (.imul, 1), some (.sipush 12345, 3), none, none, some (.iadd, 1), some (.istore_n 3, 1), some (.aload_n 0, 1)], [some (.getfield 90, 3), none, none, some (.iload 5, 2), none, some (.iload_n 3, 1), some (.bipush 16, 2), none, some (.iushr, 1), some (.sipush 32767, 3), none, none, some (.iand, 1), some (.bipush 21, 2), none, some (.irem, 1), some (.bipush 10, 2), none, some (.isub, 1), some (.iastore, 1), some (.iinc 5 1, 3), none, none, some (.goto (-43), 3), none, none, some (.aload_n 0, 1), some (.invokevirtual 244, 3), none, none, some (.ifCond .ne 6, 3)], [none, some (.iload 4, 2), none, some (.ireturn, 1), some (.iinc 4 1, 3), none, none, some (.goto (-68), 3), none, none, some (.iload 4, 2), none, some (.ireturn, 1)]]
def ft_I178 : List (List (Option (Instr × Nat))) := [[some (.iload_n 1, 1), some (.ifCond .lt 9, 3), none, none, some (.iload_n 1, 1), some (.bipush 11, 2), none, some (.if_icmp .le 5, 3), none, none, some (.iconst (-1), 1), some (.ireturn, 1), some (.aload_n 0, 1), some (.invokevirtual 160, 3), none, none, some (.ifCond .ne 6, 3), none, none, some (.bipush (-2), 2), none, some (.ireturn, 1), some (.aload_n 0, 1), some (.getfield 96, 3), none, none, some (.istore 4, 2), none, some (.aload_n 0, 1), some (.iconst 0, 1), some (.putfield 96, 3)], [none, some (.aload_n 0, 1), some (.getfield 46, 3), none, none, some (.aload_n 0, 1), some (.getfield 69, 3), none, none, some (.aload_n 0, 1), some (.getfield 9, 3), none, none, some (.iload 4, 2), none, some (.invokevirtual 247, 3), none, none, some (.aload_n 0, 1), some (.getfield 46, 3), none, none, some (.iload_n 1, 1), some (.iload_n 2, 1), some (.iload_n 3, 1), some (.invokevirtual 251, 3), none, none, some (.istore 5, 2), none, some (.iload 5, 2)], [some (.ifCond .ne 24, 3), none, none, some (.aload_n 0, 1), some (.getfield 46, 3), none, none, some (.aload_n 0, 1), some (.getfield 16, 3), none, none, some (.aload_n 0, 1), some (.getfield 23, 3), none, none, some (.aload_n 0, 1), some (.getfield 73, 3), none, none, some (.invokevirtual 255, 3), none, none, some (.istore 5, 2), none, some (.aload_n 0, 1), some (.iload 5, 2), none, some (.ifCond .ne 7, 3), none, none, some (.iconst 1, 1), some (.goto 4, 3)], [none, none, some (.iconst 0, 1), some (.putfield 144, 3), none, none, some (.aload_n 0, 1), some (.aload_n 0, 1), some (.getfield 144, 3), none, none, some (.ifCond .eq 8, 3), none, none, some (.bipush (-2), 2), none, some (.goto 10, 3), none, none, some (.aload_n 0, 1), some (.getfield 46, 3), none, none, some (.getfield 259, 3), none, none, some (.putfield 76, 3), none, none, some (.iload 5, 2), none, some (.ireturn, 1)]]
def ft_I179 : List (List (Option (Instr × Nat))) := [[some (.aload_n 0, 1), some (.aload_n 1, 1), some (.putfield 19, 3), none, none, some (.aload_n 0, 1), some (.aload_n 2, 1), some (.putfield 23, 3), none, none, some (.aload_n 0, 1), some (.iload_n 3, 1), some (.putfield 27, 3), none, none, some (.aload_n 0, 1), some (.bipush (-2), 2), none, some (.putfield 31, 3), none, none, some (.aload_n 0, 1), some (.aconst_null, 1), some (.putfield 34, 3), none, none, some (.aload_n 0, 1), some (.aconst_null, 1), some (.putfield 38, 3), none, none, some (.aload_n 0, 1)], [some (.aconst_null, 1), some (.putfield 42, 3), none, none, some (.aload_n 0, 1), some (.aconst_null, 1), some (.putfield 46, 3), none, none, some (.aload_n 0, 1), some (.aconst_null, 1), some (.putfield 49, 3), none, none, some (.aload_n 0, 1), some (.getfield 15, 3), none, none, some (.aload_n 1, 1), some (.invokevirtual 52, 3), none, none, some (.return_, 1)]]
def ft_I180 : List (List (Option (Instr × Nat))) := [[some (.aload_n 0, 1), some (.aload_n 1, 1), some (.putfield 37, 3), none, none, some (.aload_n 0, 1), some (.iconst 0, 1), some (.putfield 41, 3), none, none, some (.aload_n 0, 1), some (.iconst 0, 1), some (.putfield 45, 3), none, none, some (.aload_n 0, 1), some (.getfield 31, 3), none, none, some (.iconst 0, 1), some (.invokestatic 48, 3), none, none, some (.return_, 1)]]
def ft_I181 : List (List (Option (Instr × Nat))) := [[some (.aload_n 0, 1), some (.iload_n 2, 1), some (.putfield 31, 3), none, none, some (.aload_n 0, 1), some (.iload_n 1, 1), some (.iload_n 2, 1), some (.iload_n 3, 1), some (.invokevirtual 58, 3), none, none, some (.ifCond .ne 5, 3), none, none, some (.iconst 1, 1), some (.ireturn, 1), some (.aload_n 0, 1), some (.iload_n 1, 1), some (.invokevirtual 62, 3), none, none, some (.ifCond .ne 5, 3), none, none, some (.iconst 2, 1), some (.ireturn, 1), some (.iload_n 1, 1)], [], [none, none, none, none, none, none, none, none, none, none, none, none, none, none, none, none, none, none, none, none, none, none, none, none, some (.aload_n 0, 1), some (.invokevirtual 66, 3), none, none, some (.istore 4, 2), none, some (.goto 109, 3)], [none, some (.aload_n 0, 1), some (.invokevirtual 70, 3), none, none, some (.istore 4, 2), none, some (.goto 100, 3), none, none, some (.aload_n 0, 1), some (.invokevirtual 73, 3), none, none, some (.istore 4, 2), none, some (.goto 91, 3), none, none, some (.aload_n 0, 1), some (.invokevirtual 76, 3), none, none, some (.istore 4, 2), none, some (.goto 82, 3), none, none, some (.aload_n 0, 1), some (.invokevirtual 79, 3)], [some (.istore 4, 2), none, some (.goto 73, 3), none, none, some (.aload_n 0, 1), some (.invokevirtual 82, 3), none, none, some (.istore 4, 2), none, some (.goto 64, 3), none, none, some (.aload_n 0, 1), some (.aload_n 0, 1), some (.getfield 34, 3), none, none, some (.getfield 85, 3), none, none, some (.getfield 90, 3), none, none, some (.invokevirtual 93, 3), none, none, some (.istore 4, 2), none, some (.goto 45, 3)], [none, some (.aload_n 0, 1), some (.invokevirtual 97, 3), none, none, some (.istore 4, 2), none, some (.goto 36, 3), none, none, some (.aload_n 0, 1), some (.invokevirtual 100, 3), none, none, some (.istore 4, 2), none, some (.goto 27, 3), none, none, some (.aload_n 0, 1), some (.invokevirtual 103, 3), none, none, some (.istore 4, 2), none, some (.goto 18, 3), none, none, some (.aload_n 0, 1), some (.invokevirtual 106, 3)], [some (.istore 4, 2), none, some (.goto 9, 3), none, none, some (.aload_n 0, 1), some (.invokevirtual 109, 3), none, none, some (.istore 4, 2), none, some (.aload_n 0, 1), some (.getfield 15, 3), none, none, some (.invokevirtual 112, 3), none, none, some (.iload 4, 2), none, some (.ireturn, 1)]]
def ft_I182 : List (List (Option (Instr × Nat))) := [[some (.aload_n 0, 1), some (.iload_n 1, 1), some (.ifCond .ne 14, 3), none, none, some (.aload_n 0, 1), some (.getfield 19, 3), none, none, some (.iload_n 2, 1), some (.invokevirtual 115, 3), none, none, some (.goto 11, 3), none, none, some (.aload_n 0, 1), some (.getfield 19, 3), none, none, some (.iload_n 2, 1), some (.invokevirtual 121, 3), none, none, some (.putfield 34, 3), none, none, some (.aload_n 0, 1), some (.getfield 34, 3), none, none, some (.ifnonnull 7, 3)], [none, none, some (.iconst (-1), 1), some (.goto 10, 3), none, none, some (.aload_n 0, 1), some (.getfield 34, 3), none, none, some (.getfield 124, 3), none, none, some (.istore 4, 2), none, some (.iload_n 1, 1)], [], [none, none, none, none, none, none, none, none, none, none, none, none, some (.aload_n 0, 1), some (.getfield 34, 3), none, none, some (.ifnull 7, 3), none, none, some (.iconst 1, 1), some (.goto 4, 3), none, none, some (.iconst 0, 1), some (.ireturn, 1), some (.iload 4, 2), none, some (.iconst 4, 1), some (.if_icmp .ne 7, 3), none, none, some (.iconst 1, 1)], [some (.goto 4, 3), none, none, some (.iconst 0, 1), some (.ireturn, 1), some (.aload_n 0, 1), some (.aload_n 0, 1), some (.getfield 19, 3), none, none, some (.iload_n 2, 1), some (.iload_n 3, 1), some (.invokevirtual 127, 3), none, none, some (.putfield 38, 3), none, none, some (.aload_n 0, 1), some (.getfield 38, 3), none, none, some (.ifnull 7, 3), none, none, some (.iconst 1, 1), some (.goto 4, 3), none, none, some (.iconst 0, 1), some (.ireturn, 1), some (.aload_n 0, 1)], [some (.iload_n 2, 1), some (.iload_n 3, 1), some (.invokevirtual 131, 3), none, none, some (.ireturn, 1), some (.iload 4, 2), none, some (.iconst 2, 1), some (.if_icmp .ne 7, 3), none, none, some (.iconst 1, 1), some (.goto 4, 3), none, none, some (.iconst 0, 1), some (.ireturn, 1), some (.iload 4, 2), none, some (.iconst 1, 1), some (.if_icmp .ne 7, 3), none, none, some (.iconst 1, 1), some (.goto 4, 3), none, none, some (.iconst 0, 1), some (.ireturn, 1), some (.iload 4, 2)], [some (.iconst 1, 1), some (.if_icmp .eq 9, 3), none, none, some (.iload 4, 2), none, some (.iconst 2, 1), some (.if_icmp .ne 7, 3), none, none, some (.iconst 1, 1), some (.goto 4, 3), none, none, some (.iconst 0, 1), some (.ireturn, 1), some (.iload 4, 2), none, some (.iconst 1, 1), some (.if_icmp .eq 9, 3), none, none, some (.iload 4, 2), none, some (.iconst 2, 1), some (.if_icmp .ne 17, 3), none, none, some (.aload_n 0, 1), some (.getfield 34, 3)], [some (.getfield 135, 3), none, none, some (.ifCond .eq 7, 3), none, none, some (.iconst 1, 1), some (.goto 4, 3), none, none, some (.iconst 0, 1), some (.ireturn, 1), some (.aload_n 0, 1), some (.getfield 34, 3), none, none, some (.ifnull 13, 3), none, none, some (.iload 4, 2), none, some (.iconst 3, 1), some (.if_icmp .eq 7, 3), none, none, some (.iconst 1, 1), some (.goto 4, 3), none, none, some (.iconst 0, 1), some (.ireturn, 1), some (.aload_n 0, 1)], [some (.aload_n 0, 1), some (.iload_n 2, 1), some (.invokevirtual 139, 3), none, none, some (.putfield 42, 3), none, none, some (.aload_n 0, 1), some (.getfield 42, 3), none, none, some (.ifnull 18, 3), none, none, some (.aload_n 0, 1), some (.getfield 42, 3), none, none, some (.getfield 143, 3), none, none, some (.iconst 5, 1), some (.if_icmp .ne 7, 3), none, none, some (.iconst 1, 1), some (.goto 4, 3), none, none, some (.iconst 0, 1), some (.ireturn, 1)]]
def ft_I183 : List (List (Option (Instr × Nat))) := [[some (.aload_n 0, 1), some (.aload_n 0, 1), some (.iload_n 1, 1), some (.invokevirtual 139, 3), none, none, some (.putfield 42, 3), none, none, some (.aload_n 0, 1), some (.getfield 19, 3), none, none, some (.iload_n 2, 1), some (.invokevirtual 163, 3), none, none, some (.istore_n 3, 1), some (.aload_n 0, 1), some (.getfield 42, 3), none, none, some (.ifnull 17, 3), none, none, some (.aload_n 0, 1), some (.getfield 42, 3), none, none, some (.getfield 177, 3)], [some (.ifCond .eq 7, 3), none, none, some (.iload_n 3, 1), some (.ifCond .ge 5, 3), none, none, some (.iconst 0, 1), some (.ireturn, 1), some (.aload_n 0, 1), some (.aload_n 0, 1), some (.getfield 42, 3), none, none, some (.putfield 46, 3), none, none, some (.aload_n 0, 1), some (.getfield 46, 3), none, none, some (.ifnull 28, 3), none, none, some (.aload_n 0, 1), some (.getfield 46, 3), none, none, some (.getfield 183, 3), none, none, some (.iload_n 3, 1)], [some (.if_icmp .eq 17, 3), none, none, some (.aload_n 0, 1), some (.aload_n 0, 1), some (.getfield 46, 3), none, none, some (.getfield 186, 3), none, none, some (.putfield 46, 3), none, none, some (.goto (-29), 3), none, none, some (.aload_n 0, 1), some (.getfield 46, 3), none, none, some (.ifnull 7, 3), none, none, some (.iconst 1, 1), some (.goto 4, 3), none, none, some (.iconst 0, 1), some (.ireturn, 1)]]
def ft_I184 : List (List (Option (Instr × Nat))) := [[some (.aload_n 0, 1), some (.getfield 19, 3), none, none, some (.iload_n 1, 1), some (.invokevirtual 163, 3), none, none, some (.istore_n 2, 1), some (.iconst 0, 1), some (.istore_n 3, 1), some (.iload_n 3, 1), some (.aload_n 0, 1), some (.getfield 19, 3), none, none, some (.getfield 167, 3), none, none, some (.if_icmp .ge 69, 3), none, none, some (.iload_n 2, 1), some (.ifCond .lt 65, 3), none, none, some (.aload_n 0, 1), some (.getfield 19, 3), none, none, some (.getfield 170, 3)], [none, some (.iload_n 3, 1), some (.aaload, 1), some (.getfield 174, 3), none, none, some (.iload_n 2, 1), some (.if_icmp .ne 43, 3), none, none, some (.aload_n 0, 1), some (.getfield 19, 3), none, none, some (.getfield 170, 3), none, none, some (.iload_n 3, 1), some (.aaload, 1), some (.getfield 177, 3), none, none, some (.ifCond .ne 18, 3), none, none, some (.aload_n 0, 1), some (.getfield 19, 3), none, none, some (.getfield 170, 3)], [some (.iload_n 3, 1), some (.aaload, 1), some (.getfield 180, 3), none, none, some (.ifnull 13, 3), none, none, some (.aload_n 0, 1), some (.getfield 19, 3), none, none, some (.getfield 170, 3), none, none, some (.iload_n 3, 1), some (.aaload, 1), some (.areturn, 1), some (.iinc 3 1, 3), none, none, some (.goto (-74), 3), none, none, some (.aconst_null, 1), some (.areturn, 1)]]
def ft_I247 : List (List (Option (Instr × Nat))) := [[some (.aload_n 0, 1), some (.getfield 144, 3), none, none, some (.ifCond .eq 13, 3), none, none, some (.aload_n 0, 1), some (.getfield 37, 3), none, none, some (.getfield 262, 3), none, none, some (.goto 4, 3), none, none, some (.iconst 0, 1), some (.ireturn, 1)]]
def ft_I248 : List (List (Option (Instr × Nat))) := [[some (.aload_n 0, 1), some (.getfield 144, 3), none, none, some (.ifCond .eq 22, 3), none, none, some (.iload_n 1, 1), some (.ifCond .lt 18, 3), none, none, some (.iload_n 1, 1), some (.aload_n 0, 1), some (.getfield 37, 3), none, none, some (.getfield 262, 3), none, none, some (.if_icmp .ge 7, 3), none, none, some (.iload_n 2, 1), some (.ifCond .ge 5, 3), none, none, some (.iconst (-1), 1), some (.ireturn, 1), some (.iload_n 2, 1), some (.ifCond .ne 13, 3)], [some (.aload_n 0, 1), some (.getfield 37, 3), none, none, some (.getfield 265, 3), none, none, some (.iload_n 1, 1), some (.iaload, 1), some (.ireturn, 1), some (.iload_n 2, 1), some (.iconst 1, 1), some (.if_icmp .ne 13, 3), none, none, some (.aload_n 0, 1), some (.getfield 37, 3), none, none, some (.getfield 267, 3), none, none, some (.iload_n 1, 1), some (.iaload, 1), some (.ireturn, 1), some (.iload_n 2, 1), some (.iconst 2, 1), some (.if_icmp .ne 13, 3), none, none, some (.aload_n 0, 1), some (.getfield 37, 3)], [none, none, some (.getfield 270, 3), none, none, some (.iload_n 1, 1), some (.iaload, 1), some (.ireturn, 1), some (.iload_n 2, 1), some (.iconst 3, 1), some (.isub, 1), some (.aload_n 0, 1), some (.getfield 37, 3), none, none, some (.getfield 270, 3), none, none, some (.iload_n 1, 1), some (.iaload, 1), some (.if_icmp .ge 17, 3), none, none, some (.aload_n 0, 1), some (.getfield 37, 3), none, none, some (.iload_n 1, 1), some (.iload_n 2, 1), some (.iconst 3, 1), some (.isub, 1), some (.invokevirtual 271, 3)], [none, none, some (.goto 4, 3), none, none, some (.iconst (-1), 1), some (.ireturn, 1)]]
def ft_I250 : List (List (Option (Instr × Nat))) := [[some (.aload_n 0, 1), some (.getfield 144, 3), none, none, some (.ifCond .ne 6, 3), none, none, some (.bipush (-2), 2), none, some (.ireturn, 1), some (.aload_n 0, 1), some (.getfield 37, 3), none, none, some (.aload_n 0, 1), some (.getfield 73, 3), none, none, some (.invokevirtual 275, 3), none, none, some (.aload_n 0, 1), some (.getfield 16, 3), none, none, some (.aload_n 0, 1), some (.getfield 73, 3), none, none, some (.iconst 0, 1), some (.bipush 8, 2)], [some (.invokevirtual 124, 3), none, none, some (.ifCond .eq 6, 3), none, none, some (.bipush (-2), 2), none, some (.ireturn, 1), some (.aload_n 0, 1), some (.getfield 60, 3), none, none, some (.aload_n 0, 1), some (.getfield 69, 3), none, none, some (.aload_n 0, 1), some (.getfield 73, 3), none, none, some (.invokevirtual 278, 3), none, none, some (.aload_n 0, 1), some (.invokevirtual 131, 3), none, none, some (.aload_n 0, 1), some (.getfield 60, 3)], [some (.getfield 236, 3), none, none, some (.ireturn, 1)]]
def ft_I253 : List (List (Option (Instr × Nat))) := [[some (.aload_n 0, 1), some (.getfield 60, 3), none, none, some (.getfield 236, 3), none, none, some (.ifCond .le 19, 3), none, none, some (.aload_n 0, 1), some (.aload_n 0, 1), some (.getfield 60, 3), none, none, some (.getfield 236, 3), none, none, some (.iconst 1, 1), some (.isub, 1), some (.invokevirtual 282, 3), none, none, some (.goto 5, 3), none, none, some (.bipush (-2), 2), none, some (.ireturn, 1)]]
def ft_I256 : List (List (Option (Instr × Nat))) := [[some (.aload_n 0, 1), some (.getfield 60, 3), none, none, some (.getfield 285, 3), none, none, some (.ifCond .le 19, 3), none, none, some (.aload_n 0, 1), some (.aload_n 0, 1), some (.getfield 60, 3), none, none, some (.getfield 236, 3), none, none, some (.iconst 1, 1), some (.iadd, 1), some (.invokevirtual 282, 3), none, none, some (.goto 5, 3), none, none, some (.bipush (-2), 2), none, some (.ireturn, 1)]]
def ft_I257 : List (List (Option (Instr × Nat))) := [[some (.aload_n 0, 1), some (.invokevirtual 160, 3), none, none, some (.ifCond .ne 6, 3), none, none, some (.bipush (-2), 2), none, some (.ireturn, 1), some (.aload_n 0, 1), some (.getfield 96, 3), none, none, some (.istore_n 1, 1), some (.aload_n 0, 1), some (.iconst 0, 1), some (.putfield 96, 3), none, none, some (.aload_n 0, 1), some (.bipush (-2), 2), none, some (.putfield 76, 3), none, none, some (.aload_n 0, 1), some (.getfield 53, 3), none, none, some (.aload_n 0, 1), some (.getfield 16, 3)], [none, none, some (.aload_n 0, 1), some (.getfield 69, 3), none, none, some (.aload_n 0, 1), some (.getfield 9, 3), none, none, some (.iload_n 1, 1), some (.invokevirtual 291, 3), none, none, some (.istore_n 2, 1), some (.iload_n 2, 1), some (.ifCond .eq 19, 3), none, none, some (.aload_n 0, 1), some (.aload_n 0, 1), some (.getfield 53, 3), none, none, some (.getfield 295, 3), none, none, some (.putfield 76, 3), none, none, some (.bipush (-10), 2)], [some (.iload_n 2, 1), some (.isub, 1), some (.ireturn, 1), some (.aload_n 0, 1), some (.getfield 53, 3), none, none, some (.invokevirtual 296, 3), none, none, some (.ireturn, 1)]]
def ft_I258 : List (List (Option (Instr × Nat))) := [[some (.aload_n 0, 1), some (.aload_n 2, 1), some (.putfield 59, 3), none, none, some (.aload_n 0, 1), some (.iconst 0, 1), some (.putfield 49, 3), none, none, some (.aload_n 0, 1), some (.iconst 0, 1), some (.putfield 53, 3), none, none, some (.aload_n 3, 1), some (.iconst 0, 1), some (.aload_n 0, 1), some (.getfield 14, 3), none, none, some (.getfield 62, 3), none, none, some (.iconst 0, 1), some (.aaload, 1), some (.iconst 0, 1), some (.iload 4, 2), none, some (.invokestatic 66, 3)], [some (.aload_n 0, 1), some (.getfield 14, 3), none, none, some (.getfield 72, 3), none, none, some (.iconst 0, 1), some (.iload 4, 2), none, some (.iastore, 1), some (.aload_n 1, 1), some (.aload_n 0, 1), some (.getfield 14, 3), none, none, some (.invokevirtual 75, 3), none, none, some (.istore 5, 2), none, some (.aload_n 0, 1), some (.aload_n 1, 1), some (.getfield 81, 3), none, none, some (.putfield 20, 3), none, none, some (.iload 5, 2), none, some (.ifCond .ne 17, 3)], [none, none, some (.aload_n 0, 1), some (.aload_n 1, 1), some (.getfield 82, 3), none, none, some (.putfield 86, 3), none, none, some (.aload_n 0, 1), some (.invokevirtual 87, 3), none, none, some (.istore 5, 2), none, some (.aload_n 0, 1), some (.iload 5, 2), none, some (.ifCond .ne 7, 3), none, none, some (.iconst 1, 1), some (.goto 4, 3), none, none, some (.iconst 0, 1), some (.putfield 49, 3), none, none, some (.iload 5, 2)], [some (.ireturn, 1)]]
def ft_I259 : List (List (Option (Instr × Nat))) := [[some (.aload_n 0, 1), some (.aload_n 1, 1), some (.invokevirtual 43, 3), none, none, some (.aload_n 0, 1), some (.iconst 1, 1), some (.putfield 47, 3), none, none, some (.aload_n 0, 1), some (.iconst 1, 1), some (.putfield 51, 3), none, none, some (.aload_n 0, 1), some (.iconst 0, 1), some (.bipush 100, 2), none, some (.invokevirtual 60, 3), none, none, some (.aload_n 0, 1), some (.aload_n 0, 1), some (.iconst 0, 1), some (.invokevirtual 76, 3), none, none, some (.putfield 80, 3), none, none, some (.aload_n 0, 1)], [some (.aload_n 0, 1), some (.invokevirtual 65, 3), none, none, some (.bipush 53, 2), none, some (.if_icmp .ne 7, 3), none, none, some (.iconst 1, 1), some (.goto 4, 3), none, none, some (.iconst 0, 1), some (.invokevirtual 73, 3), none, none, some (.aload_n 0, 1), some (.iconst 0, 1), some (.putfield 51, 3), none, none, some (.aload_n 0, 1), some (.iconst 0, 1), some (.invokevirtual 76, 3), none, none, some (.pop, 1), some (.aload_n 0, 1), some (.aload_n 0, 1), some (.invokevirtual 65, 3)], [none, some (.iconst 1, 1), some (.if_icmp .ne 7, 3), none, none, some (.iconst 1, 1), some (.goto 4, 3), none, none, some (.iconst 0, 1), some (.invokevirtual 73, 3), none, none, some (.aload_n 0, 1), some (.getfield 39, 3), none, none, some (.ireturn, 1)]]
def ft_I269 : List (List (Option (Instr × Nat))) := [[some (.iload_n 2, 1), some (.ifCond .lt 8, 3), none, none, some (.iload_n 2, 1), some (.iconst 1, 1), some (.if_icmp .le 5, 3), none, none, some (.iconst (-1), 1), some (.ireturn, 1), some (.aload_n 0, 1), some (.getfield 53, 3), none, none, some (.iload_n 1, 1), some (.invokevirtual 300, 3), none, none, some (.astore_n 3, 1), some (.aload_n 3, 1), some (.ifnonnull 5, 3), none, none, some (.iconst (-1), 1), some (.ireturn, 1), some (.aload_n 0, 1), some (.getfield 69, 3), none, none, some (.getfield 179, 3)], [none, some (.iload_n 2, 1), some (.ifCond .ne 10, 3), none, none, some (.aload_n 3, 1), some (.getfield 304, 3), none, none, some (.goto 7, 3), none, none, some (.aload_n 3, 1), some (.getfield 307, 3), none, none, some (.iaload, 1), some (.ireturn, 1)]]
def ft_I270 : List (List (Option (Instr × Nat))) := [[some (.iload_n 1, 1), some (.ifCond .lt 28, 3), none, none, some (.iload_n 1, 1), some (.aload_n 0, 1), some (.getfield 53, 3), none, none, some (.if_icmp .ge 20, 3), none, none, some (.aload_n 0, 1), some (.getfield 59, 3), none, none, some (.getfield 116, 3), none, none, some (.aload_n 0, 1), some (.getfield 24, 3), none, none, some (.iload_n 1, 1), some (.iaload, 1), some (.aaload, 1), some (.goto 4, 3), none, none, some (.aconst_null, 1), some (.areturn, 1)]]
def ft_I271 : List (List (Option (Instr × Nat))) := [[some (.aload_n 0, 1), some (.invokevirtual 160, 3), none, none, some (.ifCond .eq 13, 3), none, none, some (.aload_n 0, 1), some (.getfield 53, 3), none, none, some (.getfield 310, 3), none, none, some (.ifCond .ne 6, 3), none, none, some (.bipush (-2), 2), none, some (.ireturn, 1), some (.aload_n 0, 1), some (.getfield 53, 3), none, none, some (.getfield 313, 3), none, none, some (.ifCond .ne 16, 3), none, none, some (.aload_n 0, 1), some (.iconst 0, 1)], [some (.putfield 144, 3), none, none, some (.aload_n 0, 1), some (.bipush (-2), 2), none, some (.putfield 76, 3), none, none, some (.iconst 1, 1), some (.ireturn, 1), some (.aload_n 0, 1), some (.getfield 46, 3), none, none, some (.aload_n 0, 1), some (.getfield 69, 3), none, none, some (.aload_n 0, 1), some (.getfield 9, 3), none, none, some (.iconst 0, 1), some (.invokevirtual 247, 3), none, none, some (.aload_n 0, 1), some (.getfield 53, 3), none, none, some (.aload_n 0, 1)], [some (.getfield 37, 3), none, none, some (.invokevirtual 316, 3), none, none, some (.aload_n 0, 1), some (.getfield 46, 3), none, none, some (.aload_n 0, 1), some (.getfield 16, 3), none, none, some (.aload_n 0, 1), some (.getfield 23, 3), none, none, some (.aload_n 0, 1), some (.getfield 73, 3), none, none, some (.invokevirtual 255, 3), none, none, some (.istore_n 1, 1), some (.aload_n 0, 1), some (.iload_n 1, 1), some (.ifCond .ne 7, 3), none, none, some (.iconst 1, 1)], [some (.goto 4, 3), none, none, some (.iconst 0, 1), some (.putfield 144, 3), none, none, some (.aload_n 0, 1), some (.aload_n 0, 1), some (.getfield 144, 3), none, none, some (.ifCond .eq 8, 3), none, none, some (.bipush (-2), 2), none, some (.goto 10, 3), none, none, some (.aload_n 0, 1), some (.getfield 46, 3), none, none, some (.getfield 259, 3), none, none, some (.putfield 76, 3), none, none, some (.iload_n 1, 1), some (.ireturn, 1)]]
def ft_I274 : List (List (Option (Instr × Nat))) := [[some (.iload_n 1, 1), some (.iconst 5, 1), some (.if_icmp .lt 9, 3), none, none, some (.iload_n 1, 1), some (.bipush 100, 2), none, some (.if_icmp .le 5, 3), none, none, some (.iconst (-1), 1), some (.ireturn, 1), some (.aload_n 0, 1), some (.invokevirtual 160, 3), none, none, some (.ifCond .eq 18, 3), none, none, some (.aload_n 0, 1), some (.getfield 53, 3), none, none, some (.aload_n 0, 1), some (.getfield 69, 3), none, none, some (.iload_n 1, 1), some (.invokevirtual 319, 3)], [some (.goto 5, 3), none, none, some (.bipush (-2), 2), none, some (.ireturn, 1)]]
def ft_I275 : List (List (Option (Instr × Nat))) := [[some (.aload_n 0, 1), some (.aload_n 1, 1), some (.putfield 59, 3), none, none, some (.aload_n 0, 1), some (.iconst 0, 1), some (.putfield 56, 3), none, none, some (.aload_n 0, 1), some (.getfield 34, 3), none, none, some (.iconst (-1), 1), some (.invokestatic 146, 3), none, none, some (.iconst 0, 1), some (.istore_n 3, 1), some (.iload_n 3, 1), some (.aload_n 0, 1), some (.getfield 59, 3), none, none, some (.getfield 94, 3), none, none, some (.if_icmp .ge 55, 3), none, none, some (.aload_n 0, 1)], [some (.getfield 59, 3), none, none, some (.getfield 209, 3), none, none, some (.iload_n 3, 1), some (.iaload, 1), some (.istore 4, 2), none, some (.aload_n 0, 1), some (.getfield 37, 3), none, none, some (.iload_n 3, 1), some (.iload 4, 2), none, some (.ifCond .lt 13, 3), none, none, some (.aload_n 0, 1), some (.getfield 34, 3), none, none, some (.iload 4, 2), none, some (.iaload, 1), some (.goto 4, 3), none, none, some (.iconst (-1), 1), some (.iastore, 1)], [some (.iload 4, 2), none, some (.ifCond .lt 11, 3), none, none, some (.aload_n 0, 1), some (.getfield 34, 3), none, none, some (.iload 4, 2), none, some (.iload_n 3, 1), some (.iastore, 1), some (.iinc 3 1, 3), none, none, some (.goto (-60), 3), none, none, some (.iconst 0, 1), some (.istore_n 3, 1), some (.iconst 0, 1), some (.istore 4, 2), none, some (.iload 4, 2), none, some (.aload_n 0, 1), some (.getfield 59, 3), none, none, some (.getfield 242, 3)], [none, some (.if_icmp .ge 48, 3), none, none, some (.aload_n 0, 1), some (.getfield 59, 3), none, none, some (.getfield 245, 3), none, none, some (.iload 4, 2), none, some (.aaload, 1), some (.iload_n 2, 1), some (.invokestatic 249, 3), none, none, some (.ifCond .eq 25, 3), none, none, some (.aload_n 0, 1), some (.getfield 40, 3), none, none, some (.iload_n 3, 1), some (.aload_n 0, 1), some (.getfield 59, 3), none, none, some (.getfield 245, 3)], [none, some (.iload 4, 2), none, some (.aaload, 1), some (.getfield 253, 3), none, none, some (.iastore, 1), some (.iinc 3 1, 3), none, none, some (.iinc 4 1, 3), none, none, some (.goto (-54), 3), none, none, some (.iconst 0, 1), some (.istore 4, 2), none, some (.iload 4, 2), none, some (.iload_n 3, 1), some (.if_icmp .ge 120, 3), none, none, some (.iload 4, 2), none, some (.iconst 1, 1), some (.iadd, 1), some (.istore 5, 2)], [some (.iload 5, 2), none, some (.iload_n 3, 1), some (.if_icmp .ge 102, 3), none, none, some (.aload_n 0, 1), some (.getfield 56, 3), none, none, some (.sipush 1000, 3), none, none, some (.if_icmp .ge 92, 3), none, none, some (.aload_n 0, 1), some (.getfield 40, 3), none, none, some (.iload 5, 2), none, some (.iaload, 1), some (.aload_n 0, 1), some (.getfield 40, 3), none, none, some (.iload 4, 2), none, some (.iaload, 1), some (.iload_n 2, 1), some (.iadd, 1)], [some (.if_icmp .lt 67, 3), none, none, some (.aload_n 0, 1), some (.aload_n 0, 1), some (.getfield 40, 3), none, none, some (.iload 4, 2), none, some (.iaload, 1), some (.aload_n 0, 1), some (.getfield 40, 3), none, none, some (.iload 5, 2), none, some (.iaload, 1), some (.iload_n 2, 1), some (.invokevirtual 254, 3), none, none, some (.ifCond .eq 45, 3), none, none, some (.aload_n 0, 1), some (.getfield 43, 3), none, none, some (.aload_n 0, 1), some (.getfield 56, 3)], [none, some (.aload_n 0, 1), some (.getfield 40, 3), none, none, some (.iload 4, 2), none, some (.iaload, 1), some (.iastore, 1), some (.aload_n 0, 1), some (.getfield 46, 3), none, none, some (.aload_n 0, 1), some (.getfield 56, 3), none, none, some (.aload_n 0, 1), some (.getfield 40, 3), none, none, some (.iload 5, 2), none, some (.iaload, 1), some (.iastore, 1), some (.aload_n 0, 1), some (.dup, 1), some (.getfield 56, 3), none, none, some (.iconst 1, 1), some (.iadd, 1)], [some (.putfield 56, 3), none, none, some (.iinc 5 1, 3), none, none, some (.goto (-102), 3), none, none, some (.iinc 4 1, 3), none, none, some (.goto (-120), 3), none, none, some (.aload_n 0, 1), some (.getfield 56, 3), none, none, some (.ireturn, 1)]]
def ft_I278 : List (List (Option (Instr × Nat))) := [[some (.iload_n 2, 1), some (.ifCond .lt 23, 3), none, none, some (.iload_n 2, 1), some (.iconst 1, 1), some (.if_icmp .gt 18, 3), none, none, some (.iload_n 1, 1), some (.ifCond .lt 14, 3), none, none, some (.iload_n 1, 1), some (.aload_n 0, 1), some (.getfield 53, 3), none, none, some (.getfield 323, 3), none, none, some (.if_icmp .lt 5, 3), none, none, some (.iconst (-1), 1), some (.ireturn, 1), some (.aload_n 0, 1), some (.getfield 69, 3), none, none, some (.getfield 179, 3)], [none, some (.iload_n 2, 1), some (.ifCond .ne 15, 3), none, none, some (.aload_n 0, 1), some (.getfield 53, 3), none, none, some (.getfield 326, 3), none, none, some (.iload_n 1, 1), some (.iaload, 1), some (.goto 12, 3), none, none, some (.aload_n 0, 1), some (.getfield 53, 3), none, none, some (.getfield 329, 3), none, none, some (.iload_n 1, 1), some (.iaload, 1), some (.iaload, 1), some (.ireturn, 1)]]
def ft_I279 : List (List (Option (Instr × Nat))) := [[some (.aload_n 0, 1), some (.invokespecial 383, 3), none, none, some (.aload_n 0, 1), some (.sipush 4000, 3), none, none, some (.newarray .byte, 2), none, some (.putfield 388, 3), none, none, some (.aload_n 0, 1), some (.new 273, 3), none, none, some (.dup, 1), some (.ldc_w 392, 3), none, none, some (.invokespecial 393, 3), none, none, some (.putfield 22, 3), none, none, some (.aload_n 0, 1), some (.new 273, 3), none, none, some (.dup, 1)], [some (.ldc_w 396, 3), none, none, some (.invokespecial 393, 3), none, none, some (.putfield 202, 3), none, none, some (.aload_n 0, 1), some (.sipush 300, 3), none, none, some (.newarray .int, 2), none, some (.putfield 380, 3), none, none, some (.aload_n 0, 1), some (.bipush 50, 2), none, some (.newarray .int, 2), none, some (.putfield 397, 3), none, none, some (.aload_n 0, 1), some (.aload_n 0, 1), some (.getfield 397, 3), none, none, some (.putfield 223, 3)], [none, none, some (.aload_n 0, 1), some (.sipush 2408, 3), none, none, some (.newarray .int, 2), none, some (.putfield 253, 3), none, none, some (.aload_n 0, 1), some (.sipush 401, 3), none, none, some (.newarray .int, 2), none, some (.putfield 318, 3), none, none, some (.aload_n 0, 1), some (.sipush 401, 3), none, none, some (.newarray .int, 2), none, some (.putfield 321, 3), none, none, some (.aload_n 0, 1), some (.sipush 1024, 3)], [none, some (.newarray .int, 2), none, some (.putfield 343, 3), none, none, some (.aload_n 0, 1), some (.sipush 1024, 3), none, none, some (.newarray .int, 2), none, some (.putfield 315, 3), none, none, some (.aload_n 0, 1), some (.sipush 2048, 3), none, none, some (.newarray .int, 2), none, some (.putfield 57, 3), none, none, some (.aload_n 0, 1), some (.sipush 2048, 3), none, none, some (.newarray .int, 2), none, some (.putfield 67, 3)], [none, some (.aload_n 0, 1), some (.sipush 2048, 3), none, none, some (.newarray .int, 2), none, some (.putfield 70, 3), none, none, some (.aload_n 0, 1), some (.sipush 2408, 3), none, none, some (.newarray .int, 2), none, some (.putfield 181, 3), none, none, some (.aload_n 0, 1), some (.bipush 8, 2), none, some (.newarray .int, 2), none, some (.putfield 187, 3), none, none, some (.aload_n 0, 1), some (.bipush 8, 2), none, some (.newarray .int, 2)], [some (.putfield 153, 3), none, none, some (.aload_n 0, 1), some (.sipush 4816, 3), none, none, some (.newarray .int, 2), none, some (.putfield 73, 3), none, none, some (.aload_n 0, 1), some (.sipush 4816, 3), none, none, some (.newarray .int, 2), none, some (.putfield 96, 3), none, none, some (.aload_n 0, 1), some (.sipush 1024, 3), none, none, some (.newarray .int, 2), none, some (.putfield 285, 3), none, none, some (.aload_n 0, 1), some (.bipush 64, 2)], [none, some (.newarray .int, 2), none, some (.putfield 288, 3), none, none, some (.aload_n 0, 1), some (.bipush 64, 2), none, some (.newarray .int, 2), none, some (.putfield 291, 3), none, none, some (.aload_n 0, 1), some (.bipush 64, 2), none, some (.newarray .int, 2), none, some (.putfield 294, 3), none, none, some (.aload_n 0, 1), some (.bipush 64, 2), none, some (.newarray .int, 2), none, some (.putfield 297, 3), none, none, some (.aload_n 0, 1), some (.bipush 64, 2)], [none, some (.newarray .int, 2), none, some (.putfield 300, 3), none, none, some (.aload_n 0, 1), some (.bipush 64, 2), none, some (.newarray .int, 2), none, some (.putfield 303, 3), none, none, some (.aload_n 0, 1), some (.sipush 19264, 3), none, none, some (.newarray .int, 2), none, some (.putfield 333, 3), none, none, some (.aload_n 0, 1), some (.sipush 19264, 3), none, none, some (.newarray .int, 2), none, some (.putfield 336, 3)], [some (.aload_n 0, 1), some (.new 40, 3), none, none, some (.dup, 1), some (.aload_n 0, 1), some (.invokespecial 400, 3), none, none, some (.putfield 403, 3), none, none, some (.aload_n 0, 1), some (.new 40, 3), none, none, some (.dup, 1), some (.aload_n 0, 1), some (.invokespecial 400, 3), none, none, some (.putfield 406, 3), none, none, some (.aload_n 0, 1), some (.new 40, 3), none, none, some (.dup, 1), some (.aload_n 0, 1), some (.invokespecial 400, 3)], [none, some (.putfield 409, 3), none, none, some (.aload_n 0, 1), some (.new 40, 3), none, none, some (.dup, 1), some (.aload_n 0, 1), some (.invokespecial 400, 3), none, none, some (.putfield 412, 3), none, none, some (.aload_n 0, 1), some (.bipush (-2), 2), none, some (.putfield 415, 3), none, none, some (.aload_n 0, 1), some (.bipush 13, 2), none, some (.iconst 4, 1), some (.sipush 3000, 3), none, none, some (.multianewarray 418 3, 4)], [none, some (.putfield 420, 3), none, none, some (.aload_n 0, 1), some (.bipush 52, 2), none, some (.newarray .int, 2), none, some (.putfield 423, 3), none, none, some (.aload_n 0, 1), some (.sipush 256, 3), none, none, some (.newarray .int, 2), none, some (.putfield 426, 3), none, none, some (.aload_n 0, 1), some (.sipush 256, 3), none, none, some (.newarray .int, 2), none, some (.putfield 429, 3), none, none, some (.aload_n 0, 1), some (.sipush 257, 3)], [none, none, some (.newarray .int, 2), none, some (.putfield 432, 3), none, none, some (.aload_n 0, 1), some (.sipush 256, 3), none, none, some (.newarray .int, 2), none, some (.putfield 435, 3), none, none, some (.aload_n 0, 1), some (.sipush 256, 3), none, none, some (.newarray .boolean, 2), none, some (.putfield 438, 3), none, none, some (.aload_n 0, 1), some (.sipush 1024, 3), none, none, some (.newarray .int, 2), none, some (.putfield 441, 3)], [none, none, some (.aload_n 0, 1), some (.sipush 1024, 3), none, none, some (.newarray .int, 2), none, some (.putfield 444, 3), none, none, some (.aload_n 0, 1), some (.sipush 1024, 3), none, none, some (.newarray .int, 2), none, some (.putfield 447, 3), none, none, some (.aload_n 0, 1), some (.sipush 256, 3), none, none, some (.newarray .byte, 2), none, some (.putfield 450, 3), none, none, some (.aload_n 0, 1), some (.sipush 4000, 3)], [none, some (.newarray .byte, 2), none, some (.putfield 453, 3), none, none, some (.aload_n 0, 1), some (.sipush 256, 3), none, none, some (.newarray .int, 2), none, some (.putfield 456, 3), none, none, some (.aload_n 0, 1), some (.sipush 256, 3), none, none, some (.newarray .int, 2), none, some (.putfield 459, 3), none, none, some (.aload_n 0, 1), some (.sipush 12000, 3), none, none, some (.newarray .int, 2), none, some (.putfield 462, 3)], [none, some (.aload_n 0, 1), some (.iconst 4, 1), some (.newarray .int, 2), none, some (.putfield 465, 3), none, none, some (.aload_n 0, 1), some (.sipush 2408, 3), none, none, some (.newarray .int, 2), none, some (.putfield 468, 3), none, none, some (.aload_n 0, 1), some (.sipush 2408, 3), none, none, some (.newarray .boolean, 2), none, some (.putfield 471, 3), none, none, some (.aload_n 0, 1), some (.sipush 4816, 3), none, none, some (.newarray .int, 2)], [some (.putfield 474, 3), none, none, some (.aload_n 0, 1), some (.bipush 26, 2), none, some (.newarray .int, 2), none, some (.putfield 477, 3), none, none, some (.aload_n 0, 1), some (.sipush 1000, 3), none, none, some (.newarray .int, 2), none, some (.putfield 480, 3), none, none, some (.aload_n 0, 1), some (.sipush 1000, 3), none, none, some (.newarray .int, 2), none, some (.putfield 483, 3), none, none, some (.aload_n 0, 1), some (.sipush 2408, 3)], [none, some (.newarray .int, 2), none, some (.putfield 486, 3), none, none, some (.aload_n 0, 1), some (.sipush 2408, 3), none, none, some (.newarray .int, 2), none, some (.putfield 489, 3), none, none, some (.aload_n 0, 1), some (.sipush 2408, 3), none, none, some (.newarray .int, 2), none, some (.putfield 492, 3), none, none, some (.aload_n 0, 1), some (.sipush 2408, 3), none, none, some (.newarray .int, 2), none, some (.putfield 495, 3)], [none, some (.aload_n 0, 1), some (.sipush 2408, 3), none, none, some (.newarray .int, 2), none, some (.putfield 498, 3), none, none, some (.aload_n 0, 1), some (.sipush 2408, 3), none, none, some (.newarray .int, 2), none, some (.putfield 501, 3), none, none, some (.aload_n 0, 1), some (.sipush 2408, 3), none, none, some (.newarray .boolean, 2), none, some (.putfield 504, 3), none, none, some (.aload_n 0, 1), some (.bipush (-2), 2), none, some (.putfield 507, 3)], [none, none, some (.aload_n 0, 1), some (.sipush 300, 3), none, none, some (.newarray .int, 2), none, some (.putfield 510, 3), none, none, some (.aload_n 0, 1), some (.bipush 8, 2), none, some (.newarray .int, 2), none, some (.putfield 513, 3), none, none, some (.aload_n 0, 1), some (.sipush 300, 3), none, none, some (.newarray .int, 2), none, some (.putfield 516, 3), none, none, some (.aload_n 0, 1), some (.getfield 403, 3)], [some (.invokevirtual 519, 3), none, none, some (.pop, 1), some (.aload_n 0, 1), some (.iconst 0, 1), some (.invokevirtual 522, 3), none, none, some (.return_, 1)]]
def ft_I280 : List (List (Option (Instr × Nat))) := [[some (.aload_n 0, 1), some (.aload_n 1, 1), some (.putfield 3, 3), none, none, some (.aload_n 0, 1), some (.invokespecial 9, 3), none, none, some (.aload_n 0, 1), some (.iconst 4, 1), some (.sipush 4000, 3), none, none, some (.multianewarray 15 2, 4), none, none, none, some (.putfield 17, 3), none, none, some (.aload_n 0, 1), some (.iconst 4, 1), some (.newarray .int, 2), none, some (.putfield 20, 3), none, none, some (.aload_n 0, 1), some (.new 24, 3)], [some (.dup, 1), some (.invokespecial 26, 3), none, none, some (.putfield 27, 3), none, none, some (.aload_n 0, 1), some (.iconst 5, 1), some (.newarray .int, 2), none, some (.putfield 31, 3), none, none, some (.aload_n 0, 1), some (.sipush 4816, 3), none, none, some (.newarray .int, 2), none, some (.putfield 34, 3), none, none, some (.aload_n 0, 1), some (.sipush 4816, 3), none, none, some (.newarray .int, 2), none, some (.putfield 37, 3)], [some (.aload_n 0, 1), some (.sipush 4816, 3), none, none, some (.newarray .int, 2), none, some (.putfield 40, 3), none, none, some (.aload_n 0, 1), some (.sipush 4816, 3), none, none, some (.newarray .int, 2), none, some (.putfield 43, 3), none, none, some (.aload_n 0, 1), some (.sipush 4816, 3), none, none, some (.newarray .int, 2), none, some (.putfield 46, 3), none, none, some (.aload_n 0, 1), some (.sipush 4816, 3), none, none, some (.newarray .int, 2)], [none, some (.putfield 49, 3), none, none, some (.aload_n 0, 1), some (.sipush 4816, 3), none, none, some (.newarray .int, 2), none, some (.putfield 52, 3), none, none, some (.aload_n 0, 1), some (.sipush 4816, 3), none, none, some (.newarray .int, 2), none, some (.putfield 55, 3), none, none, some (.aload_n 0, 1), some (.sipush 4816, 3), none, none, some (.newarray .int, 2), none, some (.putfield 58, 3), none, none, some (.aload_n 0, 1)], [some (.sipush 4816, 3), none, none, some (.newarray .int, 2), none, some (.putfield 61, 3), none, none, some (.aload_n 0, 1), some (.sipush 4816, 3), none, none, some (.newarray .int, 2), none, some (.putfield 64, 3), none, none, some (.aload_n 0, 1), some (.sipush 2408, 3), none, none, some (.newarray .int, 2), none, some (.putfield 67, 3), none, none, some (.aload_n 0, 1), some (.sipush 2408, 3), none, none, some (.newarray .int, 2)], [some (.putfield 70, 3), none, none, some (.aload_n 0, 1), some (.sipush 2408, 3), none, none, some (.newarray .int, 2), none, some (.putfield 73, 3), none, none, some (.aload_n 0, 1), some (.sipush 2408, 3), none, none, some (.newarray .int, 2), none, some (.putfield 76, 3), none, none, some (.aload_n 0, 1), some (.sipush 2408, 3), none, none, some (.newarray .boolean, 2), none, some (.putfield 79, 3), none, none, some (.aload_n 0, 1), some (.sipush 2408, 3)], [none, none, some (.newarray .int, 2), none, some (.putfield 83, 3), none, none, some (.aload_n 0, 1), some (.sipush 2408, 3), none, none, some (.newarray .int, 2), none, some (.putfield 86, 3), none, none, some (.aload_n 0, 1), some (.sipush 2408, 3), none, none, some (.newarray .int, 2), none, some (.putfield 89, 3), none, none, some (.aload_n 0, 1), some (.sipush 2408, 3), none, none, some (.newarray .int, 2), none, some (.putfield 92, 3)], [none, none, some (.aload_n 0, 1), some (.sipush 2408, 3), none, none, some (.newarray .int, 2), none, some (.putfield 95, 3), none, none, some (.aload_n 0, 1), some (.bipush 8, 2), none, some (.newarray .int, 2), none, some (.putfield 98, 3), none, none, some (.aload_n 0, 1), some (.bipush 8, 2), none, some (.newarray .int, 2), none, some (.putfield 101, 3), none, none, some (.aload_n 0, 1), some (.sipush 2408, 3), none, none, some (.newarray .int, 2)], [none, some (.putfield 104, 3), none, none, some (.aload_n 0, 1), some (.sipush 2408, 3), none, none, some (.newarray .int, 2), none, some (.putfield 107, 3), none, none, some (.aload_n 0, 1), some (.sipush 2408, 3), none, none, some (.newarray .int, 2), none, some (.putfield 110, 3), none, none, some (.aload_n 0, 1), some (.bipush 26, 2), none, some (.newarray .int, 2), none, some (.putfield 113, 3), none, none, some (.aload_n 0, 1), some (.sipush 2408, 3)], [none, none, some (.newarray .int, 2), none, some (.putfield 116, 3), none, none, some (.aload_n 0, 1), some (.sipush 192, 3), none, none, some (.newarray .int, 2), none, some (.putfield 119, 3), none, none, some (.aload_n 0, 1), some (.sipush 192, 3), none, none, some (.newarray .int, 2), none, some (.putfield 122, 3), none, none, some (.aload_n 0, 1), some (.sipush 2408, 3), none, none, some (.newarray .int, 2), none, some (.putfield 125, 3)], [none, none, some (.aload_n 0, 1), some (.bipush 8, 2), none, some (.newarray .int, 2), none, some (.putfield 128, 3), none, none, some (.aload_n 0, 1), some (.sipush 12000, 3), none, none, some (.newarray .int, 2), none, some (.putfield 131, 3), none, none, some (.return_, 1)]]
def ft_I281 : List (List (Option (Instr × Nat))) := [[some (.aload_n 0, 1), some (.invokespecial 3, 3), none, none, some (.aload_n 0, 1), some (.sipush 2408, 3), none, none, some (.newarray .int, 2), none, some (.putfield 9, 3), none, none, some (.aload_n 0, 1), some (.sipush 2408, 3), none, none, some (.newarray .int, 2), none, some (.putfield 15, 3), none, none, some (.aload_n 0, 1), some (.sipush 2408, 3), none, none, some (.newarray .int, 2), none, some (.putfield 18, 3), none, none, some (.aload_n 0, 1)], [some (.sipush 2408, 3), none, none, some (.newarray .int, 2), none, some (.putfield 21, 3), none, none, some (.aload_n 0, 1), some (.sipush 2408, 3), none, none, some (.newarray .int, 2), none, some (.putfield 24, 3), none, none, some (.return_, 1)]]
def ft_I282 : List (List (Option (Instr × Nat))) := [[some (.aload_n 0, 1), some (.invokevirtual 444, 3), none, none, some (.iconst 0, 1), some (.istore_n 1, 1), some (.iconst 0, 1), some (.istore_n 2, 1), some (.iload_n 2, 1), some (.iconst 4, 1), some (.if_icmp .ge 22, 3), none, none, some (.aload_n 0, 1), some (.invokevirtual 447, 3), none, none, some (.istore_n 3, 1), some (.aload_n 0, 1), some (.iload_n 2, 1), some (.iload_n 3, 1), some (.iload_n 1, 1), some (.iadd, 1), some (.invokevirtual 450, 3), none, none, some (.iinc 2 1, 3), none, none, some (.goto (-21), 3)], [some (.aload_n 0, 1), some (.getfield 31, 3), none, none, some (.iconst 4, 1), some (.aload_n 0, 1), some (.getfield 27, 3), none, none, some (.getfield 204, 3), none, none, some (.iastore, 1), some (.aload_n 0, 1), some (.invokevirtual 453, 3), none, none, some (.ireturn, 1)]]
def ft_I283 : List (List (Option (Instr × Nat))) := [[some (.aload_n 0, 1), some (.iconst 0, 1), some (.putfield 441, 3), none, none, some (.aload_n 0, 1), some (.getfield 27, 3), none, none, some (.iconst 0, 1), some (.putfield 204, 3), none, none, some (.aload_n 0, 1), some (.iconst 0, 1), some (.putfield 192, 3), none, none, some (.aload_n 0, 1), some (.iconst 0, 1), some (.putfield 201, 3), none, none, some (.return_, 1)]]
def ft_I284 : List (List (Option (Instr × Nat))) := [[some (.iconst 0, 1), some (.istore_n 1, 1), some (.iconst 0, 1), some (.istore_n 2, 1), some (.iload_n 2, 1), some (.aload_n 0, 1), some (.getfield 201, 3), none, none, some (.if_icmp .ge 26, 3), none, none, some (.iload_n 1, 1), some (.aload_n 0, 1), some (.getfield 67, 3), none, none, some (.iload_n 2, 1), some (.iaload, 1), some (.ifCond .ne 7, 3), none, none, some (.iconst 1, 1), some (.goto 4, 3), none, none, some (.iconst 0, 1), some (.iadd, 1), some (.istore_n 1, 1), some (.iinc 2 1, 3)], [some (.goto (-28), 3), none, none, some (.iload_n 1, 1), some (.ireturn, 1)]]
def ft_I285 : List (List (Option (Instr × Nat))) := [[some (.aload_n 0, 1), some (.aload_n 0, 1), some (.getfield 27, 3), none, none, some (.getfield 204, 3), none, none, some (.putfield 157, 3), none, none, some (.aload_n 0, 1), some (.getfield 31, 3), none, none, some (.iload_n 1, 1), some (.aload_n 0, 1), some (.getfield 157, 3), none, none, some (.iastore, 1), some (.aload_n 0, 1), some (.aload_n 0, 1), some (.getfield 157, 3), none, none, some (.putfield 141, 3), none, none, some (.aload_n 0, 1), some (.sipush 600, 3)], [none, some (.putfield 160, 3), none, none, some (.aload_n 0, 1), some (.iload_n 2, 1), some (.putfield 207, 3), none, none, some (.aload_n 0, 1), some (.iconst 0, 1), some (.putfield 210, 3), none, none, some (.aload_n 0, 1), some (.getfield 27, 3), none, none, some (.aload_n 0, 1), some (.getfield 17, 3), none, none, some (.iload_n 1, 1), some (.aaload, 1), some (.aload_n 0, 1), some (.getfield 20, 3), none, none, some (.iload_n 1, 1), some (.iaload, 1), some (.iload_n 1, 1), some (.iconst 0, 1)], [some (.sipush 600, 3), none, none, some (.invokevirtual 214, 3), none, none, some (.iconst 0, 1), some (.istore_n 3, 1), some (.aload_n 0, 1), some (.invokevirtual 153, 3), none, none, some (.ifCond .eq 26, 3), none, none, some (.aload_n 0, 1), some (.iconst 0, 1), some (.invokevirtual 176, 3), none, none, some (.ifCond .ne 7, 3), none, none, some (.aload_n 0, 1), some (.invokevirtual 182, 3), none, none, some (.aload_n 0, 1), some (.iload_n 3, 1), some (.invokevirtual 218, 3)], [some (.iinc 3 1, 3), none, none, some (.goto (-27), 3), none, none, some (.return_, 1)]]
def ft_I286 : List (List (Option (Instr × Nat))) := [[some (.aload_n 0, 1), some (.getfield 45, 3), none, none, some (.istore 6, 2), none, some (.iconst 0, 1), some (.istore 7, 2), none, some (.iload 7, 2), none, some (.iload_n 2, 1), some (.if_icmp .ge 113, 3), none, none, some (.aload_n 0, 1), some (.getfield 45, 3), none, none, some (.iload 6, 2), none, some (.isub, 1), some (.iload 5, 2), none, some (.if_icmp .gt 101, 3), none, none, some (.aload_n 1, 1), some (.iload 7, 2), none, some (.baload, 1), some (.istore 8, 2)], [none, some (.iload 8, 2), none, some (.bipush 9, 2), none, some (.if_icmp .eq 24, 3), none, none, some (.iload 8, 2), none, some (.bipush 10, 2), none, some (.if_icmp .eq 17, 3), none, none, some (.iload 8, 2), none, some (.bipush 13, 2), none, some (.if_icmp .eq 10, 3), none, none, some (.iload 8, 2), none, some (.bipush 32, 2), none, some (.if_icmp .ne 9, 3), none, none, some (.iinc 7 1, 3)], [some (.goto 58, 3), none, none, some (.iload 8, 2), none, some (.bipush 47, 2), none, some (.if_icmp .ne 38, 3), none, none, some (.aload_n 1, 1), some (.iload 7, 2), none, some (.iconst 1, 1), some (.iadd, 1), some (.iload_n 2, 1), some (.invokestatic 27, 3), none, none, some (.bipush 47, 2), none, some (.if_icmp .ne 24, 3), none, none, some (.iload 7, 2), none, some (.iload_n 2, 1), some (.if_icmp .ge 31, 3), none, none, some (.aload_n 1, 1), some (.iload 7, 2)], [none, some (.baload, 1), some (.bipush 10, 2), none, some (.if_icmp .eq 22, 3), none, none, some (.iinc 7 1, 3), none, none, some (.goto (-18), 3), none, none, some (.aload_n 0, 1), some (.aload_n 1, 1), some (.iload 7, 2), none, some (.iload_n 2, 1), some (.iload_n 3, 1), some (.iload 4, 2), none, some (.invokevirtual 49, 3), none, none, some (.istore 7, 2), none, some (.goto (-113), 3), none, none, some (.aload_n 0, 1), some (.getfield 9, 3)], [none, some (.aload_n 0, 1), some (.getfield 45, 3), none, none, some (.iconst 0, 1), some (.iastore, 1), some (.aload_n 0, 1), some (.getfield 15, 3), none, none, some (.aload_n 0, 1), some (.getfield 45, 3), none, none, some (.iconst (-1), 1), some (.iastore, 1), some (.aload_n 0, 1), some (.getfield 18, 3), none, none, some (.aload_n 0, 1), some (.getfield 45, 3), none, none, some (.iload_n 2, 1), some (.iastore, 1), some (.aload_n 0, 1), some (.getfield 21, 3), none, none, some (.aload_n 0, 1)], [some (.getfield 45, 3), none, none, some (.iconst 0, 1), some (.iastore, 1), some (.aload_n 0, 1), some (.getfield 24, 3), none, none, some (.aload_n 0, 1), some (.getfield 45, 3), none, none, some (.iload_n 3, 1), some (.iastore, 1), some (.return_, 1)]]
def ft_I293 : List (List (Option (Instr × Nat))) := [[some (.aload_n 0, 1), some (.getfield 27, 3), none, none, some (.getfield 140, 3), none, none, some (.aload_n 0, 1), some (.getfield 141, 3), none, none, some (.iaload, 1), some (.iconst (-1), 1), some (.if_icmp .ne 19, 3), none, none, some (.aload_n 0, 1), some (.getfield 3, 3), none, none, some (.iconst 1, 1), some (.aload_n 0, 1), some (.aload_n 0, 1), some (.getfield 141, 3), none, none, some (.invokevirtual 145, 3), none, none, some (.invokevirtual 149, 3)], [some (.aload_n 0, 1), some (.getfield 27, 3), none, none, some (.getfield 140, 3), none, none, some (.aload_n 0, 1), some (.getfield 141, 3), none, none, some (.iaload, 1), some (.ireturn, 1)]]
def ft_I294 : List (List (Option (Instr × Nat))) := [[some (.sipush 10000, 3), none, none, some (.aload_n 0, 1), some (.getfield 27, 3), none, none, some (.getfield 134, 3), none, none, some (.iload_n 1, 1), some (.iaload, 1), some (.imul, 1), some (.aload_n 0, 1), some (.getfield 27, 3), none, none, some (.getfield 137, 3), none, none, some (.iload_n 1, 1), some (.iaload, 1), some (.iadd, 1), some (.ireturn, 1)]]
def ft_I295 : List (List (Option (Instr × Nat))) := [[some (.aload_n 0, 1), some (.iload_n 1, 1), some (.putfield 15, 3), none, none, some (.aload_n 0, 1), some (.iload_n 2, 1), some (.putfield 19, 3), none, none, some (.aload_n 0, 1), some (.getfield 22, 3), none, none, some (.athrow, 1)]]
def ft_I297 : List (List (Option (Instr × Nat))) := [[some (.aload_n 0, 1), some (.invokevirtual 153, 3), none, none, some (.pop, 1), some (.aload_n 0, 1), some (.getfield 3, 3), none, none, some (.iconst 2, 1), some (.aload_n 0, 1), some (.aload_n 0, 1), some (.getfield 141, 3), none, none, some (.invokevirtual 145, 3), none, none, some (.invokevirtual 149, 3), none, none, some (.return_, 1)]]
def ft_I307 : List (List (Option (Instr × Nat))) := [[some (.aload_n 0, 1), some (.invokevirtual 153, 3), none, none, some (.iconst 4, 1), some (.if_icmp .ne 23, 3), none, none, some (.aload_n 0, 1), some (.getfield 27, 3), none, none, some (.getfield 166, 3), none, none, some (.aload_n 0, 1), some (.getfield 141, 3), none, none, some (.iaload, 1), some (.iload_n 1, 1), some (.if_icmp .ne 7, 3), none, none, some (.iconst 1, 1), some (.goto 4, 3), none, none, some (.iconst 0, 1), some (.ireturn, 1)]]
def ft_I314 : List (List (Option (Instr × Nat))) := [[some (.aload_n 0, 1), some (.iconst 1, 1), some (.invokevirtual 267, 3), none, none, some (.ireturn, 1)]]
def ft_I315 : List (List (Option (Instr × Nat))) := [[some (.aload_n 0, 1), some (.getfield 141, 3), none, none, some (.istore_n 2, 1), some (.iload_n 1, 1), some (.bipush 6, 2), none, some (.if_icmp .le 8, 3), none, none, some (.aload_n 0, 1), some (.invokevirtual 270, 3), none, none, some (.ireturn, 1), some (.aload_n 0, 1), some (.iload_n 1, 1), some (.iconst 1, 1), some (.iadd, 1), some (.invokevirtual 267, 3), none, none, some (.istore_n 3, 1), some (.aload_n 0, 1), some (.invokevirtual 153, 3), none, none, some (.iconst 4, 1), some (.if_icmp .ne 63, 3)], [some (.aload_n 0, 1), some (.aload_n 0, 1), some (.getfield 27, 3), none, none, some (.getfield 166, 3), none, none, some (.aload_n 0, 1), some (.getfield 141, 3), none, none, some (.iaload, 1), some (.invokevirtual 273, 3), none, none, some (.iload_n 1, 1), some (.if_icmp .ne 43, 3), none, none, some (.aload_n 0, 1), some (.getfield 27, 3), none, none, some (.getfield 166, 3), none, none, some (.aload_n 0, 1), some (.invokevirtual 173, 3), none, none, some (.iaload, 1)], [some (.istore 4, 2), none, some (.aload_n 0, 1), some (.iload_n 1, 1), some (.iconst 1, 1), some (.iadd, 1), some (.invokevirtual 267, 3), none, none, some (.istore 5, 2), none, some (.aload_n 0, 1), some (.bipush 15, 2), none, some (.iload_n 3, 1), some (.iload 5, 2), none, some (.iload 4, 2), none, some (.iconst (-1), 1), some (.iload_n 2, 1), some (.invokevirtual 254, 3), none, none, some (.istore_n 3, 1), some (.goto (-65), 3), none, none, some (.iload_n 3, 1), some (.ireturn, 1)]]
def ft_I316 : List (List (Option (Instr × Nat))) := [[some (.aload_n 0, 1), some (.getfield 141, 3), none, none, some (.istore_n 1, 1), some (.aload_n 0, 1), some (.bipush 45, 2), none, some (.invokevirtual 169, 3), none, none, some (.ifCond .ne 12, 3), none, none, some (.aload_n 0, 1), some (.bipush 33, 2), none, some (.invokevirtual 169, 3), none, none, some (.ifCond .eq 55, 3), none, none, some (.aload_n 0, 1), some (.bipush 45, 2), none, some (.invokevirtual 169, 3), none, none, some (.istore_n 2, 1), some (.aload_n 0, 1), some (.invokevirtual 173, 3)], [none, none, some (.pop, 1), some (.aload_n 0, 1), some (.invokevirtual 248, 3), none, none, some (.aload_n 0, 1), some (.invokevirtual 270, 3), none, none, some (.istore_n 3, 1), some (.aload_n 0, 1), some (.dup, 1), some (.getfield 189, 3), none, none, some (.iconst 1, 1), some (.isub, 1), some (.putfield 189, 3), none, none, some (.aload_n 0, 1), some (.iload_n 2, 1), some (.ifCond .eq 8, 3), none, none, some (.bipush 13, 2), none, some (.goto 5, 3)], [some (.bipush 14, 2), none, some (.iload_n 3, 1), some (.iconst (-1), 1), some (.iconst (-1), 1), some (.iconst (-1), 1), some (.iload_n 1, 1), some (.invokevirtual 254, 3), none, none, some (.ireturn, 1), some (.aload_n 0, 1), some (.invokevirtual 276, 3), none, none, some (.istore_n 2, 1), some (.aload_n 0, 1), some (.bipush 46, 2), none, some (.invokevirtual 169, 3), none, none, some (.ifCond .eq 59, 3), none, none, some (.aload_n 0, 1), some (.invokevirtual 173, 3), none, none, some (.pop, 1), some (.aload_n 0, 1), some (.invokevirtual 229, 3)], [none, none, some (.istore_n 3, 1), some (.aload_n 0, 1), some (.bipush 40, 2), none, some (.invokevirtual 169, 3), none, none, some (.ifCond .eq 25, 3), none, none, some (.aload_n 0, 1), some (.invokevirtual 279, 3), none, none, some (.istore 4, 2), none, some (.aload_n 0, 1), some (.bipush 12, 2), none, some (.iload_n 2, 1), some (.iload 4, 2), none, some (.iconst (-1), 1), some (.iload_n 3, 1), some (.iload_n 1, 1), some (.invokevirtual 254, 3), none, none, some (.istore_n 2, 1), some (.goto 15, 3)], [none, none, some (.aload_n 0, 1), some (.bipush 11, 2), none, some (.iload_n 2, 1), some (.iconst (-1), 1), some (.iconst (-1), 1), some (.iload_n 3, 1), some (.iload_n 1, 1), some (.invokevirtual 254, 3), none, none, some (.istore_n 2, 1), some (.goto (-62), 3), none, none, some (.iload_n 2, 1), some (.ireturn, 1)]]
def ft_I319 : List (List (Option (Instr × Nat))) := [[some (.aload_n 0, 1), some (.getfield 141, 3), none, none, some (.istore_n 1, 1), some (.aload_n 0, 1), some (.invokevirtual 153, 3), none, none, some (.istore_n 2, 1), some (.iload_n 2, 1), some (.iconst 2, 1), some (.if_icmp .ne 19, 3), none, none, some (.aload_n 0, 1), some (.invokevirtual 173, 3), none, none, some (.pop, 1), some (.aload_n 0, 1), some (.iconst 1, 1), some (.iconst (-1), 1), some (.iconst (-1), 1), some (.iconst (-1), 1), some (.iload_n 1, 1), some (.iload_n 1, 1), some (.invokevirtual 254, 3), none, none, some (.ireturn, 1), some (.iload_n 2, 1)], [some (.iconst 1, 1), some (.if_icmp .ne 46, 3), none, none, some (.aload_n 0, 1), some (.invokevirtual 173, 3), none, none, some (.pop, 1), some (.aload_n 0, 1), some (.bipush 40, 2), none, some (.invokevirtual 169, 3), none, none, some (.ifCond .eq 20, 3), none, none, some (.aload_n 0, 1), some (.invokevirtual 279, 3), none, none, some (.istore_n 3, 1), some (.aload_n 0, 1), some (.bipush 8, 2), none, some (.iload_n 3, 1), some (.iconst (-1), 1), some (.iconst (-1), 1), some (.iload_n 1, 1), some (.iload_n 1, 1), some (.invokevirtual 254, 3)], [none, none, some (.ireturn, 1), some (.aload_n 0, 1), some (.bipush 7, 2), none, some (.iconst (-1), 1), some (.iconst (-1), 1), some (.iconst (-1), 1), some (.iload_n 1, 1), some (.iload_n 1, 1), some (.invokevirtual 254, 3), none, none, some (.ireturn, 1), some (.iload_n 2, 1), some (.iconst 5, 1), some (.if_icmp .ne 14, 3), none, none, some (.aload_n 0, 1), some (.invokevirtual 173, 3), none, none, some (.pop, 1), some (.aload_n 0, 1), some (.iload_n 1, 1), some (.invokevirtual 282, 3), none, none, some (.ireturn, 1), some (.iload_n 2, 1)], [some (.iconst 3, 1), some (.if_icmp .ne 134, 3), none, none, some (.aload_n 0, 1), some (.getfield 27, 3), none, none, some (.getfield 166, 3), none, none, some (.aload_n 0, 1), some (.getfield 141, 3), none, none, some (.iaload, 1), some (.istore_n 3, 1), some (.iload_n 3, 1), some (.bipush 15, 2), none, some (.if_icmp .ne 7, 3), none, none, some (.iconst 2, 1), some (.goto 45, 3), none, none, some (.iload_n 3, 1), some (.bipush 16, 2), none, some (.if_icmp .ne 7, 3)], [none, some (.iconst 3, 1), some (.goto 35, 3), none, none, some (.iload_n 3, 1), some (.bipush 14, 2), none, some (.if_icmp .ne 7, 3), none, none, some (.iconst 4, 1), some (.goto 25, 3), none, none, some (.iload_n 3, 1), some (.bipush 13, 2), none, some (.if_icmp .ne 7, 3), none, none, some (.iconst 5, 1), some (.goto 15, 3), none, none, some (.iload_n 3, 1), some (.bipush 11, 2), none, some (.if_icmp .ne 8, 3), none, none, some (.bipush 6, 2)], [none, some (.goto 4, 3), none, none, some (.iconst (-1), 1), some (.istore 4, 2), none, some (.iload 4, 2), none, some (.ifCond .le 20, 3), none, none, some (.aload_n 0, 1), some (.invokevirtual 173, 3), none, none, some (.pop, 1), some (.aload_n 0, 1), some (.iload 4, 2), none, some (.iconst (-1), 1), some (.iconst (-1), 1), some (.iconst (-1), 1), some (.iconst (-1), 1), some (.iload_n 1, 1), some (.invokevirtual 254, 3), none, none, some (.ireturn, 1), some (.iload_n 3, 1), some (.bipush 12, 2)], [some (.if_icmp .ne 39, 3), none, none, some (.aload_n 0, 1), some (.invokevirtual 173, 3), none, none, some (.pop, 1), some (.aload_n 0, 1), some (.invokevirtual 229, 3), none, none, some (.istore 5, 2), none, some (.aload_n 0, 1), some (.bipush 40, 2), none, some (.invokevirtual 232, 3), none, none, some (.aload_n 0, 1), some (.bipush 41, 2), none, some (.invokevirtual 232, 3), none, none, some (.aload_n 0, 1), some (.bipush 9, 2), none, some (.iconst (-1), 1), some (.iconst (-1), 1), some (.iconst (-1), 1)], [some (.iload 5, 2), none, some (.iload_n 1, 1), some (.invokevirtual 254, 3), none, none, some (.ireturn, 1), some (.aload_n 0, 1), some (.bipush 40, 2), none, some (.invokevirtual 169, 3), none, none, some (.ifCond .ne 7, 3), none, none, some (.aload_n 0, 1), some (.invokevirtual 182, 3), none, none, some (.aload_n 0, 1), some (.invokevirtual 173, 3), none, none, some (.pop, 1), some (.aload_n 0, 1), some (.invokevirtual 248, 3), none, none, some (.aload_n 0, 1), some (.invokevirtual 245, 3)], [none, some (.istore_n 3, 1), some (.aload_n 0, 1), some (.dup, 1), some (.getfield 189, 3), none, none, some (.iconst 1, 1), some (.isub, 1), some (.putfield 189, 3), none, none, some (.aload_n 0, 1), some (.bipush 41, 2), none, some (.invokevirtual 232, 3), none, none, some (.aload_n 0, 1), some (.bipush 10, 2), none, some (.iload_n 3, 1), some (.iconst (-1), 1), some (.iconst (-1), 1), some (.iconst (-1), 1), some (.iload_n 1, 1), some (.invokevirtual 254, 3), none, none, some (.ireturn, 1)]]
def ft_I331 : List (List (Option (Instr × Nat))) := [[some (.aload_n 0, 1), some (.iconst 0, 1), some (.putfield 320, 3), none, none, some (.iconst 0, 1), some (.istore_n 1, 1), some (.iload_n 1, 1), some (.aload_n 0, 1), some (.getfield 27, 3), none, none, some (.getfield 204, 3), none, none, some (.if_icmp .ge 16, 3), none, none, some (.aload_n 0, 1), some (.getfield 107, 3), none, none, some (.iload_n 1, 1), some (.iconst (-1), 1), some (.iastore, 1), some (.iinc 1 1, 3), none, none, some (.goto (-21), 3), none, none, some (.aload_n 0, 1)], [some (.iconst 0, 1), some (.putfield 313, 3), none, none, some (.iconst 0, 1), some (.istore_n 1, 1), some (.iload_n 1, 1), some (.aload_n 0, 1), some (.getfield 201, 3), none, none, some (.if_icmp .ge 59, 3), none, none, some (.aload_n 0, 1), some (.aload_n 0, 1), some (.getfield 70, 3), none, none, some (.iload_n 1, 1), some (.iaload, 1), some (.iload_n 1, 1), some (.invokevirtual 336, 3), none, none, some (.aload_n 0, 1), some (.getfield 67, 3), none, none, some (.iload_n 1, 1), some (.iaload, 1), some (.ifCond .ne 33, 3)], [none, none, some (.aload_n 0, 1), some (.getfield 104, 3), none, none, some (.iload_n 1, 1), some (.aload_n 0, 1), some (.getfield 313, 3), none, none, some (.iastore, 1), some (.aload_n 0, 1), some (.getfield 98, 3), none, none, some (.aload_n 0, 1), some (.getfield 313, 3), none, none, some (.iload_n 1, 1), some (.iastore, 1), some (.aload_n 0, 1), some (.dup, 1), some (.getfield 313, 3), none, none, some (.iconst 1, 1), some (.iadd, 1), some (.putfield 313, 3)], [some (.iinc 1 1, 3), none, none, some (.goto (-61), 3), none, none, some (.aload_n 0, 1), some (.invokevirtual 339, 3), none, none, some (.aload_n 0, 1), some (.getfield 320, 3), none, none, some (.ifCond .ne 7, 3), none, none, some (.aload_n 0, 1), some (.invokevirtual 342, 3), none, none, some (.aload_n 0, 1), some (.getfield 320, 3), none, none, some (.ifCond .ne 7, 3), none, none, some (.aload_n 0, 1), some (.invokevirtual 345, 3)], [some (.aload_n 0, 1), some (.getfield 320, 3), none, none, some (.ifCond .ne 7, 3), none, none, some (.aload_n 0, 1), some (.invokevirtual 348, 3), none, none, some (.aload_n 0, 1), some (.getfield 320, 3), none, none, some (.ireturn, 1)]]
def ft_I333 : List (List (Option (Instr × Nat))) := [[some (.iconst 0, 1), some (.istore_n 1, 1), some (.iload_n 1, 1), some (.aload_n 0, 1), some (.getfield 313, 3), none, none, some (.if_icmp .ge 115, 3), none, none, some (.aload_n 0, 1), some (.getfield 98, 3), none, none, some (.iload_n 1, 1), some (.iaload, 1), some (.istore_n 2, 1), some (.aload_n 0, 1), some (.getfield 101, 3), none, none, some (.iload_n 1, 1), some (.aload_n 0, 1), some (.getfield 73, 3), none, none, some (.iload_n 2, 1), some (.iaload, 1), some (.ifCond .ge 7, 3), none, none, some (.iconst (-1), 1)], [some (.goto 14, 3), none, none, some (.aload_n 0, 1), some (.aload_n 0, 1), some (.aload_n 0, 1), some (.getfield 73, 3), none, none, some (.iload_n 2, 1), some (.iaload, 1), some (.invokevirtual 351, 3), none, none, some (.iastore, 1), some (.aload_n 0, 1), some (.aload_n 0, 1), some (.aload_n 0, 1), some (.getfield 70, 3), none, none, some (.iload_n 2, 1), some (.iaload, 1), some (.invokevirtual 351, 3), none, none, some (.iload_n 1, 1), some (.if_icmp .eq 14, 3), none, none, some (.aload_n 0, 1), some (.iconst 1, 1)], [some (.aload_n 0, 1), some (.getfield 70, 3), none, none, some (.iload_n 2, 1), some (.iaload, 1), some (.invokevirtual 355, 3), none, none, some (.aload_n 0, 1), some (.getfield 73, 3), none, none, some (.iload_n 2, 1), some (.iaload, 1), some (.ifCond .lt 37, 3), none, none, some (.aload_n 0, 1), some (.aload_n 0, 1), some (.getfield 73, 3), none, none, some (.iload_n 2, 1), some (.iaload, 1), some (.aload_n 0, 1), some (.getfield 101, 3), none, none, some (.iload_n 1, 1), some (.iaload, 1), some (.ifCond .ge 7, 3)], [none, none, some (.iconst (-1), 1), some (.goto 14, 3), none, none, some (.aload_n 0, 1), some (.getfield 98, 3), none, none, some (.aload_n 0, 1), some (.getfield 101, 3), none, none, some (.iload_n 1, 1), some (.iaload, 1), some (.iaload, 1), some (.invokevirtual 336, 3), none, none, some (.iinc 1 1, 3), none, none, some (.goto (-117), 3), none, none, some (.iconst 0, 1), some (.istore_n 1, 1), some (.iload_n 1, 1), some (.aload_n 0, 1), some (.getfield 313, 3)], [none, some (.if_icmp .ge 69, 3), none, none, some (.aload_n 0, 1), some (.getfield 98, 3), none, none, some (.iload_n 1, 1), some (.iaload, 1), some (.istore_n 2, 1), some (.aload_n 0, 1), some (.getfield 73, 3), none, none, some (.iload_n 2, 1), some (.iaload, 1), some (.ifCond .lt 47, 3), none, none, some (.aload_n 0, 1), some (.getfield 101, 3), none, none, some (.iload_n 1, 1), some (.iaload, 1), some (.ifCond .lt 27, 3), none, none, some (.aload_n 0, 1), some (.getfield 101, 3)], [none, some (.iload_n 1, 1), some (.iaload, 1), some (.iload_n 1, 1), some (.if_icmp .eq 17, 3), none, none, some (.aload_n 0, 1), some (.aload_n 0, 1), some (.getfield 101, 3), none, none, some (.iload_n 1, 1), some (.iaload, 1), some (.iload_n 1, 1), some (.invokevirtual 326, 3), none, none, some (.ifCond .eq 14, 3), none, none, some (.aload_n 0, 1), some (.iconst 2, 1), some (.aload_n 0, 1), some (.getfield 73, 3), none, none, some (.iload_n 2, 1), some (.iaload, 1), some (.invokevirtual 355, 3)], [some (.iinc 1 1, 3), none, none, some (.goto (-71), 3), none, none, some (.return_, 1)]]
def ft_I336 : List (List (Option (Instr × Nat))) := [[some (.iconst 0, 1), some (.istore_n 1, 1), some (.iload_n 1, 1), some (.aload_n 0, 1), some (.getfield 201, 3), none, none, some (.if_icmp .ge 94, 3), none, none, some (.aload_n 0, 1), some (.getfield 67, 3), none, none, some (.iload_n 1, 1), some (.iaload, 1), some (.ifCond .eq 79, 3), none, none, some (.aload_n 0, 1), some (.getfield 92, 3), none, none, some (.iload_n 1, 1), some (.aload_n 0, 1), some (.aload_n 0, 1), some (.getfield 73, 3), none, none, some (.iload_n 1, 1), some (.iaload, 1), some (.invokevirtual 358, 3)], [none, none, some (.iastore, 1), some (.aload_n 0, 1), some (.getfield 92, 3), none, none, some (.iload_n 1, 1), some (.iaload, 1), some (.bipush (-5), 2), none, some (.if_icmp .ne 17, 3), none, none, some (.aload_n 0, 1), some (.iconst 4, 1), some (.aload_n 0, 1), some (.getfield 73, 3), none, none, some (.iload_n 1, 1), some (.iaload, 1), some (.invokevirtual 355, 3), none, none, some (.goto 38, 3), none, none, some (.aload_n 0, 1), some (.getfield 92, 3)], [some (.iload_n 1, 1), some (.iaload, 1), some (.bipush 10, 2), none, some (.if_icmp .lt 27, 3), none, none, some (.aload_n 0, 1), some (.aload_n 0, 1), some (.getfield 73, 3), none, none, some (.iload_n 1, 1), some (.iaload, 1), some (.aload_n 0, 1), some (.getfield 98, 3), none, none, some (.aload_n 0, 1), some (.getfield 92, 3), none, none, some (.iload_n 1, 1), some (.iaload, 1), some (.bipush 10, 2), none, some (.isub, 1), some (.iaload, 1), some (.invokevirtual 336, 3), none, none, some (.iinc 1 1, 3)], [none, none, some (.goto (-96), 3), none, none, some (.iconst 0, 1), some (.istore_n 1, 1), some (.iload_n 1, 1), some (.aload_n 0, 1), some (.getfield 201, 3), none, none, some (.if_icmp .ge 143, 3), none, none, some (.iconst 0, 1), some (.istore_n 2, 1), some (.iload_n 2, 1), some (.iload_n 1, 1), some (.if_icmp .ge 130, 3), none, none, some (.aload_n 0, 1), some (.getfield 67, 3), none, none, some (.iload_n 1, 1), some (.iaload, 1), some (.iconst 1, 1), some (.if_icmp .ne 59, 3)], [some (.aload_n 0, 1), some (.getfield 67, 3), none, none, some (.iload_n 2, 1), some (.iaload, 1), some (.iconst 1, 1), some (.if_icmp .ne 49, 3), none, none, some (.aload_n 0, 1), some (.getfield 76, 3), none, none, some (.iload_n 1, 1), some (.iaload, 1), some (.aload_n 0, 1), some (.getfield 76, 3), none, none, some (.iload_n 2, 1), some (.iaload, 1), some (.if_icmp .ne 34, 3), none, none, some (.aload_n 0, 1), some (.aload_n 0, 1), some (.getfield 70, 3), none, none, some (.iload_n 1, 1), some (.iaload, 1)], [some (.aload_n 0, 1), some (.aload_n 0, 1), some (.getfield 70, 3), none, none, some (.iload_n 2, 1), some (.iaload, 1), some (.invokevirtual 316, 3), none, none, some (.ifCond .eq 14, 3), none, none, some (.aload_n 0, 1), some (.iconst 3, 1), some (.aload_n 0, 1), some (.getfield 70, 3), none, none, some (.iload_n 1, 1), some (.iaload, 1), some (.invokevirtual 355, 3), none, none, some (.aload_n 0, 1), some (.getfield 67, 3), none, none, some (.iload_n 1, 1), some (.iaload, 1), some (.iconst 2, 1), some (.if_icmp .ne 48, 3)], [none, none, some (.aload_n 0, 1), some (.getfield 67, 3), none, none, some (.iload_n 2, 1), some (.iaload, 1), some (.iconst 2, 1), some (.if_icmp .ne 38, 3), none, none, some (.aload_n 0, 1), some (.getfield 76, 3), none, none, some (.iload_n 1, 1), some (.iaload, 1), some (.aload_n 0, 1), some (.getfield 76, 3), none, none, some (.iload_n 2, 1), some (.iaload, 1), some (.if_icmp .ne 23, 3), none, none, some (.aload_n 0, 1), some (.iload_n 1, 1), some (.iload_n 2, 1), some (.invokevirtual 333, 3)], [none, some (.ifCond .eq 14, 3), none, none, some (.aload_n 0, 1), some (.iconst 3, 1), some (.aload_n 0, 1), some (.getfield 70, 3), none, none, some (.iload_n 1, 1), some (.iaload, 1), some (.invokevirtual 355, 3), none, none, some (.iinc 2 1, 3), none, none, some (.goto (-129), 3), none, none, some (.iinc 1 1, 3), none, none, some (.goto (-145), 3), none, none, some (.iconst 0, 1), some (.istore_n 1, 1), some (.iload_n 1, 1), some (.aload_n 0, 1), some (.getfield 201, 3)], [none, none, some (.if_icmp .ge 150, 3), none, none, some (.iconst 0, 1), some (.istore_n 2, 1), some (.iload_n 2, 1), some (.aload_n 0, 1), some (.getfield 201, 3), none, none, some (.if_icmp .ge 134, 3), none, none, some (.aload_n 0, 1), some (.getfield 67, 3), none, none, some (.iload_n 1, 1), some (.iaload, 1), some (.iconst 2, 1), some (.if_icmp .ne 124, 3), none, none, some (.aload_n 0, 1), some (.getfield 67, 3), none, none, some (.iload_n 2, 1), some (.iaload, 1), some (.iconst 2, 1)], [some (.if_icmp .ne 108, 3), none, none, some (.aload_n 0, 1), some (.aload_n 0, 1), some (.getfield 104, 3), none, none, some (.aload_n 0, 1), some (.getfield 76, 3), none, none, some (.iload_n 1, 1), some (.iaload, 1), some (.iaload, 1), some (.aload_n 0, 1), some (.getfield 104, 3), none, none, some (.aload_n 0, 1), some (.getfield 76, 3), none, none, some (.iload_n 2, 1), some (.iaload, 1), some (.iaload, 1), some (.invokevirtual 326, 3), none, none, some (.ifCond .eq 79, 3)], [some (.aload_n 0, 1), some (.iload_n 1, 1), some (.iload_n 2, 1), some (.invokevirtual 333, 3), none, none, some (.ifCond .eq 70, 3), none, none, some (.aload_n 0, 1), some (.getfield 79, 3), none, none, some (.iload_n 1, 1), some (.baload, 1), some (.ifCond .ne 49, 3), none, none, some (.aload_n 0, 1), some (.getfield 79, 3), none, none, some (.iload_n 2, 1), some (.baload, 1), some (.ifCond .ne 40, 3), none, none, some (.aload_n 0, 1), some (.getfield 92, 3), none, none, some (.iload_n 1, 1)], [some (.iaload, 1), some (.bipush (-5), 2), none, some (.if_icmp .eq 41, 3), none, none, some (.aload_n 0, 1), some (.getfield 92, 3), none, none, some (.iload_n 2, 1), some (.iaload, 1), some (.bipush (-5), 2), none, some (.if_icmp .eq 30, 3), none, none, some (.aload_n 0, 1), some (.getfield 92, 3), none, none, some (.iload_n 1, 1), some (.iaload, 1), some (.aload_n 0, 1), some (.getfield 92, 3), none, none, some (.iload_n 2, 1), some (.iaload, 1), some (.if_icmp .eq 15, 3)], [some (.aload_n 0, 1), some (.bipush 9, 2), none, some (.aload_n 0, 1), some (.getfield 70, 3), none, none, some (.iload_n 1, 1), some (.iaload, 1), some (.invokevirtual 355, 3), none, none, some (.iinc 2 1, 3), none, none, some (.goto (-136), 3), none, none, some (.iinc 1 1, 3), none, none, some (.goto (-152), 3), none, none, some (.return_, 1)]]
def ft_I340 : List (List (Option (Instr × Nat))) := [[some (.iconst 0, 1), some (.istore_n 1, 1), some (.iload_n 1, 1), some (.aload_n 0, 1), some (.getfield 201, 3), none, none, some (.if_icmp .ge 133, 3), none, none, some (.aload_n 0, 1), some (.getfield 67, 3), none, none, some (.iload_n 1, 1), some (.iaload, 1), some (.iconst 1, 1), some (.if_icmp .ne 36, 3), none, none, some (.aload_n 0, 1), some (.getfield 83, 3), none, none, some (.iload_n 1, 1), some (.iaload, 1), some (.ifCond .lt 27, 3), none, none, some (.aload_n 0, 1), some (.iload_n 1, 1), some (.invokevirtual 361, 3)], [none, none, some (.aload_n 0, 1), some (.aload_n 0, 1), some (.getfield 83, 3), none, none, some (.iload_n 1, 1), some (.iaload, 1), some (.aload_n 0, 1), some (.getfield 92, 3), none, none, some (.iload_n 1, 1), some (.iaload, 1), some (.invokevirtual 364, 3), none, none, some (.goto 84, 3), none, none, some (.aload_n 0, 1), some (.getfield 67, 3), none, none, some (.iload_n 1, 1), some (.iaload, 1), some (.iconst 2, 1), some (.if_icmp .ne 74, 3), none, none, some (.aload_n 0, 1)], [some (.iload_n 1, 1), some (.invokevirtual 361, 3), none, none, some (.iconst 0, 1), some (.istore_n 2, 1), some (.iload_n 2, 1), some (.aload_n 0, 1), some (.getfield 95, 3), none, none, some (.iload_n 1, 1), some (.iaload, 1), some (.if_icmp .ge 20, 3), none, none, some (.aload_n 0, 1), some (.aload_n 0, 1), some (.iload_n 1, 1), some (.invokevirtual 330, 3), none, none, some (.iload_n 2, 1), some (.iadd, 1), some (.invokevirtual 367, 3), none, none, some (.iinc 2 1, 3), none, none, some (.goto (-24), 3)], [none, some (.aload_n 0, 1), some (.aload_n 0, 1), some (.getfield 83, 3), none, none, some (.iload_n 1, 1), some (.iaload, 1), some (.invokevirtual 370, 3), none, none, some (.istore_n 2, 1), some (.iload_n 2, 1), some (.ifCond .eq 25, 3), none, none, some (.aload_n 0, 1), some (.getfield 92, 3), none, none, some (.iload_n 1, 1), some (.iaload, 1), some (.iconst 3, 1), some (.if_icmp .eq 15, 3), none, none, some (.aload_n 0, 1), some (.bipush 12, 2), none, some (.aload_n 0, 1), some (.getfield 70, 3)], [none, some (.iload_n 1, 1), some (.iaload, 1), some (.invokevirtual 355, 3), none, none, some (.iinc 1 1, 3), none, none, some (.goto (-135), 3), none, none, some (.return_, 1)]]
def ft_I361 : List (List (Option (Instr × Nat))) := [[some (.aload_n 0, 1), some (.invokevirtual 435, 3), none, none, some (.iconst 0, 1), some (.istore_n 1, 1), some (.iload_n 1, 1), some (.aload_n 0, 1), some (.getfield 201, 3), none, none, some (.if_icmp .ge 16, 3), none, none, some (.aload_n 0, 1), some (.getfield 110, 3), none, none, some (.iload_n 1, 1), some (.iload_n 1, 1), some (.iastore, 1), some (.iinc 1 1, 3), none, none, some (.goto (-18), 3), none, none, some (.iconst 0, 1), some (.istore_n 1, 1), some (.iload_n 1, 1), some (.aload_n 0, 1), some (.getfield 201, 3)], [none, none, some (.if_icmp .ge 132, 3), none, none, some (.iconst 0, 1), some (.istore_n 2, 1), some (.iload_n 2, 1), some (.aload_n 0, 1), some (.getfield 201, 3), none, none, some (.if_icmp .ge 116, 3), none, none, some (.aload_n 0, 1), some (.getfield 67, 3), none, none, some (.iload_n 1, 1), some (.iaload, 1), some (.iconst 2, 1), some (.if_icmp .ne 106, 3), none, none, some (.aload_n 0, 1), some (.getfield 67, 3), none, none, some (.iload_n 2, 1), some (.iaload, 1), some (.iconst 2, 1)], [some (.if_icmp .ne 90, 3), none, none, some (.aload_n 0, 1), some (.iload_n 1, 1), some (.iload_n 2, 1), some (.invokevirtual 429, 3), none, none, some (.ifCond .eq 81, 3), none, none, some (.aload_n 0, 1), some (.getfield 110, 3), none, none, some (.iload_n 1, 1), some (.iaload, 1), some (.aload_n 0, 1), some (.getfield 110, 3), none, none, some (.iload_n 2, 1), some (.iaload, 1), some (.if_icmp .eq 66, 3), none, none, some (.aload_n 0, 1), some (.getfield 110, 3), none, none, some (.iload_n 1, 1)], [some (.iaload, 1), some (.istore_n 3, 1), some (.aload_n 0, 1), some (.getfield 110, 3), none, none, some (.iload_n 2, 1), some (.iaload, 1), some (.istore 4, 2), none, some (.iconst 0, 1), some (.istore 5, 2), none, some (.iload 5, 2), none, some (.aload_n 0, 1), some (.getfield 201, 3), none, none, some (.if_icmp .ge 39, 3), none, none, some (.aload_n 0, 1), some (.getfield 110, 3), none, none, some (.iload 5, 2), none, some (.aload_n 0, 1), some (.getfield 110, 3)], [some (.iload 5, 2), none, some (.iaload, 1), some (.iload_n 3, 1), some (.if_icmp .ne 8, 3), none, none, some (.iload 4, 2), none, some (.goto 10, 3), none, none, some (.aload_n 0, 1), some (.getfield 110, 3), none, none, some (.iload 5, 2), none, some (.iaload, 1), some (.iastore, 1), some (.iinc 5 1, 3), none, none, some (.goto (-42), 3), none, none, some (.iinc 2 1, 3), none, none, some (.goto (-118), 3)], [some (.iinc 1 1, 3), none, none, some (.goto (-134), 3), none, none, some (.return_, 1)]]
def ft_I362 : List (List (Option (Instr × Nat))) := [[some (.iconst 0, 1), some (.istore_n 1, 1), some (.iload_n 1, 1), some (.aload_n 0, 1), some (.getfield 313, 3), none, none, some (.if_icmp .ge 84, 3), none, none, some (.iconst 0, 1), some (.istore_n 2, 1), some (.aload_n 0, 1), some (.getfield 98, 3), none, none, some (.iload_n 1, 1), some (.iaload, 1), some (.iconst 1, 1), some (.iadd, 1), some (.istore_n 3, 1), some (.iload_n 3, 1), some (.aload_n 0, 1), some (.getfield 201, 3), none, none, some (.if_icmp .ge 52, 3), none, none, some (.aload_n 0, 1), some (.getfield 67, 3)], [none, some (.iload_n 3, 1), some (.iaload, 1), some (.ifCond .eq 43, 3), none, none, some (.aload_n 0, 1), some (.getfield 125, 3), none, none, some (.iload_n 3, 1), some (.iload_n 2, 1), some (.iastore, 1), some (.iload_n 2, 1), some (.aload_n 0, 1), some (.getfield 67, 3), none, none, some (.iload_n 3, 1), some (.iaload, 1), some (.iconst 1, 1), some (.if_icmp .ne 16, 3), none, none, some (.aload_n 0, 1), some (.getfield 79, 3), none, none, some (.iload_n 3, 1), some (.baload, 1), some (.ifCond .ne 7, 3)], [none, some (.iconst 1, 1), some (.goto 4, 3), none, none, some (.iconst 0, 1), some (.iadd, 1), some (.istore_n 2, 1), some (.iinc 3 1, 3), none, none, some (.goto (-54), 3), none, none, some (.aload_n 0, 1), some (.getfield 128, 3), none, none, some (.iload_n 1, 1), some (.iload_n 2, 1), some (.iastore, 1), some (.iinc 1 1, 3), none, none, some (.goto (-86), 3), none, none, some (.return_, 1)]]
def ft_I363 : List (List (Option (Instr × Nat))) := [[some (.iconst 0, 1), some (.istore_n 2, 1), some (.iload_n 2, 1), some (.iconst 4, 1), some (.if_icmp .ge 59, 3), none, none, some (.aload_n 0, 1), some (.getfield 423, 3), none, none, some (.iconst 4, 1), some (.iload_n 1, 1), some (.imul, 1), some (.iload_n 2, 1), some (.iadd, 1), some (.aload_n 0, 1), some (.getfield 403, 3), none, none, some (.getfield 525, 3), none, none, some (.iload_n 2, 1), some (.iaload, 1), some (.iastore, 1), some (.aload_n 0, 1), some (.getfield 403, 3), none, none, some (.getfield 526, 3)], [none, some (.iload_n 2, 1), some (.aaload, 1), some (.iconst 0, 1), some (.aload_n 0, 1), some (.getfield 420, 3), none, none, some (.iload_n 1, 1), some (.aaload, 1), some (.iload_n 2, 1), some (.aaload, 1), some (.iconst 0, 1), some (.aload_n 0, 1), some (.getfield 403, 3), none, none, some (.getfield 525, 3), none, none, some (.iload_n 2, 1), some (.iaload, 1), some (.invokestatic 51, 3), none, none, some (.iinc 2 1, 3), none, none, some (.goto (-58), 3), none, none, some (.return_, 1)]]
def ft_I364 : List (List (Option (Instr × Nat))) := [[some (.aload_n 0, 1), some (.getfield 940, 3), none, none, some (.bipush 20, 2), none, some (.iadd, 1), some (.sipush 4000, 3), none, none, some (.if_icmp .le 6, 3), none, none, some (.bipush (-3), 2), none, some (.ireturn, 1), some (.aload_n 0, 1), some (.iload_n 1, 1), some (.invokevirtual 943, 3), none, none, some (.aload_n 0, 1), some (.iload_n 2, 1), some (.invokevirtual 943, 3), none, none, some (.aload_n 0, 1), some (.iload_n 3, 1), some (.invokevirtual 943, 3), none, none, some (.aload_n 0, 1)], [some (.iload 4, 2), none, some (.invokevirtual 943, 3), none, none, some (.aload_n 0, 1), some (.iload 5, 2), none, some (.invokevirtual 943, 3), none, none, some (.aload_n 0, 1), some (.getfield 940, 3), none, none, some (.ireturn, 1)]]
def ft_I365 : List (List (Option (Instr × Nat))) := [[some (.bipush 24, 2), none, some (.istore_n 2, 1), some (.iload_n 2, 1), some (.ifCond .lt 32, 3), none, none, some (.aload_n 0, 1), some (.getfield 388, 3), none, none, some (.aload_n 0, 1), some (.getfield 940, 3), none, none, some (.iload_n 1, 1), some (.iload_n 2, 1), some (.iushr, 1), some (.i2b, 1), some (.bastore, 1), some (.aload_n 0, 1), some (.dup, 1), some (.getfield 940, 3), none, none, some (.iconst 1, 1), some (.iadd, 1), some (.putfield 940, 3), none, none, some (.iinc 2 (-8), 3)], [none, some (.goto (-30), 3), none, none, some (.return_, 1)]]
def ft_I366 : List (List (Option (Instr × Nat))) := [[some (.iload_n 1, 1), some (.ifCond .lt 11, 3), none, none, some (.iload_n 1, 1), some (.aload_n 0, 1), some (.getfield 940, 3), none, none, some (.if_icmp .le 5, 3), none, none, some (.iconst (-1), 1), some (.ireturn, 1), some (.aload_n 0, 1), some (.dup, 1), some (.getfield 940, 3), none, none, some (.iload_n 1, 1), some (.isub, 1), some (.putfield 940, 3), none, none, some (.aload_n 0, 1), some (.getfield 940, 3), none, none, some (.ireturn, 1)]]
def ft_I367 : List (List (Option (Instr × Nat))) := [[some (.iload_n 1, 1), some (.iconst 4, 1), some (.invokestatic 949, 3), none, none, some (.ifCond .ne 5, 3), none, none, some (.iconst (-1), 1), some (.ireturn, 1), some (.aload_n 0, 1), some (.getfield 940, 3), none, none, some (.istore_n 2, 1), some (.iload_n 2, 1), some (.sipush 3000, 3), none, none, some (.if_icmp .le 17, 3), none, none, some (.aload_n 0, 1), some (.iconst 0, 1), some (.putfield 940, 3), none, none, some (.aload_n 0, 1), some (.bipush (-2), 2), none, some (.putfield 415, 3)], [none, some (.bipush (-3), 2), none, some (.ireturn, 1), some (.aload_n 0, 1), some (.aload_n 0, 1), some (.getfield 409, 3), none, none, some (.getfield 526, 3), none, none, some (.iload_n 1, 1), some (.aaload, 1), some (.invokevirtual 952, 3), none, none, some (.aload_n 0, 1), some (.getfield 409, 3), none, none, some (.getfield 525, 3), none, none, some (.iload_n 1, 1), some (.iload_n 2, 1), some (.iastore, 1), some (.aload_n 0, 1), some (.getfield 409, 3), none, none, some (.invokevirtual 619, 3)], [none, none, some (.iconst 0, 1), some (.istore_n 3, 1), some (.iconst 0, 1), some (.istore 4, 2), none, some (.iload 4, 2), none, some (.aload_n 0, 1), some (.getfield 403, 3), none, none, some (.getfield 162, 3), none, none, some (.if_icmp .ge 55, 3), none, none, some (.iload_n 3, 1), some (.aload_n 0, 1), some (.getfield 403, 3), none, none, some (.getfield 120, 3), none, none, some (.iload 4, 2), none, some (.iaload, 1), some (.ifCond .ne 32, 3)], [none, some (.aload_n 0, 1), some (.getfield 403, 3), none, none, some (.getfield 103, 3), none, none, some (.getfield 137, 3), none, none, some (.aload_n 0, 1), some (.getfield 403, 3), none, none, some (.getfield 168, 3), none, none, some (.iload 4, 2), none, some (.iaload, 1), some (.iaload, 1), some (.iload_n 1, 1), some (.if_icmp .eq 7, 3), none, none, some (.iconst 1, 1), some (.goto 4, 3), none, none, some (.iconst 0, 1), some (.iadd, 1)], [some (.istore_n 3, 1), some (.iinc 4 1, 3), none, none, some (.goto (-61), 3), none, none, some (.aload_n 0, 1), some (.getfield 409, 3), none, none, some (.iload_n 1, 1), some (.iload_n 3, 1), some (.invokevirtual 625, 3), none, none, some (.goto 21, 3), none, none, some (.astore 4, 2), none, some (.aload_n 0, 1), some (.aload_n 0, 1), some (.getfield 19, 3), none, none, some (.putfield 415, 3), none, none, some (.bipush (-10), 2), none, some (.aload_n 0, 1)], [some (.getfield 15, 3), none, none, some (.isub, 1), some (.ireturn, 1), some (.aload_n 0, 1), some (.bipush (-2), 2), none, some (.putfield 415, 3), none, none, some (.aload_n 0, 1), some (.getfield 409, 3), none, none, some (.getfield 103, 3), none, none, some (.getfield 634, 3), none, none, some (.istore 4, 2), none, some (.aload_n 0, 1), some (.getfield 409, 3), none, none, some (.getfield 526, 3), none, none, some (.iload_n 1, 1), some (.aaload, 1)], [some (.iconst 0, 1), some (.aload_n 0, 1), some (.getfield 403, 3), none, none, some (.getfield 526, 3), none, none, some (.iload_n 1, 1), some (.aaload, 1), some (.iconst 0, 1), some (.iload_n 2, 1), some (.invokestatic 51, 3), none, none, some (.aload_n 0, 1), some (.getfield 403, 3), none, none, some (.getfield 525, 3), none, none, some (.iload_n 1, 1), some (.iload_n 2, 1), some (.iastore, 1), some (.aload_n 0, 1), some (.getfield 403, 3), none, none, some (.invokevirtual 519, 3)], [some (.pop, 1), some (.aload_n 0, 1), some (.iconst 0, 1), some (.putfield 955, 3), none, none, some (.aload_n 0, 1), some (.iconst 0, 1), some (.putfield 958, 3), none, none, some (.aload_n 0, 1), some (.iconst 0, 1), some (.invokevirtual 522, 3), none, none, some (.aload_n 0, 1), some (.invokevirtual 961, 3), none, none, some (.aload_n 0, 1), some (.iconst 0, 1), some (.putfield 964, 3), none, none, some (.iload 4, 2), none, some (.ireturn, 1)]]
def ft_I368 : List (List (Option (Instr × Nat))) := [[some (.iload_n 0, 1), some (.ifCond .lt 12, 3), none, none, some (.iload_n 0, 1), some (.iload_n 1, 1), some (.if_icmp .ge 7, 3), none, none, some (.iconst 1, 1), some (.goto 4, 3), none, none, some (.iconst 0, 1), some (.ireturn, 1)]]
def ft_I369 : List (List (Option (Instr × Nat))) := [[some (.aload_n 0, 1), some (.getfield 388, 3), none, none, some (.iconst 0, 1), some (.aload_n 1, 1), some (.iconst 0, 1), some (.aload_n 0, 1), some (.getfield 940, 3), none, none, some (.invokestatic 51, 3), none, none, some (.aload_n 0, 1), some (.iconst 0, 1), some (.putfield 940, 3), none, none, some (.return_, 1)]]
def ft_I370 : List (List (Option (Instr × Nat))) := [[some (.aload_n 0, 1), some (.iconst 0, 1), some (.putfield 922, 3), none, none, some (.aload_n 0, 1), some (.iconst 0, 1), some (.putfield 946, 3), none, none, some (.aload_n 0, 1), some (.iconst 0, 1), some (.putfield 931, 3), none, none, some (.aload_n 0, 1), some (.bipush (-2), 2), none, some (.putfield 507, 3), none, none, some (.aload_n 0, 1), some (.invokevirtual 665, 3), none, none, some (.return_, 1)]]
def ft_I371 : List (List (Option (Instr × Nat))) := [[some (.aload_n 0, 1), some (.iconst 0, 1), some (.putfield 530, 3), none, none, some (.aload_n 0, 1), some (.iconst 0, 1), some (.putfield 533, 3), none, none, some (.aload_n 0, 1), some (.iconst 0, 1), some (.putfield 536, 3), none, none, some (.aload_n 0, 1), some (.iconst 0, 1), some (.putfield 539, 3), none, none, some (.return_, 1)]]
def ft_I372 : List (List (Option (Instr × Nat))) := [[some (.aload_n 0, 1), some (.getfield 415, 3), none, none, some (.ireturn, 1)]]
def ft_I373 : List (List (Option (Instr × Nat))) := [[some (.iload_n 1, 1), some (.iconst 4, 1), some (.invokestatic 949, 3), none, none, some (.ifCond .eq 15, 3), none, none, some (.aload_n 0, 1), some (.getfield 403, 3), none, none, some (.getfield 525, 3), none, none, some (.iload_n 1, 1), some (.iaload, 1), some (.goto 4, 3), none, none, some (.iconst (-1), 1), some (.ireturn, 1)]]
def ft_I374 : List (List (Option (Instr × Nat))) := [[some (.iload_n 1, 1), some (.iconst 4, 1), some (.invokestatic 949, 3), none, none, some (.ifCond .eq 37, 3), none, none, some (.iload_n 2, 1), some (.aload_n 0, 1), some (.getfield 403, 3), none, none, some (.getfield 525, 3), none, none, some (.iload_n 1, 1), some (.iaload, 1), some (.invokestatic 949, 3), none, none, some (.ifCond .eq 21, 3), none, none, some (.aload_n 0, 1), some (.getfield 403, 3), none, none, some (.getfield 526, 3), none, none, some (.iload_n 1, 1)], [some (.aaload, 1), some (.iload_n 2, 1), some (.baload, 1), some (.sipush 255, 3), none, none, some (.iand, 1), some (.goto 4, 3), none, none, some (.iconst (-1), 1), some (.ireturn, 1)]]
def ft_I375 : List (List (Option (Instr × Nat))) := [[some (.iload_n 2, 1), some (.iconst 2, 1), some (.invokestatic 949, 3), none, none, some (.ifCond .ne 5, 3), none, none, some (.iconst (-1), 1), some (.ireturn, 1), some (.aload_n 0, 1), some (.getfield 403, 3), none, none, some (.iload_n 1, 1), some (.invokevirtual 742, 3), none, none, some (.istore_n 3, 1), some (.iload_n 3, 1), some (.ifCond .ge 8, 3), none, none, some (.bipush (-2), 2), none, some (.goto 34, 3), none, none, some (.iload_n 2, 1), some (.ifCond .ne 18, 3)], [some (.aload_n 0, 1), some (.getfield 403, 3), none, none, some (.getfield 103, 3), none, none, some (.getfield 107, 3), none, none, some (.iload_n 3, 1), some (.iaload, 1), some (.goto 15, 3), none, none, some (.aload_n 0, 1), some (.getfield 403, 3), none, none, some (.getfield 103, 3), none, none, some (.getfield 32, 3), none, none, some (.iload_n 3, 1), some (.iaload, 1), some (.ireturn, 1)]]
def ft_I376 : List (List (Option (Instr × Nat))) := [[some (.aload_n 0, 1), some (.getfield 441, 3), none, none, some (.ifCond .ne 78, 3), none, none, some (.iconst 0, 1), some (.istore_n 2, 1), some (.iload_n 2, 1), some (.sipush 12000, 3), none, none, some (.if_icmp .ge 16, 3), none, none, some (.aload_n 0, 1), some (.getfield 131, 3), none, none, some (.iload_n 2, 1), some (.iconst (-1), 1), some (.iastore, 1), some (.iinc 2 1, 3), none, none, some (.goto (-17), 3), none, none, some (.iconst 0, 1), some (.istore_n 2, 1), some (.iload_n 2, 1)], [some (.aload_n 0, 1), some (.getfield 27, 3), none, none, some (.getfield 204, 3), none, none, some (.if_icmp .ge 38, 3), none, none, some (.aload_n 0, 1), some (.getfield 131, 3), none, none, some (.sipush 3000, 3), none, none, some (.aload_n 0, 1), some (.getfield 27, 3), none, none, some (.getfield 134, 3), none, none, some (.iload_n 2, 1), some (.iaload, 1), some (.imul, 1), some (.aload_n 0, 1), some (.getfield 27, 3), none, none, some (.getfield 137, 3)], [none, none, some (.iload_n 2, 1), some (.iaload, 1), some (.iadd, 1), some (.iload_n 2, 1), some (.iastore, 1), some (.iinc 2 1, 3), none, none, some (.goto (-43), 3), none, none, some (.aload_n 0, 1), some (.iconst 1, 1), some (.putfield 441, 3), none, none, some (.iload_n 1, 1), some (.ifCond .ge 7, 3), none, none, some (.iconst 4, 1), some (.goto 8, 3), none, none, some (.iload_n 1, 1), some (.sipush 10000, 3), none, none, some (.idiv, 1), some (.istore_n 2, 1)], [some (.iload_n 2, 1), some (.iconst 4, 1), some (.if_icmp .ge 33, 3), none, none, some (.iload_n 1, 1), some (.sipush 10000, 3), none, none, some (.irem, 1), some (.sipush 3000, 3), none, none, some (.if_icmp .ge 22, 3), none, none, some (.aload_n 0, 1), some (.getfield 131, 3), none, none, some (.sipush 3000, 3), none, none, some (.iload_n 2, 1), some (.imul, 1), some (.iload_n 1, 1), some (.sipush 10000, 3), none, none, some (.irem, 1), some (.iadd, 1), some (.iaload, 1)], [some (.goto 4, 3), none, none, some (.iconst (-1), 1), some (.ireturn, 1)]]
def ft_I377 : List (List (Option (Instr × Nat))) := [[some (.aload_n 0, 1), some (.aload_n 0, 1), some (.getfield 403, 3), none, none, some (.getfield 967, 3), none, none, some (.ifCond .ne 8, 3), none, none, some (.bipush (-2), 2), none, some (.goto 10, 3), none, none, some (.aload_n 0, 1), some (.getfield 403, 3), none, none, some (.getfield 640, 3), none, none, some (.putfield 415, 3), none, none, some (.aload_n 0, 1), some (.getfield 403, 3), none, none, some (.getfield 967, 3)], [none, some (.ireturn, 1)]]
def ft_I378 : List (List (Option (Instr × Nat))) := [[some (.iload_n 2, 1), some (.iconst 2, 1), some (.invokestatic 949, 3), none, none, some (.ifCond .ne 5, 3), none, none, some (.iconst (-1), 1), some (.ireturn, 1), some (.aload_n 0, 1), some (.getfield 403, 3), none, none, some (.getfield 967, 3), none, none, some (.ifCond .ne 14, 3), none, none, some (.aload_n 0, 1), some (.getfield 403, 3), none, none, some (.iload_n 1, 1), some (.invokevirtual 610, 3), none, none, some (.goto 4, 3), none, none, some (.iconst (-1), 1)], [some (.istore_n 3, 1), some (.iload_n 3, 1), some (.ifCond .ge 6, 3), none, none, some (.bipush (-2), 2), none, some (.ireturn, 1), some (.aload_n 0, 1), some (.getfield 403, 3), none, none, some (.getfield 117, 3), none, none, some (.iload_n 3, 1), some (.iaload, 1), some (.istore 4, 2), none, some (.iload_n 2, 1), some (.ifCond .ne 23, 3), none, none, some (.aload_n 0, 1), some (.getfield 403, 3), none, none, some (.aload_n 0, 1), some (.getfield 403, 3), none, none, some (.getfield 168, 3)], [none, none, some (.iload 4, 2), none, some (.iaload, 1), some (.invokevirtual 171, 3), none, none, some (.goto 13, 3), none, none, some (.aload_n 0, 1), some (.getfield 403, 3), none, none, some (.getfield 120, 3), none, none, some (.iload 4, 2), none, some (.iaload, 1), some (.ireturn, 1)]]
def ft_I379 : List (List (Option (Instr × Nat))) := [[some (.aload_n 0, 1), some (.iload_n 1, 1), some (.invokevirtual 456, 3), none, none, some (.istore_n 2, 1), some (.iload_n 2, 1), some (.ifCond .lt 20, 3), none, none, some (.aload_n 0, 1), some (.getfield 27, 3), none, none, some (.getfield 140, 3), none, none, some (.iload_n 2, 1), some (.iaload, 1), some (.iconst 1, 1), some (.if_icmp .ne 7, 3), none, none, some (.iload_n 2, 1), some (.goto 4, 3), none, none, some (.iconst (-1), 1), some (.ireturn, 1)]]
def ft_I380 : List (List (Option (Instr × Nat))) := [[some (.aload_n 0, 1), some (.getfield 403, 3), none, none, some (.getfield 967, 3), none, none, some (.ifCond .ne 29, 3), none, none, some (.aload_n 0, 1), some (.getfield 403, 3), none, none, some (.aload_n 0, 1), some (.getfield 403, 3), none, none, some (.iload_n 1, 1), some (.invokevirtual 742, 3), none, none, some (.aload_n 0, 1), some (.getfield 403, 3), none, none, some (.iload_n 2, 1), some (.invokevirtual 742, 3), none, none, some (.invokevirtual 745, 3)], [none, some (.goto 4, 3), none, none, some (.iconst (-1), 1), some (.istore_n 3, 1), some (.iload_n 3, 1), some (.ifCond .ge 8, 3), none, none, some (.bipush (-2), 2), none, some (.goto 12, 3), none, none, some (.aload_n 0, 1), some (.getfield 403, 3), none, none, some (.getfield 748, 3), none, none, some (.iload_n 3, 1), some (.iaload, 1), some (.ireturn, 1)]]
def ft_I381 : List (List (Option (Instr × Nat))) := [[some (.iconst (-1), 1), some (.istore_n 3, 1), some (.iconst 0, 1), some (.istore 4, 2), none, some (.iload 4, 2), none, some (.aload_n 0, 1), some (.getfield 192, 3), none, none, some (.if_icmp .ge 63, 3), none, none, some (.aload_n 0, 1), some (.getfield 34, 3), none, none, some (.iload 4, 2), none, some (.iaload, 1), some (.bipush 20, 2), none, some (.if_icmp .ge 45, 3), none, none, some (.iload_n 1, 1), some (.ifCond .lt 41, 3), none, none, some (.iload_n 2, 1), some (.ifCond .lt 37, 3)], [none, none, some (.aload_n 0, 1), some (.getfield 49, 3), none, none, some (.iload 4, 2), none, some (.iaload, 1), some (.iload_n 1, 1), some (.if_icmp .ne 26, 3), none, none, some (.aload_n 0, 1), some (.getfield 52, 3), none, none, some (.iload 4, 2), none, some (.iaload, 1), some (.iload_n 2, 1), some (.if_icmp .ne 15, 3), none, none, some (.aload_n 0, 1), some (.iload 4, 2), none, some (.invokevirtual 462, 3), none, none, some (.ifCond .ne 6, 3)], [none, some (.iload 4, 2), none, some (.istore_n 3, 1), some (.iinc 4 1, 3), none, none, some (.goto (-66), 3), none, none, some (.iload_n 3, 1), some (.ireturn, 1)]]
def ft_I383 : List (List (Option (Instr × Nat))) := [[some (.iload_n 1, 1), some (.iconst 5, 1), some (.invokestatic 949, 3), none, none, some (.ifCond .ne 5, 3), none, none, some (.iconst (-1), 1), some (.ireturn, 1), some (.aload_n 0, 1), some (.getfield 403, 3), none, none, some (.getfield 967, 3), none, none, some (.ifCond .eq 6, 3), none, none, some (.bipush (-2), 2), none, some (.ireturn, 1), some (.iconst 0, 1), some (.istore_n 2, 1), some (.iconst 0, 1), some (.istore_n 3, 1), some (.iload_n 3, 1), some (.aload_n 0, 1), some (.getfield 403, 3)], [some (.getfield 162, 3), none, none, some (.if_icmp .ge 30, 3), none, none, some (.iload_n 2, 1), some (.aload_n 0, 1), some (.getfield 403, 3), none, none, some (.getfield 120, 3), none, none, some (.iload_n 3, 1), some (.iaload, 1), some (.iload_n 1, 1), some (.if_icmp .ne 7, 3), none, none, some (.iconst 1, 1), some (.goto 4, 3), none, none, some (.iconst 0, 1), some (.iadd, 1), some (.istore_n 2, 1), some (.iinc 3 1, 3), none, none, some (.goto (-35), 3)], [none, some (.iload_n 2, 1), some (.ireturn, 1)]]
def ft_I384 : List (List (Option (Instr × Nat))) := [[some (.iload_n 1, 1), some (.iconst 5, 1), some (.invokestatic 949, 3), none, none, some (.ifCond .ne 5, 3), none, none, some (.iconst (-1), 1), some (.ireturn, 1), some (.aload_n 0, 1), some (.getfield 403, 3), none, none, some (.getfield 967, 3), none, none, some (.ifCond .eq 6, 3), none, none, some (.bipush (-2), 2), none, some (.ireturn, 1), some (.iconst 0, 1), some (.istore_n 3, 1), some (.iconst 0, 1), some (.istore 4, 2), none, some (.iload 4, 2), none, some (.aload_n 0, 1), some (.getfield 403, 3)], [none, none, some (.getfield 162, 3), none, none, some (.if_icmp .ge 49, 3), none, none, some (.aload_n 0, 1), some (.getfield 403, 3), none, none, some (.getfield 120, 3), none, none, some (.iload 4, 2), none, some (.iaload, 1), some (.iload_n 1, 1), some (.if_icmp .ne 29, 3), none, none, some (.iload_n 3, 1), some (.iload_n 2, 1), some (.if_icmp .ne 21, 3), none, none, some (.aload_n 0, 1), some (.getfield 403, 3), none, none, some (.aload_n 0, 1)], [some (.getfield 403, 3), none, none, some (.getfield 168, 3), none, none, some (.iload 4, 2), none, some (.iaload, 1), some (.invokevirtual 171, 3), none, none, some (.ireturn, 1), some (.iinc 3 1, 3), none, none, some (.iinc 4 1, 3), none, none, some (.goto (-55), 3), none, none, some (.iconst (-1), 1), some (.ireturn, 1)]]
def ft_I385 : List (List (Option (Instr × Nat))) := [[some (.aload_n 0, 1), some (.iload_n 1, 1), some (.invokevirtual 970, 3), none, none, some (.istore_n 2, 1), some (.iload_n 2, 1), some (.ifCond .ge 6, 3), none, none, some (.bipush (-2), 2), none, some (.ireturn, 1), some (.iconst 0, 1), some (.istore_n 3, 1), some (.iconst 0, 1), some (.istore 4, 2), none, some (.iload 4, 2), none, some (.aload_n 0, 1), some (.getfield 403, 3), none, none, some (.getfield 103, 3), none, none, some (.getfield 634, 3), none, none, some (.if_icmp .ge 27, 3)], [none, some (.iload_n 3, 1), some (.aload_n 0, 1), some (.iload 4, 2), none, some (.invokevirtual 708, 3), none, none, some (.iload_n 2, 1), some (.if_icmp .ne 7, 3), none, none, some (.iconst 1, 1), some (.goto 4, 3), none, none, some (.iconst 0, 1), some (.iadd, 1), some (.istore_n 3, 1), some (.iinc 4 1, 3), none, none, some (.goto (-36), 3), none, none, some (.iload_n 3, 1), some (.ireturn, 1)]]
def ft_I386 : List (List (Option (Instr × Nat))) := [[some (.aload_n 0, 1), some (.getfield 403, 3), none, none, some (.getfield 967, 3), none, none, some (.ifCond .ne 14, 3), none, none, some (.aload_n 0, 1), some (.getfield 403, 3), none, none, some (.iload_n 1, 1), some (.invokevirtual 720, 3), none, none, some (.goto 4, 3), none, none, some (.iconst (-1), 1), some (.ireturn, 1)]]
def ft_I387 : List (List (Option (Instr × Nat))) := [[some (.aload_n 0, 1), some (.iload_n 1, 1), some (.invokevirtual 459, 3), none, none, some (.istore_n 2, 1), some (.iload_n 2, 1), some (.ifCond .lt 36, 3), none, none, some (.aload_n 0, 1), some (.getfield 107, 3), none, none, some (.iload_n 2, 1), some (.iaload, 1), some (.ifCond .lt 27, 3), none, none, some (.aload_n 0, 1), some (.getfield 70, 3), none, none, some (.aload_n 0, 1), some (.getfield 107, 3), none, none, some (.iload_n 2, 1), some (.iaload, 1), some (.iaload, 1), some (.iload_n 2, 1), some (.if_icmp .ne 12, 3)], [none, none, some (.aload_n 0, 1), some (.getfield 107, 3), none, none, some (.iload_n 2, 1), some (.iaload, 1), some (.goto 4, 3), none, none, some (.iconst (-1), 1), some (.ireturn, 1)]]
def ft_I389 : List (List (Option (Instr × Nat))) := [[some (.aload_n 0, 1), some (.iload_n 1, 1), some (.invokevirtual 970, 3), none, none, some (.istore_n 3, 1), some (.iload_n 3, 1), some (.ifCond .ge 6, 3), none, none, some (.bipush (-2), 2), none, some (.ireturn, 1), some (.iconst 0, 1), some (.istore 4, 2), none, some (.iconst 0, 1), some (.istore 5, 2), none, some (.iload 5, 2), none, some (.aload_n 0, 1), some (.getfield 403, 3), none, none, some (.getfield 103, 3), none, none, some (.getfield 634, 3), none, none, some (.if_icmp .ge 38, 3)], [none, none, some (.aload_n 0, 1), some (.iload 5, 2), none, some (.invokevirtual 708, 3), none, none, some (.iload_n 3, 1), some (.if_icmp .ne 22, 3), none, none, some (.iload 4, 2), none, some (.iload_n 2, 1), some (.if_icmp .ne 13, 3), none, none, some (.aload_n 0, 1), some (.getfield 403, 3), none, none, some (.iload 5, 2), none, some (.invokevirtual 171, 3), none, none, some (.ireturn, 1), some (.iinc 4 1, 3), none, none, some (.iinc 5 1, 3)], [none, none, some (.goto (-47), 3), none, none, some (.iconst (-1), 1), some (.ireturn, 1)]]
def ft_I390 : List (List (Option (Instr × Nat))) := [[some (.aload_n 0, 1), some (.iload_n 1, 1), some (.invokevirtual 970, 3), none, none, some (.istore_n 2, 1), some (.iload_n 2, 1), some (.ifCond .lt 16, 3), none, none, some (.aload_n 0, 1), some (.getfield 403, 3), none, none, some (.getfield 120, 3), none, none, some (.iload_n 2, 1), some (.iaload, 1), some (.iconst 2, 1), some (.if_icmp .eq 8, 3), none, none, some (.bipush (-2), 2), none, some (.goto 11, 3), none, none, some (.aload_n 0, 1), some (.getfield 403, 3)], [some (.iload_n 2, 1), some (.invokevirtual 794, 3), none, none, some (.ireturn, 1)]]
def ft_I393 : List (List (Option (Instr × Nat))) := [[some (.aload_n 0, 1), some (.getfield 973, 3), none, none, some (.bipush 50, 2), none, some (.if_icmp .ne 6, 3), none, none, some (.bipush (-3), 2), none, some (.ireturn, 1), some (.aload_n 0, 1), some (.getfield 397, 3), none, none, some (.aload_n 0, 1), some (.getfield 973, 3), none, none, some (.iload_n 1, 1), some (.iastore, 1), some (.aload_n 0, 1), some (.dup, 1), some (.getfield 973, 3), none, none, some (.iconst 1, 1), some (.iadd, 1), some (.putfield 973, 3)], [some (.aload_n 0, 1), some (.getfield 973, 3), none, none, some (.ireturn, 1)]]
def ft_I394 : List (List (Option (Instr × Nat))) := [[some (.aload_n 0, 1), some (.getfield 973, 3), none, none, some (.istore_n 1, 1), some (.aload_n 0, 1), some (.iconst 0, 1), some (.putfield 973, 3), none, none, some (.iload_n 1, 1), some (.ireturn, 1)]]
def ft_I395 : List (List (Option (Instr × Nat))) := [[some (.iload_n 1, 1), some (.iconst 2, 1), some (.invokestatic 949, 3), none, none, some (.ifCond .ne 5, 3), none, none, some (.iconst (-1), 1), some (.ireturn, 1), some (.aload_n 0, 1), some (.getfield 403, 3), none, none, some (.getfield 967, 3), none, none, some (.ifCond .ne 15, 3), none, none, some (.iload_n 1, 1), some (.iconst 1, 1), some (.if_icmp .ne 13, 3), none, none, some (.aload_n 0, 1), some (.getfield 955, 3), none, none, some (.ifCond .ne 6, 3)], [some (.bipush (-2), 2), none, some (.ireturn, 1), some (.iload_n 1, 1), some (.iconst 1, 1), some (.if_icmp .ne 17, 3), none, none, some (.aload_n 0, 1), some (.aload_n 0, 1), some (.getfield 409, 3), none, none, some (.aload_n 0, 1), some (.getfield 955, 3), none, none, some (.iconst 1, 1), some (.isub, 1), some (.invokevirtual 976, 3), none, none, some (.aload_n 0, 1), some (.aload_n 0, 1), some (.iload_n 1, 1), some (.ifCond .ne 10, 3), none, none, some (.aload_n 0, 1), some (.getfield 403, 3)], [some (.goto 7, 3), none, none, some (.aload_n 0, 1), some (.getfield 409, 3), none, none, some (.aload_n 0, 1), some (.getfield 397, 3), none, none, some (.aload_n 0, 1), some (.getfield 973, 3), none, none, some (.invokevirtual 980, 3), none, none, some (.putfield 984, 3), none, none, some (.aload_n 0, 1), some (.iconst 1, 1), some (.putfield 964, 3), none, none, some (.aload_n 0, 1), some (.aload_n 0, 1), some (.getfield 205, 3), none, none, some (.putfield 987, 3)], [none, none, some (.aload_n 0, 1), some (.aload_n 0, 1), some (.getfield 217, 3), none, none, some (.putfield 990, 3), none, none, some (.aload_n 0, 1), some (.aload_n 0, 1), some (.getfield 229, 3), none, none, some (.putfield 993, 3), none, none, some (.aload_n 0, 1), some (.aload_n 0, 1), some (.getfield 984, 3), none, none, some (.ifCond .ne 8, 3), none, none, some (.bipush (-2), 2), none, some (.goto 7, 3), none, none, some (.aload_n 0, 1)], [some (.getfield 199, 3), none, none, some (.putfield 507, 3), none, none, some (.aload_n 0, 1), some (.aload_n 0, 1), some (.getfield 220, 3), none, none, some (.putfield 996, 3), none, none, some (.aload_n 0, 1), some (.getfield 380, 3), none, none, some (.iconst 0, 1), some (.aload_n 0, 1), some (.getfield 510, 3), none, none, some (.iconst 0, 1), some (.aload_n 0, 1), some (.getfield 220, 3), none, none, some (.invokestatic 51, 3), none, none, some (.aload_n 0, 1)], [some (.getfield 984, 3), none, none, some (.ireturn, 1)]]
def ft_I397 : List (List (Option (Instr × Nat))) := [[some (.aload_n 0, 1), some (.aload_n 1, 1), some (.putfield 80, 3), none, none, some (.aload_n 0, 1), some (.dup, 1), some (.getfield 211, 3), none, none, some (.iconst 1, 1), some (.iadd, 1), some (.putfield 211, 3), none, none, some (.aload_n 0, 1), some (.iconst 0, 1), some (.putfield 193, 3), none, none, some (.aload_n 0, 1), some (.bipush (-2), 2), none, some (.putfield 199, 3), none, none, some (.aload_n 0, 1), some (.iconst 0, 1), some (.putfield 205, 3), none, none, some (.aload_n 0, 1)], [some (.iconst 0, 1), some (.putfield 214, 3), none, none, some (.aload_n 0, 1), some (.iconst 0, 1), some (.putfield 217, 3), none, none, some (.aload_n 0, 1), some (.iconst 0, 1), some (.putfield 220, 3), none, none, some (.aload_n 0, 1), some (.aload_n 2, 1), some (.putfield 223, 3), none, none, some (.aload_n 0, 1), some (.iload_n 3, 1), some (.putfield 226, 3), none, none, some (.aload_n 0, 1), some (.iconst 0, 1), some (.putfield 229, 3), none, none, some (.aload_n 0, 1), some (.iconst 0, 1), some (.putfield 232, 3)], [none, none, some (.aload_n 0, 1), some (.iconst 0, 1), some (.putfield 235, 3), none, none, some (.aload_n 0, 1), some (.iconst 0, 1), some (.putfield 238, 3), none, none, some (.aload_n 0, 1), some (.iconst 0, 1), some (.putfield 241, 3), none, none, some (.aload_n 0, 1), some (.iconst 0, 1), some (.putfield 244, 3), none, none, some (.aload_n 0, 1), some (.bipush (-2), 2), none, some (.putfield 196, 3), none, none, some (.aload_n 0, 1), some (.iconst 0, 1), some (.putfield 247, 3)], [none, some (.aload_n 0, 1), some (.iconst 0, 1), some (.putfield 250, 3), none, none, some (.iconst 0, 1), some (.istore 4, 2), none, some (.iload 4, 2), none, some (.aload_n 1, 1), some (.getfield 162, 3), none, none, some (.if_icmp .ge 17, 3), none, none, some (.aload_n 0, 1), some (.getfield 253, 3), none, none, some (.iload 4, 2), none, some (.iconst 0, 1), some (.iastore, 1), some (.iinc 4 1, 3), none, none, some (.goto (-20), 3)], [some (.aload_n 0, 1), some (.invokevirtual 255, 3), none, none, some (.aload_n 0, 1), some (.iconst 1, 1), some (.putfield 259, 3), none, none, some (.aload_n 0, 1), some (.invokevirtual 262, 3), none, none, some (.aload_n 0, 1), some (.bipush (-2), 2), none, some (.putfield 196, 3), none, none, some (.aload_n 0, 1), some (.aload_n 1, 1), some (.invokevirtual 265, 3), none, none, some (.istore 4, 2), none, some (.iload 4, 2), none, some (.ifCond .ge 9, 3), none, none, some (.aload_n 0, 1)], [some (.bipush 7, 2), none, some (.invokevirtual 208, 3), none, none, some (.aload_n 0, 1), some (.iconst 0, 1), some (.putfield 259, 3), none, none, some (.aload_n 0, 1), some (.iload 4, 2), none, some (.iconst 0, 1), some (.iconst 0, 1), some (.iconst 0, 1), some (.invokevirtual 269, 3), none, none, some (.aload_n 0, 1), some (.invokevirtual 262, 3), none, none, some (.goto 10, 3), none, none, some (.astore 4, 2), none, some (.aload_n 0, 1), some (.getfield 193, 3)], [some (.ireturn, 1), some (.iconst 0, 1), some (.ireturn, 1)]]
def ft_I398 : List (List (Option (Instr × Nat))) := [[some (.aload_n 0, 1), some (.getfield 80, 3), none, none, some (.astore_n 1, 1), some (.iconst 0, 1), some (.istore_n 2, 1), some (.iload_n 2, 1), some (.aload_n 1, 1), some (.getfield 175, 3), none, none, some (.if_icmp .ge 16, 3), none, none, some (.aload_n 0, 1), some (.getfield 73, 3), none, none, some (.iload_n 2, 1), some (.iload_n 2, 1), some (.iastore, 1), some (.iinc 2 1, 3), none, none, some (.goto (-18), 3), none, none, some (.iconst 0, 1), some (.istore_n 2, 1), some (.iload_n 2, 1), some (.aload_n 1, 1)], [some (.getfield 175, 3), none, none, some (.if_icmp .ge 41, 3), none, none, some (.aload_n 1, 1), some (.getfield 84, 3), none, none, some (.iload_n 2, 1), some (.iaload, 1), some (.istore_n 3, 1), some (.iload_n 3, 1), some (.ifCond .lt 24, 3), none, none, some (.aload_n 0, 1), some (.getfield 73, 3), none, none, some (.iload_n 3, 1), some (.aload_n 0, 1), some (.getfield 73, 3), none, none, some (.iload_n 3, 1), some (.iaload, 1), some (.aload_n 0, 1), some (.getfield 73, 3)], [some (.iload_n 2, 1), some (.iaload, 1), some (.invokestatic 178, 3), none, none, some (.iastore, 1), some (.iinc 2 1, 3), none, none, some (.goto (-43), 3), none, none, some (.aload_n 0, 1), some (.iconst 0, 1), some (.putfield 60, 3), none, none, some (.aload_n 0, 1), some (.iconst 0, 1), some (.iconst 0, 1), some (.iconst 0, 1), some (.invokevirtual 99, 3), none, none, some (.pop, 1), some (.iconst 0, 1), some (.istore_n 2, 1), some (.iload_n 2, 1), some (.aload_n 1, 1), some (.getfield 162, 3)], [some (.if_icmp .ge 74, 3), none, none, some (.aload_n 1, 1), some (.getfield 120, 3), none, none, some (.iload_n 2, 1), some (.iaload, 1), some (.iconst 1, 1), some (.if_icmp .ne 58, 3), none, none, some (.aload_n 1, 1), some (.getfield 121, 3), none, none, some (.iload_n 2, 1), some (.baload, 1), some (.ifCond .eq 49, 3), none, none, some (.aload_n 1, 1), some (.getfield 165, 3), none, none, some (.iload_n 2, 1), some (.iaload, 1), some (.ifCond .lt 40, 3), none, none, some (.aload_n 0, 1)], [some (.bipush 26, 2), none, some (.aload_n 1, 1), some (.aload_n 1, 1), some (.getfield 168, 3), none, none, some (.iload_n 2, 1), some (.iaload, 1), some (.invokevirtual 171, 3), none, none, some (.iconst 0, 1), some (.invokevirtual 99, 3), none, none, some (.pop, 1), some (.aload_n 0, 1), some (.aload_n 1, 1), some (.getfield 165, 3), none, none, some (.iload_n 2, 1), some (.iaload, 1), some (.invokevirtual 134, 3), none, none, some (.aload_n 0, 1), some (.bipush 18, 2), none, some (.iload_n 2, 1), some (.iconst 0, 1)], [some (.invokevirtual 99, 3), none, none, some (.pop, 1), some (.iinc 2 1, 3), none, none, some (.goto (-76), 3), none, none, some (.aload_n 0, 1), some (.iconst 0, 1), some (.iconst 0, 1), some (.iconst 0, 1), some (.invokevirtual 99, 3), none, none, some (.pop, 1), some (.iconst 0, 1), some (.istore_n 2, 1), some (.iload_n 2, 1), some (.aload_n 1, 1), some (.getfield 162, 3), none, none, some (.if_icmp .ge 56, 3), none, none, some (.aload_n 1, 1), some (.getfield 120, 3)], [some (.iload_n 2, 1), some (.iaload, 1), some (.iconst 2, 1), some (.if_icmp .ne 40, 3), none, none, some (.aload_n 0, 1), some (.getfield 181, 3), none, none, some (.iload_n 2, 1), some (.aload_n 0, 1), some (.getfield 60, 3), none, none, some (.iastore, 1), some (.aload_n 0, 1), some (.aload_n 1, 1), some (.getfield 165, 3), none, none, some (.iload_n 2, 1), some (.iaload, 1), some (.invokevirtual 146, 3), none, none, some (.aload_n 0, 1), some (.iconst 1, 1), some (.iconst 0, 1), some (.iconst 0, 1), some (.invokevirtual 99, 3)], [none, some (.pop, 1), some (.aload_n 0, 1), some (.bipush 24, 2), none, some (.iconst 0, 1), some (.iconst 0, 1), some (.invokevirtual 99, 3), none, none, some (.pop, 1), some (.iinc 2 1, 3), none, none, some (.goto (-58), 3), none, none, some (.iconst 0, 1), some (.istore_n 2, 1), some (.iload_n 2, 1), some (.aload_n 1, 1), some (.getfield 184, 3), none, none, some (.if_icmp .ge 24, 3), none, none, some (.aload_n 0, 1), some (.getfield 187, 3), none, none, some (.iload_n 2, 1)], [some (.aload_n 0, 1), some (.getfield 60, 3), none, none, some (.iastore, 1), some (.aload_n 0, 1), some (.iload_n 2, 1), some (.invokevirtual 190, 3), none, none, some (.iinc 2 1, 3), none, none, some (.goto (-26), 3), none, none, some (.return_, 1)]]
def ft_I399 : List (List (Option (Instr × Nat))) := [[some (.aload_n 0, 1), some (.aload_n 0, 1), some (.getfield 57, 3), none, none, some (.aload_n 0, 1), some (.getfield 60, 3), none, none, some (.iconst 1, 1), some (.iadd, 1), some (.invokestatic 63, 3), none, none, some (.putfield 57, 3), none, none, some (.aload_n 0, 1), some (.aload_n 0, 1), some (.getfield 67, 3), none, none, some (.aload_n 0, 1), some (.getfield 60, 3), none, none, some (.iconst 1, 1), some (.iadd, 1), some (.invokestatic 63, 3), none, none, some (.putfield 67, 3)], [none, none, some (.aload_n 0, 1), some (.aload_n 0, 1), some (.getfield 70, 3), none, none, some (.aload_n 0, 1), some (.getfield 60, 3), none, none, some (.iconst 1, 1), some (.iadd, 1), some (.invokestatic 63, 3), none, none, some (.putfield 70, 3), none, none, some (.aload_n 0, 1), some (.getfield 57, 3), none, none, some (.aload_n 0, 1), some (.getfield 60, 3), none, none, some (.iload_n 1, 1), some (.iastore, 1), some (.aload_n 0, 1), some (.getfield 67, 3)], [none, some (.aload_n 0, 1), some (.getfield 60, 3), none, none, some (.iload_n 2, 1), some (.iastore, 1), some (.aload_n 0, 1), some (.getfield 70, 3), none, none, some (.aload_n 0, 1), some (.getfield 60, 3), none, none, some (.iload_n 3, 1), some (.iastore, 1), some (.aload_n 0, 1), some (.dup, 1), some (.getfield 60, 3), none, none, some (.iconst 1, 1), some (.iadd, 1), some (.putfield 60, 3), none, none, some (.aload_n 0, 1), some (.getfield 60, 3), none, none, some (.iconst 1, 1)], [some (.isub, 1), some (.ireturn, 1)]]
def ft_I400 : List (List (Option (Instr × Nat))) := [[some (.iload_n 1, 1), some (.aload_n 0, 1), some (.arraylength, 1), some (.if_icmp .gt 5, 3), none, none, some (.aload_n 0, 1), some (.areturn, 1), some (.iload_n 1, 1), some (.iconst 2, 1), some (.aload_n 0, 1), some (.arraylength, 1), some (.imul, 1), some (.invokestatic 45, 3), none, none, some (.newarray .int, 2), none, some (.astore_n 2, 1), some (.aload_n 0, 1), some (.iconst 0, 1), some (.aload_n 2, 1), some (.iconst 0, 1), some (.aload_n 0, 1), some (.arraylength, 1), some (.invokestatic 51, 3), none, none, some (.aload_n 2, 1), some (.areturn, 1)]]
def ft_I406 : List (List (Option (Instr × Nat))) := [[some (.aload_n 0, 1), some (.getfield 57, 3), none, none, some (.aload_n 0, 1), some (.getfield 259, 3), none, none, some (.iaload, 1), some (.ifCond .eq 73, 3), none, none, some (.aload_n 0, 1), some (.getfield 259, 3), none, none, some (.istore_n 1, 1), some (.aload_n 0, 1), some (.dup, 1), some (.getfield 259, 3), none, none, some (.iconst 1, 1), some (.iadd, 1), some (.putfield 259, 3), none, none, some (.aload_n 0, 1), some (.getfield 57, 3), none, none, some (.iload_n 1, 1)], [some (.iaload, 1), some (.bipush 15, 2), none, some (.if_icmp .ge 28, 3), none, none, some (.aload_n 0, 1), some (.aload_n 0, 1), some (.getfield 57, 3), none, none, some (.iload_n 1, 1), some (.iaload, 1), some (.aload_n 0, 1), some (.getfield 67, 3), none, none, some (.iload_n 1, 1), some (.iaload, 1), some (.aload_n 0, 1), some (.getfield 70, 3), none, none, some (.iload_n 1, 1), some (.iaload, 1), some (.invokevirtual 349, 3), none, none, some (.goto 19, 3), none, none, some (.aload_n 0, 1)], [some (.aload_n 0, 1), some (.getfield 57, 3), none, none, some (.iload_n 1, 1), some (.iaload, 1), some (.aload_n 0, 1), some (.getfield 67, 3), none, none, some (.iload_n 1, 1), some (.iaload, 1), some (.invokevirtual 353, 3), none, none, some (.goto (-79), 3), none, none, some (.return_, 1)]]
def ft_I412 : List (List (Option (Instr × Nat))) := [[some (.aload_n 0, 1), some (.iload_n 1, 1), some (.putfield 193, 3), none, none, some (.aload_n 0, 1), some (.aload_n 0, 1), some (.getfield 196, 3), none, none, some (.putfield 199, 3), none, none, some (.aload_n 0, 1), some (.getfield 202, 3), none, none, some (.athrow, 1)]]
def ft_I423 : List (List (Option (Instr × Nat))) := [[some (.iconst 0, 1), some (.istore_n 2, 1), some (.iload_n 2, 1), some (.aload_n 1, 1), some (.getfield 162, 3), none, none, some (.if_icmp .ge 20, 3), none, none, some (.aload_n 0, 1), some (.aload_n 1, 1), some (.iload_n 2, 1), some (.invokevirtual 275, 3), none, none, some (.ifCond .eq 5, 3), none, none, some (.iload_n 2, 1), some (.ireturn, 1), some (.iinc 2 1, 3), none, none, some (.goto (-22), 3), none, none, some (.iconst (-1), 1), some (.ireturn, 1)]]
def ft_I425 : List (List (Option (Instr × Nat))) := [[some (.iload_n 1, 1), some (.iconst 5, 1), some (.invokestatic 949, 3), none, none, some (.ifCond .ne 5, 3), none, none, some (.iconst (-1), 1), some (.ireturn, 1), some (.aload_n 0, 1), some (.getfield 964, 3), none, none, some (.ifCond .ne 6, 3), none, none, some (.bipush (-2), 2), none, some (.ireturn, 1), some (.iload_n 1, 1), some (.ifCond .ne 10, 3), none, none, some (.aload_n 0, 1), some (.getfield 996, 3), none, none, some (.goto 43, 3), none, none, some (.iload_n 1, 1)], [some (.iconst 1, 1), some (.if_icmp .ne 10, 3), none, none, some (.aload_n 0, 1), some (.getfield 987, 3), none, none, some (.goto 31, 3), none, none, some (.iload_n 1, 1), some (.iconst 2, 1), some (.if_icmp .ne 10, 3), none, none, some (.aload_n 0, 1), some (.getfield 990, 3), none, none, some (.goto 19, 3), none, none, some (.iload_n 1, 1), some (.iconst 3, 1), some (.if_icmp .ne 10, 3), none, none, some (.aload_n 0, 1), some (.getfield 993, 3)], [some (.goto 7, 3), none, none, some (.aload_n 0, 1), some (.getfield 507, 3), none, none, some (.ireturn, 1)]]
def ft_I426 : List (List (Option (Instr × Nat))) := [[some (.aload_n 0, 1), some (.getfield 964, 3), none, none, some (.ifCond .eq 23, 3), none, none, some (.iload_n 1, 1), some (.aload_n 0, 1), some (.getfield 996, 3), none, none, some (.invokestatic 949, 3), none, none, some (.ifCond .eq 12, 3), none, none, some (.aload_n 0, 1), some (.getfield 510, 3), none, none, some (.iload_n 1, 1), some (.iaload, 1), some (.goto 4, 3), none, none, some (.iconst 0, 1), some (.ireturn, 1)]]
def ft_I427 : List (List (Option (Instr × Nat))) := [[some (.iload_n 1, 1), some (.iconst 1, 1), some (.if_icmp .lt 9, 3), none, none, some (.iload_n 1, 1), some (.bipush 20, 2), none, some (.if_icmp .le 5, 3), none, none, some (.iconst (-1), 1), some (.ireturn, 1), some (.aload_n 0, 1), some (.getfield 403, 3), none, none, some (.getfield 967, 3), none, none, some (.ifCond .ne 10, 3), none, none, some (.aload_n 0, 1), some (.getfield 955, 3), none, none, some (.ifCond .ne 6, 3), none, none, some (.bipush (-2), 2)], [some (.ireturn, 1), some (.aload_n 0, 1), some (.aload_n 0, 1), some (.getfield 409, 3), none, none, some (.aload_n 0, 1), some (.getfield 955, 3), none, none, some (.iconst 1, 1), some (.isub, 1), some (.invokevirtual 976, 3), none, none, some (.iload_n 2, 1), some (.istore_n 3, 1), some (.iconst 0, 1), some (.istore 4, 2), none, some (.iconst 1, 1), some (.istore 5, 2), none, some (.iconst 0, 1), some (.istore 6, 2), none, some (.iload 6, 2), none, some (.iload_n 1, 1), some (.if_icmp .ge 197, 3)], [some (.iload 5, 2), none, some (.ifCond .eq 192, 3), none, none, some (.iconst 0, 1), some (.istore 7, 2), none, some (.iload 7, 2), none, some (.bipush 8, 2), none, some (.if_icmp .ge 40, 3), none, none, some (.iload_n 3, 1), some (.ldc_w 999, 3), none, none, some (.imul, 1), some (.sipush 12345, 3), none, none, some (.iadd, 1), some (.istore_n 3, 1), some (.aload_n 0, 1), some (.getfield 513, 3), none, none, some (.iload 7, 2), none, some (.iload_n 3, 1)], [some (.bipush 16, 2), none, some (.iushr, 1), some (.sipush 32767, 3), none, none, some (.iand, 1), some (.bipush 21, 2), none, some (.irem, 1), some (.bipush 10, 2), none, some (.isub, 1), some (.iastore, 1), some (.iinc 7 1, 3), none, none, some (.goto (-41), 3), none, none, some (.aload_n 0, 1), some (.aload_n 0, 1), some (.getfield 409, 3), none, none, some (.aload_n 0, 1), some (.getfield 513, 3), none, none, some (.bipush 8, 2), none, some (.invokevirtual 980, 3)], [none, none, some (.istore 7, 2), none, some (.aload_n 0, 1), some (.getfield 220, 3), none, none, some (.istore 8, 2), none, some (.aload_n 0, 1), some (.getfield 380, 3), none, none, some (.iconst 0, 1), some (.aload_n 0, 1), some (.getfield 516, 3), none, none, some (.iconst 0, 1), some (.iload 8, 2), none, some (.invokestatic 51, 3), none, none, some (.aload_n 0, 1), some (.aload_n 0, 1), some (.getfield 403, 3), none, none, some (.aload_n 0, 1), some (.getfield 513, 3)], [none, none, some (.bipush 8, 2), none, some (.invokevirtual 980, 3), none, none, some (.istore 9, 2), none, some (.iload 7, 2), none, some (.iload 9, 2), none, some (.if_icmp .ne 16, 3), none, none, some (.iload 8, 2), none, some (.aload_n 0, 1), some (.getfield 220, 3), none, none, some (.if_icmp .ne 7, 3), none, none, some (.iconst 1, 1), some (.goto 4, 3), none, none, some (.iconst 0, 1), some (.istore 5, 2)], [some (.iconst 0, 1), some (.istore 10, 2), none, some (.iload 10, 2), none, some (.iload 8, 2), none, some (.if_icmp .ge 38, 3), none, none, some (.iload 5, 2), none, some (.ifCond .eq 33, 3), none, none, some (.aload_n 0, 1), some (.getfield 380, 3), none, none, some (.iload 10, 2), none, some (.iaload, 1), some (.aload_n 0, 1), some (.getfield 516, 3), none, none, some (.iload 10, 2), none, some (.iaload, 1), some (.if_icmp .ne 7, 3)], [some (.iconst 1, 1), some (.goto 4, 3), none, none, some (.iconst 0, 1), some (.istore 5, 2), none, some (.iinc 10 1, 3), none, none, some (.goto (-39), 3), none, none, some (.iload 4, 2), none, some (.iload 5, 2), none, some (.ifCond .eq 7, 3), none, none, some (.iconst 1, 1), some (.goto 4, 3), none, none, some (.iconst 0, 1), some (.iadd, 1), some (.istore 4, 2), none, some (.iinc 6 1, 3), none, none, some (.goto (-197), 3)], [none, none, some (.iload 4, 2), none, some (.ireturn, 1)]]
def ft_I428 : List (List (Option (Instr × Nat))) := [[some (.iload_n 1, 1), some (.bipush 12, 2), none, some (.invokestatic 949, 3), none, none, some (.ifCond .ne 5, 3), none, none, some (.iconst (-1), 1), some (.ireturn, 1), some (.aload_n 0, 1), some (.getfield 403, 3), none, none, some (.getfield 967, 3), none, none, some (.ifCond .eq 6, 3), none, none, some (.bipush (-2), 2), none, some (.ireturn, 1), some (.aload_n 0, 1), some (.aload_n 0, 1), some (.getfield 940, 3), none, none, some (.putfield 553, 3)], [some (.aload_n 0, 1), some (.aload_n 0, 1), some (.getfield 453, 3), none, none, some (.invokevirtual 952, 3), none, none, some (.aload_n 0, 1), some (.iload_n 1, 1), some (.iload_n 2, 1), some (.iload_n 3, 1), some (.invokevirtual 1000, 3), none, none, some (.ireturn, 1)]]
def ft_I429 : List (List (Option (Instr × Nat))) := [[some (.aload_n 0, 1), some (.invokevirtual 665, 3), none, none, some (.aload_n 0, 1), some (.invokevirtual 668, 3), none, none, some (.aload_n 0, 1), some (.iconst (-1), 1), some (.putfield 662, 3), none, none, some (.iload_n 1, 1)], [], [none, none, none, none, none, none, none, none, some (.aload_n 0, 1), some (.iload_n 2, 1), some (.invokevirtual 671, 3), none, none, some (.ireturn, 1), some (.aload_n 0, 1), some (.iload_n 2, 1), some (.invokevirtual 674, 3), none, none, some (.ireturn, 1), some (.aload_n 0, 1), some (.iload_n 2, 1), some (.iload_n 3, 1), some (.invokevirtual 677, 3), none, none, some (.ireturn, 1), some (.aload_n 0, 1), some (.iload_n 2, 1), some (.iload_n 3, 1), some (.invokevirtual 680, 3)], [none, some (.ireturn, 1), some (.aload_n 0, 1), some (.iload_n 2, 1), some (.invokevirtual 683, 3), none, none, some (.ireturn, 1), some (.aload_n 0, 1), some (.iload_n 2, 1), some (.invokevirtual 686, 3), none, none, some (.ireturn, 1), some (.aload_n 0, 1), some (.iload_n 1, 1), some (.iload_n 2, 1), some (.invokevirtual 689, 3), none, none, some (.ireturn, 1), some (.aload_n 0, 1), some (.iload_n 2, 1), some (.invokevirtual 692, 3), none, none, some (.ireturn, 1), some (.aload_n 0, 1), some (.iload_n 2, 1), some (.invokevirtual 695, 3)], [some (.ireturn, 1), some (.aload_n 0, 1), some (.iload_n 2, 1), some (.invokevirtual 698, 3), none, none, some (.ireturn, 1), some (.aload_n 0, 1), some (.iload_n 2, 1), some (.invokevirtual 701, 3), none, none, some (.ireturn, 1)]]
def ft_I430 : List (List (Option (Instr × Nat))) := [[some (.iconst 0, 1), some (.istore_n 1, 1), some (.iload_n 1, 1), some (.aload_n 0, 1), some (.getfield 403, 3), none, none, some (.getfield 103, 3), none, none, some (.getfield 634, 3), none, none, some (.if_icmp .ge 16, 3), none, none, some (.aload_n 0, 1), some (.getfield 471, 3), none, none, some (.iload_n 1, 1), some (.iconst 0, 1), some (.bastore, 1), some (.iinc 1 1, 3), none, none, some (.goto (-24), 3), none, none, some (.iconst 0, 1), some (.istore_n 1, 1), some (.iload_n 1, 1)], [some (.aload_n 0, 1), some (.getfield 403, 3), none, none, some (.getfield 175, 3), none, none, some (.if_icmp .ge 46, 3), none, none, some (.aload_n 0, 1), some (.getfield 403, 3), none, none, some (.getfield 87, 3), none, none, some (.iload_n 1, 1), some (.iaload, 1), some (.bipush 22, 2), none, some (.if_icmp .ne 26, 3), none, none, some (.aload_n 0, 1), some (.getfield 471, 3), none, none, some (.aload_n 0, 1), some (.getfield 403, 3)], [some (.getfield 110, 3), none, none, some (.aload_n 0, 1), some (.getfield 403, 3), none, none, some (.getfield 90, 3), none, none, some (.iload_n 1, 1), some (.iaload, 1), some (.iaload, 1), some (.iconst 1, 1), some (.bastore, 1), some (.iinc 1 1, 3), none, none, some (.goto (-51), 3), none, none, some (.return_, 1)]]
def ft_I431 : List (List (Option (Instr × Nat))) := [[some (.aload_n 0, 1), some (.getfield 403, 3), none, none, some (.iload_n 1, 1), some (.invokevirtual 610, 3), none, none, some (.istore_n 2, 1), some (.iload_n 2, 1), some (.ifCond .ge 10, 3), none, none, some (.aload_n 0, 1), some (.iconst 1, 1), some (.iload_n 1, 1), some (.invokevirtual 622, 3), none, none, some (.ireturn, 1), some (.aload_n 0, 1), some (.invokevirtual 704, 3), none, none, some (.ifCond .ne 10, 3), none, none, some (.aload_n 0, 1), some (.iconst 2, 1), some (.iload_n 1, 1), some (.invokevirtual 622, 3)], [none, some (.ireturn, 1), some (.aload_n 0, 1), some (.getfield 403, 3), none, none, some (.getfield 117, 3), none, none, some (.iload_n 2, 1), some (.iaload, 1), some (.istore_n 3, 1), some (.iconst 0, 1), some (.istore 4, 2), none, some (.iload 4, 2), none, some (.aload_n 0, 1), some (.getfield 403, 3), none, none, some (.getfield 103, 3), none, none, some (.getfield 634, 3), none, none, some (.if_icmp .ge 80, 3), none, none, some (.aload_n 0, 1), some (.iload 4, 2)], [none, some (.invokevirtual 708, 3), none, none, some (.istore 5, 2), none, some (.iload 5, 2), none, some (.iload_n 3, 1), some (.if_icmp .eq 34, 3), none, none, some (.iload 5, 2), none, some (.ifCond .lt 55, 3), none, none, some (.aload_n 0, 1), some (.getfield 403, 3), none, none, some (.getfield 120, 3), none, none, some (.iload_n 3, 1), some (.iaload, 1), some (.iconst 2, 1), some (.if_icmp .ne 42, 3), none, none, some (.aload_n 0, 1), some (.getfield 403, 3)], [none, none, some (.iload_n 3, 1), some (.iload 5, 2), none, some (.invokevirtual 711, 3), none, none, some (.ifCond .eq 29, 3), none, none, some (.aload_n 0, 1), some (.iload 4, 2), none, some (.iload 4, 2), none, some (.invokevirtual 714, 3), none, none, some (.aload_n 0, 1), some (.iconst 4, 1), some (.aload_n 0, 1), some (.getfield 403, 3), none, none, some (.iload 4, 2), none, some (.invokevirtual 171, 3), none, none, some (.aload_n 0, 1), some (.getfield 553, 3)], [none, none, some (.invokevirtual 547, 3), none, none, some (.iinc 4 1, 3), none, none, some (.goto (-89), 3), none, none, some (.aload_n 0, 1), some (.invokevirtual 717, 3), none, none, some (.ireturn, 1)]]
def ft_I432 : List (List (Option (Instr × Nat))) := [[some (.aload_n 0, 1), some (.iload_n 2, 1), some (.putfield 415, 3), none, none, some (.iload_n 1, 1), some (.ireturn, 1)]]
def ft_I450 : List (List (Option (Instr × Nat))) := [[some (.aload_n 0, 1), some (.getfield 403, 3), none, none, some (.iload_n 1, 1), some (.invokevirtual 720, 3), none, none, some (.istore_n 2, 1), some (.iload_n 2, 1), some (.ifCond .lt 16, 3), none, none, some (.aload_n 0, 1), some (.getfield 403, 3), none, none, some (.getfield 120, 3), none, none, some (.iload_n 2, 1), some (.iaload, 1), some (.iconst 4, 1), some (.if_icmp .eq 10, 3), none, none, some (.aload_n 0, 1), some (.iconst 1, 1), some (.iload_n 1, 1), some (.invokevirtual 622, 3)], [some (.ireturn, 1), some (.aload_n 0, 1), some (.getfield 403, 3), none, none, some (.getfield 165, 3), none, none, some (.iload_n 2, 1), some (.iaload, 1), some (.istore_n 3, 1), some (.aload_n 0, 1), some (.getfield 403, 3), none, none, some (.getfield 90, 3), none, none, some (.iload_n 3, 1), some (.iaload, 1), some (.istore 4, 2), none, some (.aload_n 0, 1), some (.getfield 403, 3), none, none, some (.getfield 168, 3), none, none, some (.iload_n 2, 1), some (.iaload, 1), some (.istore 5, 2)], [none, some (.iconst 0, 1), some (.istore 6, 2), none, some (.iload 6, 2), none, some (.aload_n 0, 1), some (.getfield 403, 3), none, none, some (.getfield 103, 3), none, none, some (.getfield 634, 3), none, none, some (.if_icmp .ge 42, 3), none, none, some (.aload_n 0, 1), some (.iload 6, 2), none, some (.invokevirtual 708, 3), none, none, some (.iload_n 2, 1), some (.if_icmp .ne 26, 3), none, none, some (.iload 6, 2), none, some (.iload 5, 2)], [none, some (.if_icmp .eq 19, 3), none, none, some (.aload_n 0, 1), some (.getfield 471, 3), none, none, some (.iload 6, 2), none, some (.baload, 1), some (.ifCond .eq 9, 3), none, none, some (.aload_n 0, 1), some (.iload 6, 2), none, some (.invokevirtual 723, 3), none, none, some (.iinc 6 1, 3), none, none, some (.goto (-51), 3), none, none, some (.aload_n 0, 1), some (.invokevirtual 726, 3), none, none, some (.ifCond .eq 13, 3)], [none, some (.aload_n 0, 1), some (.iconst 3, 1), some (.aload_n 0, 1), some (.getfield 662, 3), none, none, some (.invokevirtual 622, 3), none, none, some (.ireturn, 1), some (.aload_n 0, 1), some (.iload 4, 2), none, some (.invokevirtual 653, 3), none, none, some (.ifCond .ne 26, 3), none, none, some (.aload_n 0, 1), some (.iconst 4, 1), some (.aload_n 0, 1), some (.getfield 403, 3), none, none, some (.aload_n 0, 1), some (.getfield 403, 3), none, none, some (.getfield 140, 3)], [none, some (.iload 4, 2), none, some (.iaload, 1), some (.invokevirtual 171, 3), none, none, some (.invokevirtual 622, 3), none, none, some (.ireturn, 1), some (.aload_n 0, 1), some (.getfield 403, 3), none, none, some (.getfield 729, 3), none, none, some (.iload_n 3, 1), some (.iaload, 1), some (.istore 6, 2), none, some (.aload_n 0, 1), some (.getfield 403, 3), none, none, some (.getfield 656, 3), none, none, some (.iload 6, 2), none, some (.iaload, 1)], [some (.istore 7, 2), none, some (.iload 7, 2), none, some (.aload_n 0, 1), some (.getfield 403, 3), none, none, some (.getfield 659, 3), none, none, some (.iload 6, 2), none, some (.iaload, 1), some (.if_icmp .gt 100, 3), none, none, some (.aload_n 0, 1), some (.getfield 471, 3), none, none, some (.iload 7, 2), none, some (.baload, 1), some (.ifCond .eq 84, 3), none, none, some (.aload_n 0, 1), some (.aload_n 0, 1), some (.iload 7, 2), none, some (.invokevirtual 708, 3)], [none, none, some (.aload_n 0, 1), some (.getfield 403, 3), none, none, some (.getfield 140, 3), none, none, some (.iload 4, 2), none, some (.iaload, 1), some (.aload_n 0, 1), some (.getfield 403, 3), none, none, some (.getfield 568, 3), none, none, some (.iload 4, 2), none, some (.iaload, 1), some (.invokevirtual 732, 3), none, none, some (.ifCond .eq 51, 3), none, none, some (.aload_n 0, 1), some (.getfield 403, 3)], [some (.getfield 120, 3), none, none, some (.aload_n 0, 1), some (.iload 7, 2), none, some (.invokevirtual 708, 3), none, none, some (.iaload, 1), some (.iconst 3, 1), some (.if_icmp .lt 33, 3), none, none, some (.iload 7, 2), none, some (.aload_n 0, 1), some (.getfield 403, 3), none, none, some (.getfield 568, 3), none, none, some (.iload_n 3, 1), some (.iaload, 1), some (.if_icmp .gt 13, 3), none, none, some (.aload_n 0, 1), some (.iload_n 3, 1), some (.iload 7, 2)], [some (.invokevirtual 736, 3), none, none, some (.ifCond .eq 9, 3), none, none, some (.aload_n 0, 1), some (.iload 7, 2), none, some (.invokevirtual 723, 3), none, none, some (.iinc 7 1, 3), none, none, some (.goto (-109), 3), none, none, some (.aload_n 0, 1), some (.invokevirtual 726, 3), none, none, some (.ifCond .eq 13, 3), none, none, some (.aload_n 0, 1), some (.iconst 5, 1), some (.aload_n 0, 1), some (.getfield 662, 3), none, none, some (.invokevirtual 622, 3)], [none, none, some (.ireturn, 1), some (.iconst 0, 1), some (.istore 7, 2), none, some (.iload 7, 2), none, some (.aload_n 0, 1), some (.getfield 403, 3), none, none, some (.getfield 103, 3), none, none, some (.getfield 634, 3), none, none, some (.if_icmp .ge 40, 3), none, none, some (.aload_n 0, 1), some (.iload 7, 2), none, some (.invokevirtual 708, 3), none, none, some (.iload_n 2, 1), some (.if_icmp .ne 24, 3), none, none, some (.iload 7, 2)], [none, some (.iload 5, 2), none, some (.if_icmp .eq 17, 3), none, none, some (.aload_n 0, 1), some (.iload 7, 2), none, some (.iload 7, 2), none, some (.invokevirtual 714, 3), none, none, some (.aload_n 0, 1), some (.iload 4, 2), none, some (.invokevirtual 739, 3), none, none, some (.iinc 7 1, 3), none, none, some (.goto (-49), 3), none, none, some (.aload_n 0, 1), some (.aload_n 0, 1), some (.getfield 403, 3), none, none, some (.getfield 140, 3)], [none, none, some (.iload_n 3, 1), some (.iaload, 1), some (.aload_n 0, 1), some (.getfield 403, 3), none, none, some (.getfield 568, 3), none, none, some (.iload_n 3, 1), some (.iaload, 1), some (.invokevirtual 714, 3), none, none, some (.aload_n 0, 1), some (.invokevirtual 717, 3), none, none, some (.ireturn, 1)]]
def ft_I459 : List (List (Option (Instr × Nat))) := [[some (.aload_n 0, 1), some (.getfield 403, 3), none, none, some (.aload_n 0, 1), some (.getfield 403, 3), none, none, some (.iload_n 1, 1), some (.invokevirtual 742, 3), none, none, some (.aload_n 0, 1), some (.getfield 403, 3), none, none, some (.iload_n 2, 1), some (.invokevirtual 742, 3), none, none, some (.invokevirtual 745, 3), none, none, some (.istore_n 3, 1), some (.iload_n 3, 1), some (.ifCond .ge 10, 3), none, none, some (.aload_n 0, 1), some (.iconst 1, 1), some (.iload_n 1, 1), some (.invokevirtual 622, 3)], [none, none, some (.ireturn, 1), some (.aload_n 0, 1), some (.invokevirtual 704, 3), none, none, some (.ifCond .ne 10, 3), none, none, some (.aload_n 0, 1), some (.iconst 2, 1), some (.iload_n 1, 1), some (.invokevirtual 622, 3), none, none, some (.ireturn, 1), some (.aload_n 0, 1), some (.getfield 403, 3), none, none, some (.getfield 748, 3), none, none, some (.iload_n 3, 1), some (.iaload, 1), some (.iconst 2, 1), some (.if_icmp .eq 16, 3), none, none, some (.aload_n 0, 1), some (.getfield 403, 3)], [none, none, some (.getfield 748, 3), none, none, some (.iload_n 3, 1), some (.iaload, 1), some (.iconst 3, 1), some (.if_icmp .ne 10, 3), none, none, some (.aload_n 0, 1), some (.iconst 3, 1), some (.iload_n 1, 1), some (.invokevirtual 622, 3), none, none, some (.ireturn, 1), some (.aload_n 0, 1), some (.getfield 403, 3), none, none, some (.getfield 84, 3), none, none, some (.iload_n 3, 1), some (.iaload, 1), some (.istore 4, 2), none, some (.iload 4, 2), none, some (.ifCond .lt 54, 3)], [none, none, some (.aload_n 0, 1), some (.getfield 403, 3), none, none, some (.getfield 87, 3), none, none, some (.iload 4, 2), none, some (.iaload, 1), some (.bipush 22, 2), none, some (.if_icmp .ne 17, 3), none, none, some (.aload_n 0, 1), some (.getfield 403, 3), none, none, some (.getfield 90, 3), none, none, some (.iload 4, 2), none, some (.iaload, 1), some (.iload_n 3, 1), some (.if_icmp .eq 18, 3), none, none, some (.aload_n 0, 1)], [some (.getfield 403, 3), none, none, some (.getfield 87, 3), none, none, some (.iload 4, 2), none, some (.iaload, 1), some (.bipush 23, 2), none, some (.if_icmp .ne 10, 3), none, none, some (.aload_n 0, 1), some (.iconst 4, 1), some (.iload_n 1, 1), some (.invokevirtual 622, 3), none, none, some (.ireturn, 1), some (.aload_n 0, 1), some (.iload_n 3, 1), some (.invokevirtual 751, 3), none, none, some (.istore 5, 2), none, some (.iload 5, 2), none, some (.ifCond .lt 54, 3)], [none, some (.aload_n 0, 1), some (.getfield 403, 3), none, none, some (.getfield 87, 3), none, none, some (.iload 5, 2), none, some (.iaload, 1), some (.bipush 25, 2), none, some (.if_icmp .eq 39, 3), none, none, some (.aload_n 0, 1), some (.getfield 403, 3), none, none, some (.getfield 84, 3), none, none, some (.iload 5, 2), none, some (.iaload, 1), some (.ifCond .lt 26, 3), none, none, some (.aload_n 0, 1), some (.getfield 403, 3)], [none, some (.getfield 87, 3), none, none, some (.aload_n 0, 1), some (.getfield 403, 3), none, none, some (.getfield 84, 3), none, none, some (.iload 5, 2), none, some (.iaload, 1), some (.iaload, 1), some (.bipush 20, 2), none, some (.if_icmp .eq 10, 3), none, none, some (.aload_n 0, 1), some (.iconst 5, 1), some (.iload_n 1, 1), some (.invokevirtual 622, 3), none, none, some (.ireturn, 1), some (.aload_n 0, 1), some (.iload_n 3, 1), some (.invokevirtual 653, 3)], [some (.ifCond .ne 11, 3), none, none, some (.aload_n 0, 1), some (.bipush 6, 2), none, some (.iload_n 1, 1), some (.invokevirtual 622, 3), none, none, some (.ireturn, 1), some (.aload_n 0, 1), some (.aload_n 0, 1), some (.getfield 403, 3), none, none, some (.aload_n 0, 1), some (.getfield 403, 3), none, none, some (.getfield 140, 3), none, none, some (.iload 5, 2), none, some (.iaload, 1), some (.invokevirtual 171, 3), none, none, some (.iconst 0, 1), some (.invokevirtual 578, 3)], [none, some (.aload_n 0, 1), some (.aload_n 0, 1), some (.getfield 403, 3), none, none, some (.getfield 748, 3), none, none, some (.iload_n 3, 1), some (.iaload, 1), some (.invokevirtual 754, 3), none, none, some (.aload_n 0, 1), some (.ldc_w 757, 3), none, none, some (.invokevirtual 565, 3), none, none, some (.aload_n 0, 1), some (.invokevirtual 759, 3), none, none, some (.aload_n 0, 1), some (.ldc_w 762, 3), none, none, some (.invokevirtual 565, 3)], [some (.aload_n 0, 1), some (.aload_n 0, 1), some (.getfield 403, 3), none, none, some (.getfield 140, 3), none, none, some (.iload_n 3, 1), some (.iaload, 1), some (.aload_n 0, 1), some (.getfield 403, 3), none, none, some (.getfield 568, 3), none, none, some (.iload_n 3, 1), some (.iaload, 1), some (.invokevirtual 573, 3), none, none, some (.aload_n 0, 1), some (.ldc_w 764, 3), none, none, some (.invokevirtual 565, 3), none, none, some (.aload_n 0, 1), some (.aload_n 0, 1), some (.getfield 403, 3)], [none, none, some (.getfield 140, 3), none, none, some (.iload_n 3, 1), some (.iaload, 1), some (.aload_n 0, 1), some (.getfield 403, 3), none, none, some (.getfield 568, 3), none, none, some (.iload_n 3, 1), some (.iaload, 1), some (.invokevirtual 714, 3), none, none, some (.aload_n 0, 1), some (.invokevirtual 759, 3), none, none, some (.aload_n 0, 1), some (.invokevirtual 717, 3), none, none, some (.ireturn, 1)]]
def ft_I464 : List (List (Option (Instr × Nat))) := [[some (.aload_n 0, 1), some (.getfield 403, 3), none, none, some (.iload_n 1, 1), some (.invokevirtual 742, 3), none, none, some (.istore_n 3, 1), some (.aload_n 0, 1), some (.getfield 403, 3), none, none, some (.iload_n 2, 1), some (.invokevirtual 742, 3), none, none, some (.istore 4, 2), none, some (.iconst (-1), 1), some (.istore 5, 2), none, some (.iconst 0, 1), some (.istore 6, 2), none, some (.iload 6, 2), none, some (.aload_n 0, 1), some (.getfield 403, 3), none, none, some (.getfield 175, 3)], [none, none, some (.if_icmp .ge 140, 3), none, none, some (.iload 5, 2), none, some (.ifCond .ge 135, 3), none, none, some (.iload_n 3, 1), some (.ifCond .lt 125, 3), none, none, some (.iload 4, 2), none, some (.ifCond .lt 120, 3), none, none, some (.aload_n 0, 1), some (.getfield 403, 3), none, none, some (.getfield 87, 3), none, none, some (.iload 6, 2), none, some (.iaload, 1), some (.bipush 20, 2), none, some (.if_icmp .lt 105, 3)], [none, none, some (.aload_n 0, 1), some (.getfield 403, 3), none, none, some (.getfield 140, 3), none, none, some (.iload 6, 2), none, some (.iaload, 1), some (.iload_n 3, 1), some (.if_icmp .ne 91, 3), none, none, some (.aload_n 0, 1), some (.getfield 403, 3), none, none, some (.getfield 84, 3), none, none, some (.iload 6, 2), none, some (.iaload, 1), some (.ifCond .lt 78, 3), none, none, some (.aload_n 0, 1), some (.getfield 403, 3)], [none, some (.getfield 87, 3), none, none, some (.aload_n 0, 1), some (.getfield 403, 3), none, none, some (.getfield 84, 3), none, none, some (.iload 6, 2), none, some (.iaload, 1), some (.iaload, 1), some (.bipush 20, 2), none, some (.if_icmp .ne 55, 3), none, none, some (.iload 6, 2), none, some (.istore 7, 2), none, some (.iload 7, 2), none, some (.ifCond .lt 46, 3), none, none, some (.iload 5, 2), none, some (.ifCond .ge 41, 3)], [none, none, some (.aload_n 0, 1), some (.getfield 403, 3), none, none, some (.getfield 568, 3), none, none, some (.iload 7, 2), none, some (.iaload, 1), some (.iload 4, 2), none, some (.if_icmp .ne 8, 3), none, none, some (.iload 6, 2), none, some (.goto 4, 3), none, none, some (.iconst (-1), 1), some (.istore 5, 2), none, some (.aload_n 0, 1), some (.getfield 403, 3), none, none, some (.getfield 131, 3)], [some (.iload 7, 2), none, some (.iaload, 1), some (.istore 7, 2), none, some (.goto (-45), 3), none, none, some (.iinc 6 1, 3), none, none, some (.goto (-146), 3), none, none, some (.iload 5, 2), none, some (.ifCond .ge 10, 3), none, none, some (.aload_n 0, 1), some (.iconst 1, 1), some (.iload_n 1, 1), some (.invokevirtual 622, 3), none, none, some (.ireturn, 1), some (.aload_n 0, 1), some (.invokevirtual 704, 3), none, none, some (.ifCond .ne 10, 3)], [none, some (.aload_n 0, 1), some (.iconst 2, 1), some (.iload_n 1, 1), some (.invokevirtual 622, 3), none, none, some (.ireturn, 1), some (.aload_n 0, 1), some (.getfield 403, 3), none, none, some (.getfield 729, 3), none, none, some (.iload 5, 2), none, some (.iaload, 1), some (.istore 6, 2), none, some (.iconst 0, 1), some (.istore 7, 2), none, some (.iload 7, 2), none, some (.aload_n 0, 1), some (.getfield 403, 3), none, none, some (.getfield 175, 3)], [some (.if_icmp .ge 67, 3), none, none, some (.aload_n 0, 1), some (.getfield 403, 3), none, none, some (.getfield 87, 3), none, none, some (.iload 7, 2), none, some (.iaload, 1), some (.bipush 26, 2), none, some (.if_icmp .ne 46, 3), none, none, some (.aload_n 0, 1), some (.getfield 403, 3), none, none, some (.getfield 140, 3), none, none, some (.iload 7, 2), none, some (.iaload, 1), some (.iload_n 3, 1), some (.if_icmp .lt 32, 3)], [some (.aload_n 0, 1), some (.getfield 403, 3), none, none, some (.getfield 568, 3), none, none, some (.iload 7, 2), none, some (.iaload, 1), some (.iload 4, 2), none, some (.if_icmp .gt 17, 3), none, none, some (.aload_n 0, 1), some (.aload_n 0, 1), some (.getfield 403, 3), none, none, some (.getfield 140, 3), none, none, some (.iload 7, 2), none, some (.iaload, 1), some (.invokevirtual 723, 3), none, none, some (.iinc 7 1, 3)], [some (.goto (-73), 3), none, none, some (.aload_n 0, 1), some (.invokevirtual 726, 3), none, none, some (.ifCond .eq 13, 3), none, none, some (.aload_n 0, 1), some (.iconst 3, 1), some (.aload_n 0, 1), some (.getfield 662, 3), none, none, some (.invokevirtual 622, 3), none, none, some (.ireturn, 1), some (.iload 4, 2), none, some (.iconst 1, 1), some (.iadd, 1), some (.istore 7, 2), none, some (.iload 7, 2), none, some (.aload_n 0, 1), some (.getfield 403, 3)], [some (.getfield 659, 3), none, none, some (.iload 6, 2), none, some (.iaload, 1), some (.if_icmp .gt 71, 3), none, none, some (.aload_n 0, 1), some (.iload 7, 2), none, some (.invokevirtual 708, 3), none, none, some (.istore 8, 2), none, some (.iload 8, 2), none, some (.ifCond .lt 52, 3), none, none, some (.aload_n 0, 1), some (.getfield 403, 3), none, none, some (.getfield 120, 3), none, none, some (.iload 8, 2), none, some (.iaload, 1)], [some (.iconst 4, 1), some (.if_icmp .ne 38, 3), none, none, some (.aload_n 0, 1), some (.getfield 403, 3), none, none, some (.getfield 168, 3), none, none, some (.iload 8, 2), none, some (.iaload, 1), some (.iload_n 3, 1), some (.if_icmp .lt 24, 3), none, none, some (.aload_n 0, 1), some (.getfield 403, 3), none, none, some (.getfield 168, 3), none, none, some (.iload 8, 2), none, some (.iaload, 1), some (.iload 4, 2), none, some (.if_icmp .gt 9, 3)], [none, some (.aload_n 0, 1), some (.iload 7, 2), none, some (.invokevirtual 723, 3), none, none, some (.iinc 7 1, 3), none, none, some (.goto (-80), 3), none, none, some (.aload_n 0, 1), some (.invokevirtual 726, 3), none, none, some (.ifCond .eq 13, 3), none, none, some (.aload_n 0, 1), some (.iconst 4, 1), some (.aload_n 0, 1), some (.getfield 662, 3), none, none, some (.invokevirtual 622, 3), none, none, some (.ireturn, 1), some (.aload_n 0, 1), some (.iload 5, 2)], [none, some (.iconst (-1), 1), some (.invokevirtual 736, 3), none, none, some (.istore 7, 2), none, some (.iconst (-1), 1), some (.istore 8, 2), none, some (.iload_n 3, 1), some (.istore 9, 2), none, some (.iload 9, 2), none, some (.iload 4, 2), none, some (.if_icmp .gt 96, 3), none, none, some (.aload_n 0, 1), some (.iload 9, 2), none, some (.invokevirtual 708, 3), none, none, some (.istore 10, 2), none, some (.aload_n 0, 1), some (.getfield 471, 3)], [some (.iload 9, 2), none, some (.baload, 1), some (.ifCond .eq 72, 3), none, none, some (.aload_n 0, 1), some (.iload 10, 2), none, some (.iload_n 3, 1), some (.invokevirtual 766, 3), none, none, some (.ifCond .eq 62, 3), none, none, some (.iload 10, 2), none, some (.iload 8, 2), none, some (.if_icmp .eq 55, 3), none, none, some (.iload 7, 2), none, some (.ifCond .ne 26, 3), none, none, some (.aload_n 0, 1), some (.iload 10, 2), none, some (.iload 4, 2)], [none, some (.iconst 1, 1), some (.iadd, 1), some (.aload_n 0, 1), some (.getfield 403, 3), none, none, some (.getfield 659, 3), none, none, some (.iload 6, 2), none, some (.iaload, 1), some (.invokevirtual 732, 3), none, none, some (.ifCond .eq 27, 3), none, none, some (.iload 8, 2), none, some (.ifCond .lt 18, 3), none, none, some (.aload_n 0, 1), some (.iconst 5, 1), some (.aload_n 0, 1), some (.getfield 403, 3), none, none, some (.iload 9, 2)], [some (.invokevirtual 171, 3), none, none, some (.invokevirtual 622, 3), none, none, some (.ireturn, 1), some (.iload 10, 2), none, some (.istore 8, 2), none, some (.iinc 9 1, 3), none, none, some (.goto (-97), 3), none, none, some (.iconst 0, 1), some (.istore 9, 2), none, some (.iconst 0, 1), some (.istore 10, 2), none, some (.iload 10, 2), none, some (.aload_n 0, 1), some (.getfield 403, 3), none, none, some (.getfield 162, 3)], [some (.if_icmp .ge 33, 3), none, none, some (.iload 9, 2), none, some (.aload_n 0, 1), some (.iload 10, 2), none, some (.iload 6, 2), none, some (.iload_n 3, 1), some (.iload 4, 2), none, some (.invokevirtual 769, 3), none, none, some (.ifCond .eq 7, 3), none, none, some (.iconst 1, 1), some (.goto 4, 3), none, none, some (.iconst 0, 1), some (.iadd, 1), some (.istore 9, 2), none, some (.iinc 10 1, 3), none, none, some (.goto (-39), 3)], [none, some (.aload_n 0, 1), some (.getfield 403, 3), none, none, some (.getfield 125, 3), none, none, some (.aload_n 0, 1), some (.getfield 403, 3), none, none, some (.getfield 324, 3), none, none, some (.iload 6, 2), none, some (.iaload, 1), some (.iaload, 1), some (.istore 10, 2), none, some (.iconst 0, 1), some (.istore 11, 2), none, some (.iload 11, 2), none, some (.aload_n 0, 1), some (.getfield 403, 3), none, none, some (.getfield 162, 3)], [none, some (.if_icmp .ge 118, 3), none, none, some (.aload_n 0, 1), some (.getfield 403, 3), none, none, some (.getfield 120, 3), none, none, some (.iload 11, 2), none, some (.iaload, 1), some (.iconst 2, 1), some (.if_icmp .ne 98, 3), none, none, some (.aload_n 0, 1), some (.getfield 403, 3), none, none, some (.getfield 279, 3), none, none, some (.iload 11, 2), none, some (.iaload, 1), some (.iload 9, 2), none, some (.if_icmp .ne 83, 3)], [none, some (.aload_n 0, 1), some (.aload_n 0, 1), some (.getfield 403, 3), none, none, some (.getfield 168, 3), none, none, some (.iload 11, 2), none, some (.iaload, 1), some (.invokevirtual 650, 3), none, none, some (.ifCond .eq 66, 3), none, none, some (.aload_n 0, 1), some (.getfield 403, 3), none, none, some (.getfield 125, 3), none, none, some (.aload_n 0, 1), some (.getfield 403, 3), none, none, some (.getfield 324, 3)], [some (.iload 11, 2), none, some (.iaload, 1), some (.iaload, 1), some (.istore 12, 2), none, some (.iload 12, 2), none, some (.iload 10, 2), none, some (.if_icmp .eq 31, 3), none, none, some (.aload_n 0, 1), some (.getfield 403, 3), none, none, some (.iload 12, 2), none, some (.iload 10, 2), none, some (.invokevirtual 773, 3), none, none, some (.ifCond .ne 17, 3), none, none, some (.aload_n 0, 1), some (.getfield 403, 3), none, none, some (.iload 10, 2)], [none, some (.iload 12, 2), none, some (.invokevirtual 773, 3), none, none, some (.ifCond .eq 11, 3), none, none, some (.aload_n 0, 1), some (.bipush 6, 2), none, some (.iload_n 1, 1), some (.invokevirtual 622, 3), none, none, some (.ireturn, 1), some (.iinc 11 1, 3), none, none, some (.goto (-124), 3), none, none, some (.aload_n 0, 1), some (.aload_n 0, 1), some (.aload_n 0, 1), some (.getfield 403, 3), none, none, some (.getfield 659, 3)], [some (.iload 6, 2), none, some (.iaload, 1), some (.invokevirtual 550, 3), none, none, some (.iconst 0, 1), some (.invokevirtual 578, 3), none, none, some (.aload_n 0, 1), some (.ldc_w 757, 3), none, none, some (.invokevirtual 565, 3), none, none, some (.aload_n 0, 1), some (.getfield 403, 3), none, none, some (.getfield 121, 3), none, none, some (.iload 6, 2), none, some (.baload, 1), some (.ifCond .eq 10, 3), none, none, some (.aload_n 0, 1), some (.ldc_w 776, 3)], [none, none, some (.invokevirtual 565, 3), none, none, some (.aload_n 0, 1), some (.iload 8, 2), none, some (.ifCond .ge 7, 3), none, none, some (.iconst 3, 1), some (.goto 13, 3), none, none, some (.aload_n 0, 1), some (.getfield 403, 3), none, none, some (.getfield 282, 3), none, none, some (.iload 8, 2), none, some (.iaload, 1), some (.invokevirtual 754, 3), none, none, some (.aload_n 0, 1), some (.ldc_w 757, 3)], [some (.invokevirtual 565, 3), none, none, some (.aload_n 0, 1), some (.invokevirtual 759, 3), none, none, some (.aload_n 0, 1), some (.ldc_w 571, 3), none, none, some (.invokevirtual 565, 3), none, none, some (.aload_n 0, 1), some (.iload 6, 2), none, some (.iload_n 3, 1), some (.iload 4, 2), none, some (.iconst 1, 1), some (.invokevirtual 778, 3), none, none, some (.aload_n 0, 1), some (.ldc_w 782, 3), none, none, some (.invokevirtual 565, 3), none, none, some (.aload_n 0, 1)], [some (.iload_n 3, 1), some (.iload 4, 2), none, some (.invokevirtual 573, 3), none, none, some (.iload 8, 2), none, some (.ifCond .lt 31, 3), none, none, some (.aload_n 0, 1), some (.ldc_w 784, 3), none, none, some (.invokevirtual 565, 3), none, none, some (.aload_n 0, 1), some (.aload_n 0, 1), some (.getfield 403, 3), none, none, some (.getfield 168, 3), none, none, some (.iload 8, 2), none, some (.iaload, 1), some (.invokevirtual 556, 3)], [some (.aload_n 0, 1), some (.ldc_w 786, 3), none, none, some (.invokevirtual 565, 3), none, none, some (.aload_n 0, 1), some (.ldc_w 788, 3), none, none, some (.invokevirtual 565, 3), none, none, some (.aload_n 0, 1), some (.iload_n 3, 1), some (.iload 4, 2), none, some (.invokevirtual 714, 3), none, none, some (.iload 8, 2), none, some (.ifCond .lt 24, 3), none, none, some (.aload_n 0, 1), some (.aload_n 0, 1), some (.getfield 403, 3), none, none, some (.getfield 168, 3)], [none, none, some (.iload 8, 2), none, some (.iaload, 1), some (.invokevirtual 556, 3), none, none, some (.aload_n 0, 1), some (.ldc_w 762, 3), none, none, some (.invokevirtual 565, 3), none, none, some (.aload_n 0, 1), some (.invokevirtual 759, 3), none, none, some (.aload_n 0, 1), some (.ldc_w 571, 3), none, none, some (.invokevirtual 565, 3), none, none, some (.aload_n 0, 1), some (.iload 6, 2), none, some (.iload_n 3, 1), some (.iload 4, 2)], [some (.iconst 0, 1), some (.invokevirtual 778, 3), none, none, some (.aload_n 0, 1), some (.ldc_w 790, 3), none, none, some (.invokevirtual 565, 3), none, none, some (.aload_n 0, 1), some (.invokevirtual 717, 3), none, none, some (.ireturn, 1)]]
def ft_I469 : List (List (Option (Instr × Nat))) := [[some (.aload_n 0, 1), some (.getfield 403, 3), none, none, some (.iload_n 1, 1), some (.invokevirtual 720, 3), none, none, some (.istore_n 2, 1), some (.iload_n 2, 1), some (.ifCond .lt 16, 3), none, none, some (.aload_n 0, 1), some (.getfield 403, 3), none, none, some (.getfield 120, 3), none, none, some (.iload_n 2, 1), some (.iaload, 1), some (.iconst 2, 1), some (.if_icmp .eq 10, 3), none, none, some (.aload_n 0, 1), some (.iconst 1, 1), some (.iload_n 1, 1), some (.invokevirtual 622, 3)], [some (.ireturn, 1), some (.aload_n 0, 1), some (.getfield 403, 3), none, none, some (.getfield 90, 3), none, none, some (.aload_n 0, 1), some (.getfield 403, 3), none, none, some (.getfield 165, 3), none, none, some (.iload_n 2, 1), some (.iaload, 1), some (.iaload, 1), some (.istore_n 3, 1), some (.iload_n 3, 1), some (.ifCond .lt 41, 3), none, none, some (.aload_n 0, 1), some (.getfield 403, 3), none, none, some (.getfield 131, 3), none, none, some (.iload_n 3, 1), some (.iaload, 1)], [some (.ifCond .ge 29, 3), none, none, some (.aload_n 0, 1), some (.getfield 403, 3), none, none, some (.getfield 87, 3), none, none, some (.iload_n 3, 1), some (.iaload, 1), some (.bipush 26, 2), none, some (.if_icmp .ne 15, 3), none, none, some (.aload_n 0, 1), some (.getfield 403, 3), none, none, some (.getfield 90, 3), none, none, some (.iload_n 3, 1), some (.iaload, 1), some (.ifCond .ge 10, 3), none, none, some (.aload_n 0, 1), some (.iconst 3, 1), some (.iload_n 1, 1)], [some (.invokevirtual 622, 3), none, none, some (.ireturn, 1), some (.aload_n 0, 1), some (.getfield 403, 3), none, none, some (.getfield 90, 3), none, none, some (.iload_n 3, 1), some (.iaload, 1), some (.istore 4, 2), none, some (.aload_n 0, 1), some (.getfield 403, 3), none, none, some (.iload_n 2, 1), some (.invokevirtual 794, 3), none, none, some (.iconst 1, 1), some (.if_icmp .le 10, 3), none, none, some (.aload_n 0, 1), some (.iconst 4, 1), some (.iload_n 1, 1), some (.invokevirtual 622, 3)], [none, some (.ireturn, 1), some (.aload_n 0, 1), some (.iload_n 2, 1), some (.aload_n 0, 1), some (.getfield 403, 3), none, none, some (.getfield 140, 3), none, none, some (.iload 4, 2), none, some (.iaload, 1), some (.aload_n 0, 1), some (.getfield 403, 3), none, none, some (.getfield 568, 3), none, none, some (.iload 4, 2), none, some (.iaload, 1), some (.invokevirtual 732, 3), none, none, some (.ifCond .eq 10, 3), none, none, some (.aload_n 0, 1), some (.iconst 5, 1)], [some (.iload_n 1, 1), some (.invokevirtual 622, 3), none, none, some (.ireturn, 1), some (.aload_n 0, 1), some (.iload_n 2, 1), some (.iconst 0, 1), some (.invokevirtual 797, 3), none, none, some (.ifCond .eq 14, 3), none, none, some (.aload_n 0, 1), some (.bipush 6, 2), none, some (.aload_n 0, 1), some (.getfield 662, 3), none, none, some (.invokevirtual 622, 3), none, none, some (.ireturn, 1), some (.iconst 0, 1), some (.istore 5, 2), none, some (.iload 5, 2), none, some (.aload_n 0, 1), some (.getfield 403, 3)], [none, none, some (.getfield 103, 3), none, none, some (.getfield 634, 3), none, none, some (.if_icmp .ge 96, 3), none, none, some (.aload_n 0, 1), some (.iload 5, 2), none, some (.invokevirtual 708, 3), none, none, some (.iload_n 2, 1), some (.if_icmp .ne 80, 3), none, none, some (.iload 5, 2), none, some (.aload_n 0, 1), some (.getfield 403, 3), none, none, some (.getfield 168, 3), none, none, some (.iload_n 2, 1), some (.iaload, 1)], [some (.if_icmp .eq 66, 3), none, none, some (.aload_n 0, 1), some (.iload 5, 2), none, some (.invokevirtual 801, 3), none, none, some (.istore 6, 2), none, some (.aload_n 0, 1), some (.getfield 403, 3), none, none, some (.getfield 121, 3), none, none, some (.iload_n 2, 1), some (.baload, 1), some (.ifCond .ne 46, 3), none, none, some (.aload_n 0, 1), some (.getfield 403, 3), none, none, some (.getfield 87, 3), none, none, some (.iload 6, 2)], [some (.iaload, 1), some (.bipush 12, 2), none, some (.if_icmp .ne 31, 3), none, none, some (.aload_n 0, 1), some (.getfield 403, 3), none, none, some (.getfield 87, 3), none, none, some (.aload_n 0, 1), some (.getfield 403, 3), none, none, some (.getfield 90, 3), none, none, some (.iload 6, 2), none, some (.iaload, 1), some (.iaload, 1), some (.iconst 5, 1), some (.if_icmp .eq 9, 3), none, none, some (.aload_n 0, 1), some (.iload 5, 2), none, some (.invokevirtual 723, 3)], [none, none, some (.iinc 5 1, 3), none, none, some (.goto (-105), 3), none, none, some (.aload_n 0, 1), some (.invokevirtual 726, 3), none, none, some (.ifCond .eq 14, 3), none, none, some (.aload_n 0, 1), some (.bipush 7, 2), none, some (.aload_n 0, 1), some (.getfield 662, 3), none, none, some (.invokevirtual 622, 3), none, none, some (.ireturn, 1), some (.iconst 0, 1), some (.istore 5, 2), none, some (.iload 5, 2), none, some (.aload_n 0, 1)], [some (.getfield 403, 3), none, none, some (.getfield 103, 3), none, none, some (.getfield 634, 3), none, none, some (.if_icmp .ge 92, 3), none, none, some (.aload_n 0, 1), some (.iload 5, 2), none, some (.invokevirtual 708, 3), none, none, some (.iload_n 2, 1), some (.if_icmp .ne 76, 3), none, none, some (.iload 5, 2), none, some (.aload_n 0, 1), some (.getfield 403, 3), none, none, some (.getfield 168, 3), none, none, some (.iload_n 2, 1)], [some (.iaload, 1), some (.if_icmp .eq 62, 3), none, none, some (.aload_n 0, 1), some (.iload 5, 2), none, some (.invokevirtual 801, 3), none, none, some (.istore 6, 2), none, some (.aload_n 0, 1), some (.aload_n 0, 1), some (.getfield 403, 3), none, none, some (.getfield 140, 3), none, none, some (.iload 6, 2), none, some (.iaload, 1), some (.aload_n 0, 1), some (.getfield 403, 3), none, none, some (.getfield 568, 3), none, none, some (.iload 6, 2)], [some (.iaload, 1), some (.invokevirtual 714, 3), none, none, some (.aload_n 0, 1), some (.ldc_w 571, 3), none, none, some (.invokevirtual 565, 3), none, none, some (.aload_n 0, 1), some (.iload 4, 2), none, some (.iload_n 2, 1), some (.aload_n 0, 1), some (.iload 6, 2), none, some (.invokevirtual 804, 3), none, none, some (.invokevirtual 807, 3), none, none, some (.aload_n 0, 1), some (.ldc_w 576, 3), none, none, some (.invokevirtual 565, 3), none, none, some (.iinc 5 1, 3)], [none, none, some (.goto (-101), 3), none, none, some (.aload_n 0, 1), some (.aload_n 0, 1), some (.getfield 403, 3), none, none, some (.getfield 656, 3), none, none, some (.iload_n 2, 1), some (.iaload, 1), some (.aload_n 0, 1), some (.getfield 403, 3), none, none, some (.getfield 659, 3), none, none, some (.iload_n 2, 1), some (.iaload, 1), some (.invokevirtual 714, 3), none, none, some (.aload_n 0, 1), some (.invokevirtual 717, 3), none, none, some (.ireturn, 1)]]
def ft_I474 : List (List (Option (Instr × Nat))) := [[some (.aload_n 0, 1), some (.getfield 403, 3), none, none, some (.iload_n 1, 1), some (.invokevirtual 720, 3), none, none, some (.istore_n 2, 1), some (.iload_n 2, 1), some (.ifCond .lt 16, 3), none, none, some (.aload_n 0, 1), some (.getfield 403, 3), none, none, some (.getfield 120, 3), none, none, some (.iload_n 2, 1), some (.iaload, 1), some (.iconst 1, 1), some (.if_icmp .eq 10, 3), none, none, some (.aload_n 0, 1), some (.iconst 1, 1), some (.iload_n 1, 1), some (.invokevirtual 622, 3)], [some (.ireturn, 1), some (.aload_n 0, 1), some (.invokevirtual 704, 3), none, none, some (.ifCond .ne 10, 3), none, none, some (.aload_n 0, 1), some (.iconst 2, 1), some (.iload_n 1, 1), some (.invokevirtual 622, 3), none, none, some (.ireturn, 1), some (.aload_n 0, 1), some (.getfield 403, 3), none, none, some (.getfield 121, 3), none, none, some (.iload_n 2, 1), some (.baload, 1), some (.ifCond .eq 10, 3), none, none, some (.aload_n 0, 1), some (.iconst 3, 1), some (.iload_n 1, 1), some (.invokevirtual 622, 3)], [none, some (.ireturn, 1), some (.aload_n 0, 1), some (.getfield 403, 3), none, none, some (.getfield 125, 3), none, none, some (.aload_n 0, 1), some (.getfield 403, 3), none, none, some (.getfield 324, 3), none, none, some (.iload_n 2, 1), some (.iaload, 1), some (.iaload, 1), some (.istore_n 3, 1), some (.iconst 0, 1), some (.istore 4, 2), none, some (.iload 4, 2), none, some (.aload_n 0, 1), some (.getfield 403, 3), none, none, some (.getfield 103, 3)], [some (.getfield 634, 3), none, none, some (.if_icmp .ge 45, 3), none, none, some (.aload_n 0, 1), some (.iload 4, 2), none, some (.invokevirtual 708, 3), none, none, some (.iload_n 2, 1), some (.if_icmp .ne 29, 3), none, none, some (.aload_n 0, 1), some (.getfield 471, 3), none, none, some (.iload 4, 2), none, some (.baload, 1), some (.ifCond .eq 19, 3), none, none, some (.aload_n 0, 1), some (.iload 4, 2), none, some (.invokevirtual 813, 3)], [some (.iload_n 3, 1), some (.if_icmp .eq 9, 3), none, none, some (.aload_n 0, 1), some (.iload 4, 2), none, some (.invokevirtual 723, 3), none, none, some (.iinc 4 1, 3), none, none, some (.goto (-54), 3), none, none, some (.aload_n 0, 1), some (.invokevirtual 726, 3), none, none, some (.ifCond .eq 13, 3), none, none, some (.aload_n 0, 1), some (.iconst 4, 1), some (.aload_n 0, 1), some (.getfield 662, 3), none, none, some (.invokevirtual 622, 3)], [some (.ireturn, 1), some (.aload_n 0, 1), some (.aload_n 0, 1), some (.aload_n 0, 1), some (.getfield 403, 3), none, none, some (.getfield 659, 3), none, none, some (.iload_n 2, 1), some (.iaload, 1), some (.invokevirtual 550, 3), none, none, some (.iconst 0, 1), some (.invokevirtual 578, 3), none, none, some (.aload_n 0, 1), some (.ldc_w 757, 3), none, none, some (.invokevirtual 565, 3), none, none, some (.aload_n 0, 1), some (.aload_n 0, 1), some (.getfield 403, 3), none, none, some (.getfield 282, 3)], [none, none, some (.iload_n 2, 1), some (.iaload, 1), some (.invokevirtual 754, 3), none, none, some (.aload_n 0, 1), some (.ldc_w 757, 3), none, none, some (.invokevirtual 565, 3), none, none, some (.aload_n 0, 1), some (.invokevirtual 759, 3), none, none, some (.aload_n 0, 1), some (.ldc_w 816, 3), none, none, some (.invokevirtual 565, 3), none, none, some (.aload_n 0, 1), some (.aload_n 0, 1), some (.getfield 403, 3), none, none, some (.getfield 168, 3)], [none, some (.iload_n 2, 1), some (.iaload, 1), some (.invokevirtual 556, 3), none, none, some (.aload_n 0, 1), some (.ldc_w 818, 3), none, none, some (.invokevirtual 565, 3), none, none, some (.iconst 0, 1), some (.istore 4, 2), none, some (.iload 4, 2), none, some (.aload_n 0, 1), some (.getfield 403, 3), none, none, some (.getfield 103, 3), none, none, some (.getfield 634, 3), none, none, some (.if_icmp .ge 48, 3), none, none, some (.aload_n 0, 1)], [some (.iload 4, 2), none, some (.invokevirtual 708, 3), none, none, some (.iload_n 2, 1), some (.if_icmp .ne 32, 3), none, none, some (.aload_n 0, 1), some (.iload 4, 2), none, some (.invokevirtual 813, 3), none, none, some (.iload_n 3, 1), some (.if_icmp .eq 22, 3), none, none, some (.aload_n 0, 1), some (.iload 4, 2), none, some (.iload 4, 2), none, some (.invokevirtual 714, 3), none, none, some (.aload_n 0, 1), some (.invokevirtual 759, 3), none, none, some (.aload_n 0, 1)], [some (.ldc_w 820, 3), none, none, some (.invokevirtual 565, 3), none, none, some (.iinc 4 1, 3), none, none, some (.goto (-57), 3), none, none, some (.aload_n 0, 1), some (.invokevirtual 717, 3), none, none, some (.ireturn, 1)]]
def ft_I484 : List (List (Option (Instr × Nat))) := [[some (.aload_n 0, 1), some (.getfield 539, 3), none, none, some (.ifCond .eq 10, 3), none, none, some (.aload_n 0, 1), some (.getfield 530, 3), none, none, some (.goto 4, 3), none, none, some (.iconst 0, 1), some (.ireturn, 1)]]
def ft_I485 : List (List (Option (Instr × Nat))) := [[some (.aload_n 0, 1), some (.getfield 539, 3), none, none, some (.ifCond .eq 18, 3), none, none, some (.iload_n 1, 1), some (.aload_n 0, 1), some (.getfield 530, 3), none, none, some (.invokestatic 949, 3), none, none, some (.ifCond .eq 7, 3), none, none, some (.iload_n 2, 1), some (.ifCond .ge 5, 3), none, none, some (.iconst (-1), 1), some (.ireturn, 1), some (.iload_n 2, 1), some (.iconst 3, 1), some (.if_icmp .ge 37, 3), none, none, some (.iload_n 2, 1), some (.ifCond .ne 12, 3)], [none, some (.aload_n 0, 1), some (.getfield 426, 3), none, none, some (.iload_n 1, 1), some (.iaload, 1), some (.goto 23, 3), none, none, some (.iload_n 2, 1), some (.iconst 1, 1), some (.if_icmp .ne 12, 3), none, none, some (.aload_n 0, 1), some (.getfield 429, 3), none, none, some (.iload_n 1, 1), some (.iaload, 1), some (.goto 9, 3), none, none, some (.aload_n 0, 1), some (.getfield 435, 3), none, none, some (.iload_n 1, 1), some (.iaload, 1), some (.ireturn, 1), some (.iload_n 2, 1)], [some (.iconst 3, 1), some (.isub, 1), some (.istore_n 3, 1), some (.iload_n 3, 1), some (.aload_n 0, 1), some (.getfield 435, 3), none, none, some (.iload_n 1, 1), some (.iaload, 1), some (.if_icmp .lt 5, 3), none, none, some (.iconst (-1), 1), some (.ireturn, 1), some (.aload_n 0, 1), some (.getfield 438, 3), none, none, some (.iload_n 1, 1), some (.baload, 1), some (.ifCond .eq 13, 3), none, none, some (.iload_n 3, 1), some (.ifCond .ne 6, 3), none, none, some (.bipush 32, 2), none, some (.ireturn, 1), some (.iinc 3 (-1), 3)], [none, none, some (.aload_n 0, 1), some (.getfield 456, 3), none, none, some (.iload_n 1, 1), some (.iaload, 1), some (.istore 4, 2), none, some (.iload_n 3, 1), some (.aload_n 0, 1), some (.getfield 447, 3), none, none, some (.iload 4, 2), none, some (.iaload, 1), some (.if_icmp .lt 19, 3), none, none, some (.iload_n 3, 1), some (.aload_n 0, 1), some (.getfield 447, 3), none, none, some (.iload 4, 2), none, some (.iaload, 1), some (.isub, 1), some (.istore_n 3, 1), some (.iinc 4 1, 3)], [none, none, some (.goto (-24), 3), none, none, some (.aload_n 0, 1), some (.iload 4, 2), none, some (.iload_n 3, 1), some (.invokevirtual 588, 3), none, none, some (.sipush 255, 3), none, none, some (.iand, 1), some (.ireturn, 1)]]
def ft_I486 : List (List (Option (Instr × Nat))) := [[some (.aload_n 0, 1), some (.getfield 539, 3), none, none, some (.ifCond .ne 6, 3), none, none, some (.bipush (-2), 2), none, some (.ireturn, 1), some (.aload_n 0, 1), some (.getfield 403, 3), none, none, some (.astore_n 1, 1), some (.aload_n 0, 1), some (.aload_n 0, 1), some (.getfield 406, 3), none, none, some (.putfield 403, 3), none, none, some (.aload_n 0, 1), some (.aload_n 1, 1), some (.putfield 406, 3), none, none, some (.aload_n 0, 1), some (.getfield 955, 3)], [some (.bipush 12, 2), none, some (.if_icmp .ne 95, 3), none, none, some (.aload_n 0, 1), some (.getfield 420, 3), none, none, some (.iconst 0, 1), some (.aaload, 1), some (.astore_n 2, 1), some (.iconst 0, 1), some (.istore_n 3, 1), some (.iload_n 3, 1), some (.bipush 12, 2), none, some (.if_icmp .ge 62, 3), none, none, some (.aload_n 0, 1), some (.getfield 420, 3), none, none, some (.iload_n 3, 1), some (.aload_n 0, 1), some (.getfield 420, 3), none, none, some (.iload_n 3, 1), some (.iconst 1, 1), some (.iadd, 1)], [some (.aaload, 1), some (.aastore, 1), some (.iconst 0, 1), some (.istore 4, 2), none, some (.iload 4, 2), none, some (.iconst 4, 1), some (.if_icmp .ge 33, 3), none, none, some (.aload_n 0, 1), some (.getfield 423, 3), none, none, some (.iconst 4, 1), some (.iload_n 3, 1), some (.imul, 1), some (.iload 4, 2), none, some (.iadd, 1), some (.aload_n 0, 1), some (.getfield 423, 3), none, none, some (.iconst 4, 1), some (.iload_n 3, 1), some (.iconst 1, 1), some (.iadd, 1), some (.imul, 1), some (.iload 4, 2)], [some (.iadd, 1), some (.iaload, 1), some (.iastore, 1), some (.iinc 4 1, 3), none, none, some (.goto (-33), 3), none, none, some (.iinc 3 1, 3), none, none, some (.goto (-62), 3), none, none, some (.aload_n 0, 1), some (.getfield 420, 3), none, none, some (.bipush 12, 2), none, some (.aload_n 2, 1), some (.aastore, 1), some (.aload_n 0, 1), some (.dup, 1), some (.getfield 955, 3), none, none, some (.iconst 1, 1), some (.isub, 1), some (.putfield 955, 3)], [none, some (.aload_n 0, 1), some (.dup, 1), some (.getfield 955, 3), none, none, some (.iconst 1, 1), some (.iadd, 1), some (.putfield 955, 3), none, none, some (.aload_n 0, 1), some (.aload_n 0, 1), some (.getfield 955, 3), none, none, some (.putfield 958, 3), none, none, some (.aload_n 0, 1), some (.aload_n 0, 1), some (.getfield 955, 3), none, none, some (.invokevirtual 522, 3), none, none, some (.aload_n 0, 1), some (.invokevirtual 961, 3), none, none, some (.aload_n 0, 1)], [some (.getfield 955, 3), none, none, some (.ireturn, 1)]]
def ft_I487 : List (List (Option (Instr × Nat))) := [[some (.aload_n 0, 1), some (.getfield 955, 3), none, none, some (.ifCond .ne 6, 3), none, none, some (.bipush (-2), 2), none, some (.ireturn, 1), some (.aload_n 0, 1), some (.dup, 1), some (.getfield 955, 3), none, none, some (.iconst 1, 1), some (.isub, 1), some (.putfield 955, 3), none, none, some (.aload_n 0, 1), some (.aload_n 0, 1), some (.getfield 403, 3), none, none, some (.aload_n 0, 1), some (.getfield 955, 3), none, none, some (.invokevirtual 976, 3)], [some (.aload_n 0, 1), some (.invokevirtual 961, 3), none, none, some (.aload_n 0, 1), some (.getfield 955, 3), none, none, some (.ireturn, 1)]]
def ft_I488 : List (List (Option (Instr × Nat))) := [[some (.aload_n 0, 1), some (.getfield 955, 3), none, none, some (.aload_n 0, 1), some (.getfield 958, 3), none, none, some (.if_icmp .ne 6, 3), none, none, some (.bipush (-2), 2), none, some (.ireturn, 1), some (.aload_n 0, 1), some (.dup, 1), some (.getfield 955, 3), none, none, some (.iconst 1, 1), some (.iadd, 1), some (.putfield 955, 3), none, none, some (.aload_n 0, 1), some (.aload_n 0, 1), some (.getfield 403, 3), none, none, some (.aload_n 0, 1), some (.getfield 955, 3)], [none, some (.invokevirtual 976, 3), none, none, some (.aload_n 0, 1), some (.invokevirtual 961, 3), none, none, some (.aload_n 0, 1), some (.getfield 955, 3), none, none, some (.ireturn, 1)]]
def ft_I489 : List (List (Option (Instr × Nat))) := [[some (.aload_n 0, 1), some (.getfield 403, 3), none, none, some (.getfield 967, 3), none, none, some (.ifCond .eq 6, 3), none, none, some (.bipush (-2), 2), none, some (.ireturn, 1), some (.aload_n 0, 1), some (.getfield 412, 3), none, none, some (.getfield 525, 3), none, none, some (.iconst 0, 1), some (.aload_n 0, 1), some (.getfield 940, 3), none, none, some (.iastore, 1), some (.aload_n 0, 1), some (.aload_n 0, 1), some (.getfield 412, 3), none, none, some (.getfield 526, 3)], [none, none, some (.iconst 0, 1), some (.aaload, 1), some (.invokevirtual 952, 3), none, none, some (.aload_n 0, 1), some (.iconst 0, 1), some (.putfield 922, 3), none, none, some (.aload_n 0, 1), some (.iconst 1, 1), some (.putfield 946, 3), none, none, some (.aload_n 0, 1), some (.invokevirtual 1003, 3), none, none, some (.goto 25, 3), none, none, some (.astore_n 1, 1), some (.aload_n 0, 1), some (.iconst 0, 1), some (.putfield 946, 3), none, none, some (.aload_n 0, 1), some (.aload_n 0, 1)], [some (.getfield 19, 3), none, none, some (.putfield 415, 3), none, none, some (.bipush (-10), 2), none, some (.aload_n 0, 1), some (.getfield 15, 3), none, none, some (.isub, 1), some (.ireturn, 1), some (.aload_n 0, 1), some (.bipush (-2), 2), none, some (.putfield 415, 3), none, none, some (.aload_n 0, 1), some (.invokevirtual 1006, 3), none, none, some (.aload_n 0, 1), some (.getfield 922, 3), none, none, some (.ireturn, 1)]]
def ft_I490 : List (List (Option (Instr × Nat))) := [[some (.aload_n 0, 1), some (.getfield 412, 3), none, none, some (.astore_n 1, 1), some (.aload_n 1, 1), some (.invokevirtual 619, 3), none, none, some (.aload_n 1, 1), some (.iconst 0, 1), some (.putfield 842, 3), none, none, some (.aload_n 1, 1), some (.iconst 0, 1), some (.putfield 845, 3), none, none, some (.aload_n 1, 1), some (.bipush 100, 2), none, some (.putfield 848, 3), none, none, some (.aload_n 1, 1), some (.iconst 0, 1), some (.putfield 851, 3), none, none, some (.aload_n 1, 1), some (.iconst 0, 1)], [some (.putfield 854, 3), none, none, some (.aload_n 1, 1), some (.iconst 0, 1), some (.putfield 857, 3), none, none, some (.aload_n 1, 1), some (.iconst 0, 1), some (.putfield 860, 3), none, none, some (.aload_n 1, 1), some (.iconst 0, 1), some (.putfield 863, 3), none, none, some (.aload_n 1, 1), some (.getfield 103, 3), none, none, some (.aload_n 1, 1), some (.getfield 526, 3), none, none, some (.iconst 0, 1), some (.aaload, 1), some (.aload_n 1, 1), some (.getfield 525, 3)], [some (.iconst 0, 1), some (.iaload, 1), some (.iconst 0, 1), some (.iconst 1, 1), some (.bipush 100, 2), none, some (.invokevirtual 866, 3), none, none, some (.aload_n 0, 1), some (.aload_n 1, 1), some (.invokevirtual 870, 3), none, none, some (.putfield 873, 3), none, none, some (.aload_n 1, 1), some (.sipush 306, 3), none, none, some (.invokevirtual 876, 3), none, none, some (.aload_n 1, 1), some (.iconst 1, 1), some (.putfield 857, 3), none, none, some (.aload_n 0, 1), some (.aload_n 1, 1), some (.getfield 845, 3)], [none, none, some (.putfield 879, 3), none, none, some (.aload_n 1, 1), some (.invokevirtual 870, 3), none, none, some (.pop, 1), some (.aload_n 0, 1), some (.aload_n 1, 1), some (.getfield 845, 3), none, none, some (.iconst 1, 1), some (.isub, 1), some (.putfield 882, 3), none, none, some (.aload_n 1, 1), some (.invokevirtual 885, 3), none, none, some (.ifCond .eq 7, 3), none, none, some (.aload_n 1, 1), some (.invokevirtual 888, 3), none, none, some (.aload_n 1, 1)], [some (.getfield 863, 3), none, none, some (.ifCond .le 15, 3), none, none, some (.aload_n 0, 1), some (.aload_n 1, 1), some (.getfield 863, 3), none, none, some (.aload_n 1, 1), some (.getfield 891, 3), none, none, some (.invokevirtual 894, 3), none, none, some (.return_, 1)]]
def ft_I498 : List (List (Option (Instr × Nat))) := [[some (.iload_n 1, 1), some (.aload_n 0, 1), some (.getfield 922, 3), none, none, some (.invokestatic 949, 3), none, none, some (.ifCond .eq 11, 3), none, none, some (.iload_n 2, 1), some (.iconst 2, 1), some (.invokestatic 949, 3), none, none, some (.ifCond .ne 5, 3), none, none, some (.iconst (-1), 1), some (.ireturn, 1), some (.aload_n 0, 1), some (.getfield 403, 3), none, none, some (.iload_n 2, 1), some (.ifCond .ne 20, 3), none, none, some (.aload_n 0, 1), some (.getfield 403, 3)], [none, some (.getfield 140, 3), none, none, some (.aload_n 0, 1), some (.getfield 474, 3), none, none, some (.iload_n 1, 1), some (.iaload, 1), some (.iaload, 1), some (.goto 17, 3), none, none, some (.aload_n 0, 1), some (.getfield 403, 3), none, none, some (.getfield 568, 3), none, none, some (.aload_n 0, 1), some (.getfield 474, 3), none, none, some (.iload_n 1, 1), some (.iaload, 1), some (.iaload, 1), some (.invokevirtual 171, 3), none, none, some (.ireturn, 1)]]
def ft_I499 : List (List (Option (Instr × Nat))) := [[some (.aload_n 0, 1), some (.getfield 403, 3), none, none, some (.getfield 967, 3), none, none, some (.ifCond .ne 10, 3), none, none, some (.aload_n 0, 1), some (.getfield 946, 3), none, none, some (.ifCond .ne 6, 3), none, none, some (.bipush (-2), 2), none, some (.ireturn, 1), some (.aload_n 0, 1), some (.invokevirtual 1009, 3), none, none, some (.ireturn, 1)]]
def ft_I501 : List (List (Option (Instr × Nat))) := [[some (.iload_n 1, 1), some (.iconst 5, 1), some (.if_icmp .lt 9, 3), none, none, some (.iload_n 1, 1), some (.bipush 100, 2), none, some (.if_icmp .le 5, 3), none, none, some (.iconst (-1), 1), some (.ireturn, 1), some (.aload_n 0, 1), some (.getfield 403, 3), none, none, some (.getfield 967, 3), none, none, some (.ifCond .eq 6, 3), none, none, some (.bipush (-2), 2), none, some (.ireturn, 1), some (.aload_n 0, 1), some (.iload_n 1, 1), some (.invokevirtual 1012, 3), none, none, some (.aload_n 0, 1)], [some (.getfield 931, 3), none, none, some (.ireturn, 1)]]
def ft_I502 : List (List (Option (Instr × Nat))) := [[some (.aload_n 0, 1), some (.iconst 0, 1), some (.putfield 931, 3), none, none, some (.iconst 0, 1), some (.istore_n 2, 1), some (.iload_n 2, 1), some (.aload_n 0, 1), some (.getfield 403, 3), none, none, some (.getfield 103, 3), none, none, some (.getfield 634, 3), none, none, some (.if_icmp .ge 98, 3), none, none, some (.aload_n 0, 1), some (.getfield 486, 3), none, none, some (.iload_n 2, 1), some (.iload_n 2, 1), some (.iastore, 1), some (.iconst 0, 1), some (.istore_n 3, 1), some (.iload_n 3, 1), some (.iload_n 2, 1)], [some (.if_icmp .ge 78, 3), none, none, some (.aload_n 0, 1), some (.getfield 486, 3), none, none, some (.iload_n 2, 1), some (.iaload, 1), some (.iload_n 2, 1), some (.if_icmp .ne 68, 3), none, none, some (.aload_n 0, 1), some (.getfield 403, 3), none, none, some (.getfield 103, 3), none, none, some (.getfield 32, 3), none, none, some (.iload_n 2, 1), some (.iaload, 1), some (.iconst 1, 1), some (.if_icmp .ne 52, 3), none, none, some (.aload_n 0, 1), some (.getfield 486, 3)], [none, some (.iload_n 2, 1), some (.aload_n 0, 1), some (.getfield 403, 3), none, none, some (.getfield 103, 3), none, none, some (.getfield 32, 3), none, none, some (.iload_n 3, 1), some (.iaload, 1), some (.iconst 1, 1), some (.if_icmp .ne 23, 3), none, none, some (.aload_n 0, 1), some (.getfield 403, 3), none, none, some (.iload_n 2, 1), some (.aload_n 0, 1), some (.getfield 403, 3), none, none, some (.iload_n 3, 1), some (.invokevirtual 900, 3), none, none, some (.ifCond .eq 7, 3)], [none, none, some (.iload_n 3, 1), some (.goto 4, 3), none, none, some (.iload_n 2, 1), some (.iastore, 1), some (.iinc 3 1, 3), none, none, some (.goto (-77), 3), none, none, some (.iinc 2 1, 3), none, none, some (.goto (-106), 3), none, none, some (.aload_n 0, 1), some (.getfield 504, 3), none, none, some (.astore_n 2, 1), some (.iconst 0, 1), some (.istore_n 3, 1), some (.iload_n 3, 1), some (.aload_n 0, 1), some (.getfield 403, 3)], [some (.getfield 103, 3), none, none, some (.getfield 634, 3), none, none, some (.if_icmp .ge 13, 3), none, none, some (.aload_n 2, 1), some (.iload_n 3, 1), some (.iconst 0, 1), some (.bastore, 1), some (.iinc 3 1, 3), none, none, some (.goto (-21), 3), none, none, some (.iconst 0, 1), some (.istore_n 3, 1), some (.iload_n 3, 1), some (.aload_n 0, 1), some (.getfield 403, 3), none, none, some (.getfield 175, 3), none, none, some (.if_icmp .ge 125, 3)], [some (.aload_n 0, 1), some (.getfield 403, 3), none, none, some (.getfield 87, 3), none, none, some (.iload_n 3, 1), some (.iaload, 1), some (.bipush 20, 2), none, some (.if_icmp .lt 105, 3), none, none, some (.aload_n 0, 1), some (.getfield 403, 3), none, none, some (.getfield 84, 3), none, none, some (.iload_n 3, 1), some (.iaload, 1), some (.ifCond .lt 93, 3), none, none, some (.aload_n 0, 1), some (.getfield 403, 3), none, none, some (.getfield 87, 3)], [none, some (.aload_n 0, 1), some (.getfield 403, 3), none, none, some (.getfield 84, 3), none, none, some (.iload_n 3, 1), some (.iaload, 1), some (.iaload, 1), some (.bipush 20, 2), none, some (.if_icmp .ne 71, 3), none, none, some (.iload_n 3, 1), some (.istore 4, 2), none, some (.iload 4, 2), none, some (.ifCond .lt 63, 3), none, none, some (.aload_n 2, 1), some (.aload_n 0, 1), some (.getfield 403, 3), none, none, some (.getfield 140, 3)], [some (.iload_n 3, 1), some (.iaload, 1), some (.dup2, 1), some (.baload, 1), some (.aload_n 0, 1), some (.getfield 403, 3), none, none, some (.getfield 568, 3), none, none, some (.iload 4, 2), none, some (.iaload, 1), some (.aload_n 0, 1), some (.getfield 403, 3), none, none, some (.getfield 140, 3), none, none, some (.iload_n 3, 1), some (.iaload, 1), some (.isub, 1), some (.iconst 1, 1), some (.iadd, 1), some (.iload_n 1, 1), some (.if_icmp .ne 7, 3), none, none, some (.iconst 1, 1), some (.goto 4, 3)], [none, none, some (.iconst 0, 1), some (.ior, 1), some (.bastore, 1), some (.aload_n 0, 1), some (.getfield 403, 3), none, none, some (.getfield 131, 3), none, none, some (.iload 4, 2), none, some (.iaload, 1), some (.istore 4, 2), none, some (.goto (-62), 3), none, none, some (.iinc 3 1, 3), none, none, some (.goto (-130), 3), none, none, some (.iconst 0, 1), some (.istore_n 3, 1), some (.iconst 0, 1), some (.istore 4, 2), none, some (.iload 4, 2)], [none, some (.aload_n 0, 1), some (.getfield 403, 3), none, none, some (.getfield 103, 3), none, none, some (.getfield 634, 3), none, none, some (.if_icmp .ge 27, 3), none, none, some (.aload_n 2, 1), some (.iload 4, 2), none, some (.baload, 1), some (.ifCond .eq 14, 3), none, none, some (.aload_n 0, 1), some (.getfield 489, 3), none, none, some (.iload_n 3, 1), some (.iload 4, 2), none, some (.iastore, 1), some (.iinc 3 1, 3)], [some (.iinc 4 1, 3), none, none, some (.goto (-36), 3), none, none, some (.iconst 0, 1), some (.istore 4, 2), none, some (.iload 4, 2), none, some (.iload_n 3, 1), some (.if_icmp .ge 134, 3), none, none, some (.iload 4, 2), none, some (.iconst 1, 1), some (.iadd, 1), some (.istore 5, 2), none, some (.iload 5, 2), none, some (.iload_n 3, 1), some (.if_icmp .ge 116, 3), none, none, some (.aload_n 0, 1), some (.getfield 931, 3), none, none, some (.sipush 1000, 3)], [none, none, some (.if_icmp .ge 106, 3), none, none, some (.aload_n 0, 1), some (.getfield 489, 3), none, none, some (.iload 4, 2), none, some (.iaload, 1), some (.iload_n 1, 1), some (.iadd, 1), some (.aload_n 0, 1), some (.getfield 489, 3), none, none, some (.iload 5, 2), none, some (.iaload, 1), some (.if_icmp .gt 81, 3), none, none, some (.aload_n 0, 1), some (.aload_n 0, 1), some (.getfield 489, 3), none, none, some (.iload 4, 2), none, some (.iaload, 1)], [some (.aload_n 0, 1), some (.getfield 489, 3), none, none, some (.iload 5, 2), none, some (.iaload, 1), some (.iload_n 1, 1), some (.invokevirtual 934, 3), none, none, some (.ifCond .eq 59, 3), none, none, some (.aload_n 0, 1), some (.getfield 480, 3), none, none, some (.aload_n 0, 1), some (.getfield 931, 3), none, none, some (.aload_n 0, 1), some (.getfield 403, 3), none, none, some (.aload_n 0, 1), some (.getfield 489, 3), none, none, some (.iload 4, 2)], [some (.iaload, 1), some (.invokevirtual 171, 3), none, none, some (.iastore, 1), some (.aload_n 0, 1), some (.getfield 483, 3), none, none, some (.aload_n 0, 1), some (.getfield 931, 3), none, none, some (.aload_n 0, 1), some (.getfield 403, 3), none, none, some (.aload_n 0, 1), some (.getfield 489, 3), none, none, some (.iload 5, 2), none, some (.iaload, 1), some (.invokevirtual 171, 3), none, none, some (.iastore, 1), some (.aload_n 0, 1), some (.dup, 1), some (.getfield 931, 3)], [none, some (.iconst 1, 1), some (.iadd, 1), some (.putfield 931, 3), none, none, some (.iinc 5 1, 3), none, none, some (.goto (-116), 3), none, none, some (.iinc 4 1, 3), none, none, some (.goto (-134), 3), none, none, some (.return_, 1)]]
def ft_I504 : List (List (Option (Instr × Nat))) := [[some (.iload_n 1, 1), some (.aload_n 0, 1), some (.getfield 931, 3), none, none, some (.invokestatic 949, 3), none, none, some (.ifCond .eq 11, 3), none, none, some (.iload_n 2, 1), some (.iconst 2, 1), some (.invokestatic 949, 3), none, none, some (.ifCond .ne 5, 3), none, none, some (.iconst (-1), 1), some (.ireturn, 1), some (.iload_n 2, 1), some (.ifCond .ne 12, 3), none, none, some (.aload_n 0, 1), some (.getfield 480, 3), none, none, some (.iload_n 1, 1), some (.iaload, 1), some (.goto 9, 3)], [none, none, some (.aload_n 0, 1), some (.getfield 483, 3), none, none, some (.iload_n 1, 1), some (.iaload, 1), some (.ireturn, 1)]]
def ft_I : List (List (Option (List (List (Option (Instr × Nat)))))) := [[some ft_I0, some ft_I1, some ft_I2, some ft_I3, some ft_I4, some ft_I5, some ft_I6, some ft_I7, some ft_I8, some ft_I9, some ft_I10, some ft_I11, some ft_I12, some ft_I13, some ft_I14, some ft_I15, some ft_I16, some ft_I17, some ft_I18, some ft_I19, some ft_I20, some ft_I21, some ft_I22, some ft_I23], [none, none, some ft_I34, none, some ft_I36, some ft_I37, none, none, none, none, none, none, none, none, none, none, none, none, none, none, some ft_I52, some ft_I53, some ft_I54, some ft_I55, none, none, none, none, none, some ft_I61, some ft_I62], [none, some ft_I65, some ft_I66, some ft_I67, some ft_I68, some ft_I69, some ft_I70, some ft_I71, some ft_I72, some ft_I73, none, some ft_I75, some ft_I76, some ft_I77, some ft_I78, none, none, none, some ft_I82, none, some ft_I84], [none, none, none, none, none, none, none, none, none, none, none, none, none, none, some ft_I110, none, none, none, none, none, some ft_I116, some ft_I117, none, none, none, some ft_I121, some ft_I122, some ft_I123, some ft_I124, some ft_I125, some ft_I126, some ft_I127], [some ft_I128, some ft_I129, some ft_I130, none, none, some ft_I133, none, some ft_I135, none, some ft_I137, some ft_I138, some ft_I139, some ft_I140, none, some ft_I142, some ft_I143, none, none, none, some ft_I147, some ft_I148, none, none, some ft_I151], [none, none, none, none, none, none, none, none, none, none, none, none, none, none, some ft_I174, some ft_I175, some ft_I176, none, some ft_I178, some ft_I179, some ft_I180, some ft_I181, some ft_I182, some ft_I183, some ft_I184], [], [none, none, none, none, none, none, none, none, none, none, none, none, none, none, none, none, none, none, none, none, none, none, none, some ft_I247, some ft_I248, none, some ft_I250, none, none, some ft_I253], [some ft_I256, some ft_I257, some ft_I258, some ft_I259, none, none, none, none, none, none, none, none, none, some ft_I269, some ft_I270, some ft_I271, none, none, some ft_I274, some ft_I275, none, none, some ft_I278, some ft_I279, some ft_I280, some ft_I281, some ft_I282, some ft_I283, some ft_I284, some ft_I285, some ft_I286], [none, none, none, none, none, some ft_I293, some ft_I294, some ft_I295, none, some ft_I297, none, none, none, none, none, none, none, none, none, some ft_I307, none, none, none, none, none, none, some ft_I314, some ft_I315, some ft_I316, none, none, some ft_I319], [none, none, none, none, none, none, none, none, none, none, none, some ft_I331, none, some ft_I333, none, none, some ft_I336, none, none, none, some ft_I340], [none, none, none, none, none, none, none, none, none, some ft_I361, some ft_I362, some ft_I363, some ft_I364, some ft_I365, some ft_I366, some ft_I367, some ft_I368, some ft_I369, some ft_I370, some ft_I371, some ft_I372, some ft_I373, some ft_I374, some ft_I375, some ft_I376, some ft_I377, some ft_I378, some ft_I379, some ft_I380, some ft_I381, none, some ft_I383], [some ft_I384, some ft_I385, some ft_I386, some ft_I387, none, some ft_I389, some ft_I390, none, none, some ft_I393, some ft_I394, some ft_I395, none, some ft_I397, some ft_I398, some ft_I399, some ft_I400, none, none, none, none, none, some ft_I406, none, none, none, none, none, some ft_I412], [none, none, none, none, none, none, none, some ft_I423, none, some ft_I425, some ft_I426, some ft_I427, some ft_I428, some ft_I429, some ft_I430, some ft_I431, some ft_I432], [none, none, some ft_I450, none, none, none, none, none, none, none, none, some ft_I459, none, none, none, none, some ft_I464, none, none, none, none, some ft_I469, none, none, none, none, some ft_I474], [none, none, none, none, some ft_I484, some ft_I485, some ft_I486, some ft_I487, some ft_I488, some ft_I489, some ft_I490, none, none, none, none, none, none, none, some ft_I498, some ft_I499, none, some ft_I501, some ft_I502, none, some ft_I504]]
def ft_oc : List (List (Option Nat)) := [[some 0, some 1, some 2, some 3, some 4, some 5, some 6, some 7, some 8, some 9, some 1, some 1, some 1, some 1, some 8, some 8, some 2, some 2, some 8, some 10, some 2, some 2, some 11, some 2], [none, none, some 2, none, some 2, some 2, none, none, none, none, none, none, none, none, none, none, none, none, none, none, some 2, some 2, some 2, some 2, none, none, none, none, none, some 2, some 2], [none, some 1, some 7, some 9, some 8, some 1, some 1, some 1, some 1, some 8, none, some 1, some 1, some 3, some 3, none, none, none, some 3, none, some 3], [none, none, none, none, none, none, none, none, none, none, none, none, none, none, some 3, none, none, none, none, none, some 3, some 3, none, none, none, some 1, some 8, some 1, some 8, some 1, some 8, some 1], [some 8, some 1, some 8, none, none, some 1, none, some 1, none, some 1, some 1, some 1, some 1, none, some 4, some 4, none, none, none, some 4, some 4, none, none, some 4], [none, none, none, none, none, none, none, none, none, none, none, none, none, none, some 1, some 1, some 1, none, some 1, some 6, some 5, some 6, some 6, some 6, some 6], [], [none, none, none, none, none, none, none, none, none, none, none, none, none, none, none, none, none, none, none, none, none, none, none, some 1, some 1, none, some 1, none, none, some 1], [some 1, some 1, some 7, some 2, none, none, none, none, none, none, none, none, none, some 1, some 7, some 1, none, none, some 1, some 7, none, none, some 1, some 15, some 16, some 17, some 16, some 16, some 16, some 16, some 17], [none, none, none, none, none, some 16, some 16, some 15, none, some 16, none, none, none, none, none, none, none, none, none, some 16, none, none, none, none, none, none, some 16, some 16, some 16, none, none, some 16], [none, none, none, none, none, none, none, none, none, none, none, some 16, none, some 16, none, none, some 16, none, none, none, some 16], [none, none, none, none, none, none, none, none, none, some 16, some 16, some 15, some 15, some 15, some 15, some 15, some 15, some 15, some 15, some 15, some 15, some 15, some 15, some 15, some 16, some 15, some 15, some 16, some 15, some 16, none, some 15], [some 15, some 15, some 15, some 16, none, some 15, some 15, none, none, some 15, some 15, some 15, none, some 15, some 15, some 15, some 15, none, none, none, none, none, some 15, none, none, none, none, none, some 15], [none, none, none, none, none, none, none, some 15, none, some 15, some 15, some 15, some 15, some 15, some 15, some 15, some 15], [none, none, some 15, none, none, none, none, none, none, none, none, some 15, none, none, none, none, some 15, none, none, none, none, some 15, none, none, none, none, some 15], [none, none, none, none, some 15, some 15, some 15, some 15, some 15, some 15, some 15, none, none, none, none, none, none, none, some 15, some 15, none, some 15, some 15, none, some 15]]
def ft_L : List (List (Option Nat)) := [[some 4, some 1, some 1, some 1, some 1, some 1, some 2, some 1, some 4, some 1, some 6, some 3, some 2, some 4, some 3, some 4, some 6, some 2, some 1, some 4, some 3, some 8, some 2, some 6, some 6, some 1, some 1, some 6, some 1, some 3, some 2, some 5], [some 4, some 5, some 1, some 8, some 3, some 2, some 2, some 4, some 1, some 4, some 10, some 2, some 7, some 4, some 1, some 3, some 6, some 3, some 5, some 4, some 5, some 6, some 6, some 8, some 7, some 1, some 3, some 4, some 11, some 1, some 8, some 2], [some 5, some 2, some 1, some 1, some 4, some 1, some 2, some 3, some 4, some 6, some 1, some 1, some 1, some 4, some 3, some 3, some 4, some 4, some 3, some 3, some 3, some 1, some 4, some 5, some 5, some 3, some 3, some 3, some 4, some 3, some 6, some 2], [some 3, some 3, some 3, some 3, some 9, some 6, some 4, some 6, some 6, some 3, some 6, some 3, some 6, some 6, some 3, some 2, some 3, some 1, some 3, some 3, some 3, some 5, some 3, some 5, some 3, some 4, some 3, some 4, some 7, some 2, some 4, some 4], [some 4, some 3, some 3, some 4, some 3, some 5, some 5, some 3, some 4, some 2, some 2, some 3, some 1, some 5, some 7, some 3, some 3, some 3, some 5, some 3, some 2, some 2, some 1, some 3, some 6, some 2, some 4, some 3, some 1, some 3, some 3, some 7], [some 2, some 1, some 5, some 5, some 3, some 4, some 4, some 4, some 6, some 5, some 2, some 4, some 5, some 3, some 2, some 2, some 6, some 4, some 6, some 4, some 2, some 5, some 5, some 4, some 4, some 3, some 2, some 2, some 3, some 3, some 2, some 4], [some 5, some 4, some 1, some 6, some 2, some 3, some 6, some 3, some 2, some 5, some 3, some 3, some 3, some 5, some 3, some 2, some 4, some 1, some 3, some 6, some 7, some 2, some 2, some 5, some 2, some 5, some 6, some 5, some 5, some 7, some 3, some 3], [some 2, some 2, some 4, some 5, some 4, some 4, some 3, some 5, some 3, some 6, some 4, some 1, some 3, some 7, some 4, some 6, some 6, some 6, some 6, some 4, some 5, some 8, some 3, some 1, some 3, some 3, some 1, some 3, some 5, some 1, some 2, some 2], [some 1, some 3, some 6, some 2, some 6, some 3, some 4, some 2, some 6, some 4, some 3, some 5, some 4, some 4, some 2, some 2, some 6, some 4, some 2, some 6, some 4, some 9, some 3, some 1, some 2, some 1, some 4, some 1, some 3, some 4, some 9, some 3], [some 10, some 1, some 1, some 8, some 2, some 1, some 2, some 3, some 2, some 1, some 7, some 1, some 1, some 2, some 8, some 2, some 1, some 2, some 2, some 2, some 13, some 1, some 5, some 1, some 7, some 1, some 1, some 6, some 5, some 8, some 4, some 6], [some 4, some 5, some 3, some 5, some 2, some 4, some 6, some 3, some 2, some 2, some 2, some 2, some 3, some 3, some 4, some 5, some 3, some 2, some 6, some 2, some 3, some 2, some 4, some 3, some 3, some 4, some 3, some 6, some 12, some 6, some 3, some 6], [some 3, some 5, some 6, some 2, some 4, some 6, some 2, some 5, some 5, some 6, some 4, some 3, some 6, some 3, some 2, some 5, some 2, some 2, some 1, some 1, some 1, some 2, some 3, some 4, some 3, some 1, some 5, some 3, some 4, some 5, some 2, some 4], [some 5, some 5, some 2, some 3, some 2, some 6, some 3, some 4, some 3, some 2, some 2, some 2, some 4, some 5, some 4, some 4, some 3, some 4, some 5, some 6, some 6, some 6, some 2, some 6, some 2, some 2, some 6, some 1, some 2, some 4, some 1, some 1], [some 4, some 6, some 6, some 3, some 9, some 5, some 1, some 3, some 3, some 2, some 2, some 11, some 4, some 4, some 2, some 6, some 3, some 3, some 1, some 3, some 2, some 3, some 3, some 4, some 11, some 6, some 7, some 3, some 2, some 4, some 6, some 4], [some 3, some 3, some 8, some 3, some 1, some 2, some 6, some 4, some 3, some 6, some 3, some 6, some 3, some 2, some 2, some 1, some 13, some 3, some 5, some 4, some 8, some 7, some 6, some 3, some 2, some 10, some 5, some 4, some 6, some 2, some 13, some 10], [some 3, some 4, some 5, some 3, some 1, some 5, some 5, some 1, some 1, some 2, some 2, some 5, some 3, some 3, some 6, some 4, some 8, some 5, some 3, some 1, some 5, some 2, some 6, some 9, some 3]]
def ft_F : List (List (Option (List (List (Option (Nat × Nat)))))) := [[none, some [[none, none, none, none, none, none, none, none, none, some (0, 0), none, none, none, none, none, none, some (0, 2), none, none, none, none, none, none, some (0, 3), none, none, none, none, none, none, some (0, 4)], [none, none, none, none, none, some (0, 5), none, none, none, none, none, none, none, none, some (0, 6), none, none, none, none, none, none, some (0, 7), none, none, none, none, none, none, some (0, 8)], [none, none, none, none, none, some (0, 9), none, none, none, some (0, 10), none, none, some (0, 11), none, none, none, some (0, 13), none, none, none, some (0, 16), none, none, some (0, 17), none, none, some (0, 18), none, none, some (0, 19)], [some (0, 1), none, none, none, none, none, none, none, none, none, none, some (7, 0), none, none, none, none, none, none, none, none, none, some (7, 1)], [some (1, 16), none, none, none, none, none, none, none, none, some (0, 15), none, none, none, none, none, none, some (0, 12), none, none, none, none, none, none, some (7, 3), none, none, some (7, 4)], [none, none, none, none, some (7, 18), none, none, some (7, 17), none, none, some (7, 16), none, none, none, none, none, none, none, none, some (7, 2), none, none, some (9, 3), none, none, none, none, some (9, 1)], [none, none, some (11, 7), none, none, none, none, none, none, none, none, none, none, none, none, none, none, none, none, none, none, none, none, none, none, none, none, none, some (0, 14)], [none, none, none, none, none, none, some (3, 0), none, none, some (3, 1), none, none, some (8, 3)], [none, none, none, some (5, 4), none, none, some (4, 4), none, none, some (4, 0), none, some (4, 1), none, none, some (4, 2), none, none, none, none, none, none, none, none, none, none, none, none, none, none, some (8, 4)], [none, none, none, none, none, none, none, some (6, 5), none, none, none, none, none, none, none, none, some (11, 3), none, none, some (11, 4), none, none, some (6, 4), none, none, some (6, 7)], [none, none, none, some (6, 14), none, none, some (6, 12), none, none, some (6, 13)]], some [[none, none, none, none, none, none, none, none, none, some (1, 0), none, none, none, none, none, none, none, some (1, 1), none, none, none, some (1, 2), none, none, some (1, 4)], [none, none, none, none, none, none, none, some (1, 15), none, none, none, none, none, none, none, some (1, 11), none, none, none, some (1, 12), none, none, some (7, 1), none, none, some (1, 16)], [none, none, none, none, none, none, none, none, none, none, none, none, none, none, none, none, some (1, 17), none, none, none, some (1, 3), none, none, some (1, 13), none, none, none, some (1, 14), none, none, none, some (1, 9)], [none, none, some (7, 7), none, none, some (1, 5), none, none, some (1, 6), none, none, none, none, none, none, some (7, 0), none, none, none, none, none, none, none, none, none, some (1, 7)], [none, none, none, some (7, 2), none, some (7, 3), none, none, some (7, 4), none, none, some (1, 10), none, some (7, 6), none, none, none, some (7, 5), none, none, none, none, none, none, some (1, 8)], [none, none, none, none, none, none, none, none, none, none, none, none, none, none, none, none, none, none, none, none, none, none, none, none, some (7, 13), none, none, some (7, 12)], [none, none, none, none, none, none, none, none, some (7, 15), none, none, none, none, none, none, some (9, 2), none, none, some (7, 14), none, none, some (9, 4), none, none, none, none, none, none, some (9, 11), none, none, some (9, 12)], [none, none, some (9, 6), none, none, some (9, 7), none, none, none, none, none, none, some (9, 9), none, none, some (9, 8), none, none, none, none, none, none, none, none, none, none, some (9, 14), none, none, none, none, some (10, 3)], [none, none, some (9, 13), none, some (9, 15), none, none, some (7, 11), none, none, some (7, 10), none, none, none, none, none, none, none, some (10, 2), some (10, 13), none, none, none, some (10, 1), none, none, some (10, 10), none, none, none, none, some (11, 17)], [none, none, some (10, 11), none, none, some (10, 12), none, none, none, none, none, none, none, none, none, some (10, 4), none, none, some (10, 7), none, some (10, 9), none, some (10, 8)], [none, none, none, none, none, none, some (11, 3), none, none, none, none, some (11, 4), some (11, 10), none, none, some (11, 6), none, some (7, 8), none, none, some (11, 1), none, none, some (11, 13), none, none, some (7, 9)], [some (11, 5), none, none, some (11, 9), none, none, some (11, 15), some (11, 16), none, none, none, none, none, none, none, none, none, none, none, none, none, some (11, 12), none, some (11, 11), none, none, some (11, 8)]], some [[none, none, none, none, none, none, none, none, none, none, none, some (2, 0), none, none, none, none, none, some (2, 1), none, none, none, some (2, 2), none, none, none, some (7, 16), none, none, none, none, none, some (7, 17)], [none, none, none, some (7, 18), none, none, none, none, none, none, none, none, none, none, none, some (7, 9), none, none, some (7, 8), none, none, none, some (11, 16)], [some (11, 7), none, none, none, none, none, none, none, none, none, none, none, some (7, 2), none, none, none, none, none, none, some (7, 15), none, none, some (7, 5), none, none, some (7, 14), none, none, some (9, 3), none, none, some (9, 10)], [none, none, some (7, 6), none, none, none, none, none, none, some (9, 4), none, none, none, none, none, none, some (7, 13), none, none, some (7, 12), none, none, some (9, 1), none, none, some (9, 2), none, none, some (9, 5)], [none, none, none, none, none, none, none, none, none, none, none, none, none, none, none, some (9, 9), none, none, some (9, 11), none, none, none, none, none, none, some (9, 12), none, none, some (9, 8), none, none, some (11, 2)], [some (11, 5), none, none, none, none, none, none, none, none, none, none, none, none, none, some (11, 14), none, some (11, 9), none, none, none, some (11, 6), none, none, none, none, none, none, none, none, none, some (11, 3)], [none, some (11, 10), none, none, none, none, none, none, none, none, none, none, none, none, none, none, none, none, none, none, none, none, none, none, some (9, 0), none, none, none, none, none, none, some (9, 14)], [none, none, none, some (10, 4), none, none, none, none, some (10, 6), none, none, some (10, 3), none, none, none, none, none, none, none, none, none, none, none, none, some (11, 11), none, none, some (11, 12)], [none, none, none, none, some (9, 15), none, none, some (11, 8), none, none, none, none, none, none, none, none, none, none, none, some (7, 11), none, none, some (7, 10), none, none, none, none, none, none, none, some (10, 5)], [some (10, 1), some (10, 10), none, none, some (10, 12), none, none, none, none, none, none, some (10, 11), none, none, none, none, none, none, none, none, none, some (10, 2), none, none, none, none, some (10, 13), some (10, 7), none, some (10, 8)], [some (10, 9), none, some (9, 13), none, none, none, none, none, none, some (9, 17), none, none, none, none, none, none, none, none, none, none, some (9, 18), none, none, some (9, 16)]], some [[none, none, none, none, none, none, none, none, none, none, none, some (3, 0), none, none, none, some (3, 1), none, none, some (3, 5), none, none, none, some (3, 7), none, none, some (3, 9), none, none, some (3, 10), none, none, some (3, 11)], [none, none, none, none, some (3, 12), none, none, some (3, 14), none, none, some (3, 15), none, none, some (3, 16), none, none, some (3, 2), none, none, none, some (3, 3), none, none, none, none, none, none, none, none, some (3, 4)], [none, none, none, none, none, none, none, some (3, 6), none, none, some (3, 8), none, none, some (3, 13), none, none, some (3, 17), none, none, some (3, 18), none, none, none, none, none, none, none, none, none, none, none, some (7, 8)], [none, none, none, none, none, none, none, none, none, none, none, none, some (7, 10), none, none, none, none, none, none, none, some (7, 13), none, none, some (7, 12), none, none, none, some (9, 1)], [some (9, 8), none, none, some (9, 13), none, none, none, none, none, none, none, some (7, 15), none, none, some (7, 14), none, none, none, none, none, none, none, none, none, none, some (9, 10), none, none, none, some (9, 0)], [some (9, 2), none, none, none, none, none, none, none, none, some (9, 11), none, none, some (9, 18), none, none, some (9, 12), none, none, some (7, 2), none, none, some (9, 3), none, none, some (10, 2)], [none, some (11, 13), none, none, none, none, none, none, none, none, some (11, 0), some (11, 2), some (11, 6), none, none, none, none, none, some (11, 17), none, none, some (11, 14)], [none, none, none, none, none, none, none, none, none, none, none, none, none, some (9, 16), none, none, some (11, 8), none, none, some (11, 9)], [none, none, none, none, some (9, 14), none, none, none, some (10, 0), some (9, 17), none, none, none, none, none, some (11, 1), none, none, none, none, none, none, none, none, none, some (9, 5), none, none, some (9, 15), none, none, some (7, 3)], [none, none, none, none, none, none, some (10, 1), some (10, 10), some (10, 11), none, some (10, 7), none, some (10, 12), none, none, none, none, none, some (11, 7), some (10, 8)], [none, none, none, some (10, 9), none, some (10, 6)]], some [[none, none, none, none, none, none, none, none, none, some (4, 0), none, none, none, none, none, some (4, 1), none, none, some (4, 2), none, none, some (4, 3), none, none, some (4, 5), none, none, none, some (4, 6), none, none, some (4, 8)], [none, none, some (4, 9), none, none, some (4, 10), none, none, none, some (4, 4), none, none, none, some (4, 7), none, none, none, none, none, none, none, none, none, none, none, none, none, none, some (7, 2)], [], [none, none, none, none, none, none, none, some (7, 3), none, none, none, none, none, none, none, none, some (9, 3), none, none, none, none, some (7, 1)], [some (7, 0)]], some [[none, none, none, none, none, none, none, none, none, some (5, 10), none, none, none, none, none, some (5, 0), none, none, none, some (5, 1), none, none, none, some (5, 2), none, none, none, some (5, 3), none, none, none, some (5, 4)], [none, none, some (5, 5), none, none, none, some (5, 6), none, none, none, some (5, 7), none, none, none, some (5, 8), none, none, some (5, 9)], [none, none, none, none, none, none, none, none, none, none, none, none, none, none, none, none, none, none, none, none, none, some (9, 9), none, none, none, none, some (9, 10)], [none, none, none, none, none, none, none, none, none, none, none, none, none, none, none, none, none, none, none, none, none, none, none, none, none, none, none, none, some (9, 1)], [none, none, none, none, none, none, none, some (9, 8), none, none, none, none, none, none, none, some (10, 1)], [none, none, none, none, none, none, none, some (7, 11), none, none, some (7, 10), none, none, none, some (10, 2), none, none, some (10, 4), none, none, some (10, 6), none, none, some (10, 3), none, none, some (10, 9), none, none, some (10, 10), some (11, 14)], [none, none, none, some (7, 2), none, none, some (7, 9), none, none, some (7, 8), none, none, none, some (11, 2), none, none, none, none, some (11, 11), none, none, none, none, none, none, some (11, 3), some (11, 12)], [none, none, none, none, none, none, some (7, 7), none, none, some (7, 4), none, none, some (7, 6), none, none, some (9, 14), none, none, none, none, none, none, some (11, 5)], [none, some (10, 13), none, none, none, none, none, none, none, none, none, none, none, none, none, some (9, 3), none, none, none, none, some (11, 4), none, none, none, none, none, none, none, some (11, 15), some (11, 7)], [some (11, 17), none, none, none, none, none, none, none, none, none, none, none, none, none, none, none, none, none, none, none, none, none, none, none, none, none, some (9, 7), none, none, none, some (9, 0)], [none, some (7, 13), none, none, some (7, 12), none, none, none, none, none, some (9, 15)], [none, none, none, none, none, none, none, none, none, none, none, none, some (9, 5), none, none, none, none, none, none, none, none, none, none, none, none, some (10, 7)], [none, none, some (11, 9), none, none, some (9, 6), none, none, none, none, none, none, none, none, none, none, none, none, none, none, none, none, none, none, none, none, none, none, none, none, none, some (9, 18)], [none, none, none, none, none, none, none, none, none, none, none, none, none, none, none, some (9, 4), none, none, none, none, none, none, none, none, none, none, none, none, none, some (9, 13)], [none, none, none, none, some (10, 8), none, none, none, none, none, none, none, none, none, none, none, none, none, none, none, none, none, none, none, none, none, some (1, 16)], [none, none, some (7, 17), none, none, some (7, 18)]], some [[none, none, none, none, none, none, none, none, none, none, none, none, none, none, some (6, 0), none, none, none, none, none, some (6, 5), none, none, none, some (6, 6), none, none, none, none, none, some (6, 8)], [none, none, some (6, 9), none, none, some (6, 10), none, none, some (6, 11), none, none, some (6, 12), none, none, some (6, 13), none, none, some (6, 4), none, none, none, some (6, 7), none, none, some (6, 14), none, none, some (6, 1), none, none, some (7, 0)], [none, none, none, none, none, none, none, none, some (7, 1), none, none, none, none, none, none, none, none, some (1, 16), some (1, 17), none, none, none, some (6, 2), none, none, none, none, some (6, 3), none, none, some (7, 7)], [none, some (7, 4), none, none, some (7, 2), none, none, none, none, none, none, none, none, none, none, none, none, some (7, 9), none, none, some (7, 8), none, none, some (11, 2), none, none, some (11, 4), none, none, some (11, 5)], [some (11, 7), none, none, some (7, 15), none, none, some (7, 14), none, none, none, some (9, 3), none, none, none, none, none, none, some (9, 5), none, none, none, none, none, none, some (11, 3)], [none, none, some (11, 15), none, none, none, some (10, 1), none, none, some (10, 10), none, none, some (11, 17), none, none, some (11, 0), none, none, some (11, 1), none, none, none, none, none, none, none, none, none, some (11, 6), none, none, some (11, 8)], [none, none, some (11, 9), none, none, none, none, none, none, none, none, none, none, none, none, none, none, some (7, 5)], [none, none, none, none, none, none, none, none, none, none, none, none, none, none, none, none, none, none, some (7, 11), none, none, some (7, 10), none, none, none, none, none, none, none, some (10, 2)], [none, none, some (10, 4), none, none, some (10, 3), some (10, 9)]], some [[none, none, none, none, none, none, none, none, none, none, none, some (7, 14), none, none, none, none, none, some (7, 18), none, none, none, none, none, some (7, 0), none, none, some (7, 1), none, none, none, some (7, 2)], [none, some (7, 3), none, none, some (7, 4), none, none, some (7, 5), none, none, some (7, 6), none, none, none, none, some (7, 8), none, none, none, none, none, some (7, 10), none, none, none, some (7, 12), none, none, some (7, 7), none, none, some (7, 9)], [none, none, some (7, 11), none, none, some (7, 13), none, none, some (7, 15), none, none, some (7, 16), none, none, none, some (7, 17), none, none, none, none, none, none, none, none, some (9, 3)], [none, none, none, none, none, none, some (9, 1), none, none, some (9, 2), none, none, none, none, none, none, some (9, 18), none, none, none, some (9, 0), none, none, some (9, 15), none, none, some (9, 6), none, none, some (9, 7)], [none, none, none, none, some (11, 3), some (11, 4), some (11, 2), some (9, 10), none, none, some (9, 5), none, none, some (9, 8), none, none, some (9, 9), none, none, none, none, none, none, none, none, none, none, some (11, 1), none, none, some (11, 0), some (11, 6)], [none, none, some (11, 14)]], some [[none, none, none, none, none, none, none, none, none, none, none, some (8, 0), none, none, none, none, none, none, none, some (8, 1), none, none, some (8, 3), none, none, none, some (8, 4)], [none, some (8, 2), none, none, some (7, 0), none, none, none, none, some (7, 1)]], none, none, some [[none, none, none, none, none, none, none, none, none, some (9, 0), none, none, none, none, none, some (9, 1), none, none, some (9, 3), none, none, some (9, 2), none, none, some (9, 4), none, none, some (9, 5), none, none, some (9, 6)], [none, some (9, 7), none, none, some (9, 8), none, none, none, some (9, 9), none, none, none, some (9, 10), none, none, some (9, 11), none, none, some (9, 12), none, none, some (9, 13), none, none, none, some (9, 14), none, none, none, some (9, 15)], [some (9, 16), none, none, some (9, 17), none, none, some (9, 18)]], some [[none, none, none, none, none, none, none, some (10, 0), none, none, none, none, none, some (10, 6), none, none, none, some (10, 1), none, none, some (10, 4), none, none, none, some (10, 5), none, none, some (10, 7), none, none, some (10, 8)], [none, some (10, 9), none, none, some (10, 10), none, none, none, some (10, 11), none, none, some (10, 12)]], some [[none, none, none, none, none, none, none, none, none, some (11, 0), none, none, none, none, none, some (11, 1), none, none, some (11, 2), none, none, some (11, 6), none, none, some (11, 7), none, none, some (11, 8), none, none, some (11, 10)], [none, none, some (11, 11), none, none, some (11, 12), none, none, some (11, 13), none, none, some (11, 14), none, none, none, some (11, 17)]], some [[none, none, none, none, none, none, none, none, none, none, none, none, none, none, none, some (12, 3), none, none, none, some (12, 4), none, none, some (12, 2), none, none, none, some (15, 1)], [some (15, 0), none, none, none, none, none, none, none, none, none, none, none, none, none, none, none, none, none, none, none, none, none, none, none, none, some (12, 31), none, none, some (12, 30)], [none, none, none, some (12, 32), none, none, some (12, 33), none, none, some (12, 37), none, none, none, none, none, none, some (12, 6), none, none, none, some (14, 13), none, none, some (14, 5), none, none, some (14, 6), none, none, some (14, 8)], [some (12, 38), none, none, none, none, none, none, some (14, 2), none, none, none, some (15, 3), none, none, some (14, 9), none, none, none, none, none, none, some (14, 31), none, none, some (14, 17), some (14, 21), none, none, none, some (14, 30)], [some (14, 7), none, none, some (14, 12), none, none, none, none, none, some (15, 4), none, none, some (14, 10), none, none, some (15, 2), none, none, none, none, none, none, none, none, none, some (12, 36), none, none, some (14, 29), none, none, some (14, 28)], [none, none, some (14, 16), none, none, some (14, 22), none, none, some (14, 18), none, none, none, none, none, none, some (14, 4), none, none, none, none, none, some (12, 34), none, none, some (14, 27), none, none, some (12, 35)], [none, some (12, 7), none, none, some (12, 29), none, none, some (12, 8), none, none, some (12, 5), none, none, some (12, 9), none, none, none, none, none, some (12, 49), none, none, some (12, 10), none, none, some (12, 11), none, none, some (12, 12), none, none, some (12, 16)], [none, none, some (12, 18), none, none, some (12, 17), none, none, some (12, 23), none, none, some (12, 25), none, none, some (12, 26), none, none, some (12, 27), none, none, some (12, 28), none, none, some (12, 40), none, none, some (12, 42), none, none, some (12, 19)], [none, none, none, some (12, 41), none, none, none, none, none, none, none, none, none, none, none, none, none, none, none, none, none, none, none, some (14, 26), none, none, some (14, 25), none, none, some (12, 39)], [some (12, 43), none, none, some (12, 44), none, none, some (12, 45), none, none, some (12, 46), none, none, some (12, 47), none, none, some (12, 48), none, none, none, none, none, none, none, none, none, none, none, some (12, 24), none, none, some (12, 20)], [none, some (12, 21), none, none, some (14, 20), none, none, some (14, 55), none, none, some (14, 54), none, none, some (12, 50), none, none, some (12, 51), none, none, none, none, none, none, some (12, 22)], [none, none, none, none, none, none, none, none, none, none, none, none, none, none, none, none, none, none, none, none, none, none, none, none, none, none, none, none, some (12, 13)], [none, none, none, none, some (12, 0), none, none, none, none, none, none, none, none, some (12, 14), none, none, none, none, none, some (12, 52), none, none, some (12, 53), none, none, some (12, 54), none, none, some (12, 55), none, none, some (12, 56)], [none, none, none, none, some (12, 57), none, none, some (12, 58), none, none, some (12, 63), none, none, some (12, 64), none, none, some (12, 65), none, none, some (12, 66), none, none, some (12, 67), none, none, some (12, 69), none, none, some (12, 70), none, none, some (12, 71)], [none, none, some (12, 73), none, none, some (12, 75), none, none, some (12, 77), none, none, some (12, 78), none, none, some (12, 79), none, none, some (12, 80), none, none, some (12, 81), none, none, some (12, 82), none, none, some (12, 85), none, none, some (12, 90)], [some (12, 92), none, none, some (12, 93), none, none, some (12, 94), none, none, some (12, 95), none, none, some (12, 96), none, none, some (12, 97), none, none, some (12, 98), none, none, some (12, 99), none, none, some (12, 101), none, none, some (12, 107), none, none, some (12, 109)], [none, some (12, 110), none, none, some (12, 111), none, none, none, none, none, none, none, none, some (14, 1), some (14, 0), none, none, none, some (12, 62), none, none, some (12, 68), none, none, some (12, 74), none, none, some (12, 72)], [none, none, none, none, none, none, none, none, none, some (12, 76), none, none, none, none, none, none, none, none, none, none, none, none, none, none, some (14, 11)], [], [none, none, none, none, none, none, none, none, none, none, none, none, none, none, none, none, none, none, none, none, none, none, none, some (14, 3), none, none, some (15, 5)], [some (14, 34), none, none, none, none, none, none, none, none, none, none, none, none, none, none, none, some (14, 23), none, none, some (14, 24), none, none, some (12, 83)], [], [none, none, none, none, none, none, none, none, none, none, none, none, none, none, none, none, none, none, none, none, none, none, none, none, none, some (14, 15)], [none, none, none, none, none, none, none, none, none, none, none, none, some (14, 14)], [], [none, none, none, none, none, none, none, none, none, none, none, none, none, none, none, none, none, none, none, none, none, none, none, none, none, some (14, 19)], [none, none, none, none, none, none, none, none, none, none, some (14, 36), none, none, some (14, 35), none, none, some (14, 41), none, none, some (14, 37), none, none, some (14, 38), none, none, some (14, 42), none, none, some (14, 43), none, none, some (14, 45)], [none, none, none, none, none, none, none, none, none, some (12, 87), none, none, none, none, none, some (12, 88), none, none, some (12, 89), none, none, none, none, none, none, none, none, some (14, 46)], [none, none, none, none, none, none, none, none, none, none, none, some (14, 44), none, none, none, none, none, none, none, none, none, none, none, none, none, none, some (12, 84)], [none, none, none, some (12, 91), none, none, none, none, none, some (12, 100), none, none, some (12, 1), none, none, none, none, none, some (12, 86), none, none, none, none, none, none, none, none, some (12, 59), none, none, some (12, 60)], [none, none, none, none, some (12, 102), none, none, some (14, 33), none, none, none, none, none, some (12, 15), none, none, none, none, none, none, none, none, none, none, some (12, 103), none, none, some (12, 104), none, none, some (12, 105)], [none, some (12, 106), none, none, some (12, 108)]], some [[none, none, none, some (14, 58), none, none, none, none, none, none, none, none, none, none, none, none, none, some (14, 0), none, none, some (14, 1), none, none, none, none, none, none, some (14, 2), none, none, none, some (14, 3)], [none, none, some (14, 5), none, none, some (14, 6), none, none, some (14, 7), none, none, some (14, 8), none, none, some (14, 9), none, none, some (14, 10), none, none, some (14, 11), none, none, some (14, 12), none, none, some (14, 13), none, none, some (14, 14)], [some (14, 15), none, none, some (14, 17), none, none, some (14, 18), none, none, some (14, 19), none, none, some (14, 20), none, none, some (14, 21), none, none, none, some (14, 22), none, none, some (14, 23), none, none, some (14, 24), none, none, some (14, 25), none, none, some (14, 26)], [none, none, some (14, 28), none, none, some (14, 29), none, none, some (14, 30), none, none, some (14, 31), none, none, some (14, 32), none, none, some (14, 44), none, none, some (14, 47), none, none, some (14, 52), none, none, some (14, 53), none, none, some (14, 54)], [some (14, 55), none, none, some (14, 56), none, none, some (15, 4), none, none, some (15, 2), none, none, some (15, 0), some (14, 35), none, none, none, none, none, none, none, none, none, none, none, none, none, none, none, some (14, 36)], [some (14, 41), none, none, none, none, none, some (15, 1), none, none, none, none, none, none, none, none, none, none, none, none, none, none, none, none, none, none, none, none, none, none, some (14, 37)], [some (14, 4), none, none, some (14, 38), none, none, none, none, none, some (14, 16), none, none, some (15, 5), none, none, some (14, 39), none, none, some (14, 40)], [], [none, none, none, none, none, none, none, none, none, none, none, none, none, none, none, none, none, none, none, none, none, none, none, none, none, none, none, none, none, some (14, 45)], [some (14, 46), none, none, some (14, 43), none, none, some (14, 42), none, none, none, none, none, some (12, 52), none, none, none, none, none, none, none, some (15, 3), none, none, none, none, some (14, 27)], [some (14, 33), none, none, some (14, 34)], [none, none, none, none, none, none, none, none, none, none, none, none, none, none, none, none, none, none, none, none, none, some (14, 48), none, none, some (14, 49), none, none, some (14, 50), none, none, some (14, 51)], [], [none, none, none, none, none, none, none, none, none, none, none, none, none, none, none, none, none, none, none, none, none, none, none, none, none, some (14, 57)]], some [[none, none, none, none, none, none, none, none, none, some (15, 0), none, none, none, none, none, some (15, 1), none, none, some (15, 2), none, none, some (15, 3), none, none, some (15, 4)], [none, none, none, none, none, none, none, none, none, none, none, none, none, some (15, 5)]]]]
def ft_C : List (List (Option (List (List (Option (Nat × Nat × Nat)))))) := [[some [[none, none, none, none, none, none, none, none, none, some (4, 1, 0), none, none, some (4, 279, 0), some (2, 10, 5), none, none, none, some (2, 364, 5), some (2, 12, 1), none, none, none, some (2, 366, 1), some (2, 13, 1), none, none, some (2, 367, 1), some (2, 69, 0), none, none, none, some (2, 372, 0)], [some (2, 70, 1), none, none, some (2, 373, 1), some (2, 71, 2), none, none, none, some (2, 374, 2), some (2, 72, 2), none, none, some (2, 375, 2), some (2, 75, 0), none, none, some (2, 377, 0), some (2, 121, 2), none, none, some (2, 378, 2), some (2, 123, 2), none, none, some (2, 380, 2), some (2, 125, 1), none, none, some (2, 383, 1), some (2, 127, 2)], [some (2, 384, 2), some (2, 129, 1), none, none, some (2, 385, 1), some (2, 133, 2), none, none, some (2, 389, 2), some (2, 135, 1), none, none, some (2, 390, 1), some (2, 137, 1), none, none, some (2, 393, 1), some (2, 138, 0), none, none, some (2, 394, 0), some (2, 139, 1), none, none, some (2, 395, 1), some (2, 174, 1), none, none, some (2, 425, 1), some (2, 175, 1)], [some (2, 426, 1), some (2, 176, 2), none, none, some (2, 427, 2), some (2, 178, 3), none, none, none, some (2, 428, 3), some (2, 247, 0), none, none, some (2, 484, 0), some (2, 248, 2), none, none, some (2, 485, 2), some (2, 250, 0), none, none, some (2, 486, 0), some (2, 253, 0), none, none, some (2, 487, 0), some (2, 256, 0), none, none, some (2, 488, 0), some (2, 257, 0)], [none, some (2, 489, 0), some (2, 269, 2), none, none, some (2, 498, 2), some (2, 271, 0), none, none, some (2, 499, 0), some (2, 274, 1), none, none, some (2, 501, 1), some (2, 278, 2), none, none, some (2, 504, 2)]], some [[none, none, none, some (9, 0, 0), none, none, none, none, none, none, none, none, none, none, none, some (5, 2, 0), none, none, none, none, none, none, some (5, 3, 0), none, none, none, none, none, none, some (5, 4, 0)], [none, none, none, none, some (5, 5, 0), none, none, none, none, none, none, some (4, 6, 1), none, none, none, none, none, none, none, none, some (5, 7, 0), none, none, none, none, none, none, some (5, 9, 0)], [none, none, some (4, 8, 3)], [none, none, none, some (2, 11, 1), none, none, none, some (2, 14, 1), none, none, none, none, none, none, none, some (7, 0, 5), none, none, none, none, none, none, none, none, some (2, 15, 1), none, none, none, some (2, 16, 3)], [none, none, none, some (2, 65, 0), none, none, some (2, 67, 0), none, none, none, none, none, none, some (2, 68, 1), none, none, none, none, none, some (2, 66, 0), some (2, 73, 1), none, none, none, none, none, none, none, none, some (0, 74, 1)], [some (2, 76, 0), none, none, none, none, none, none, none, none, none, none, none, some (2, 77, 1), none, none, some (2, 122, 1), none, none, none, none, none, none, none, none, none, none, none, none, none, none, some (2, 124, 2)], [none, none, none, none, none, none, none, some (2, 126, 1), none, none, some (2, 128, 2), none, none, none, some (2, 130, 1), none, none, some (2, 131, 1), none, none, none, some (2, 134, 2), none, none, none, some (2, 136, 1), none, none, none, none, none, some (2, 140, 0)], [none, none, some (2, 142, 3), none, none, none, none, none, none, none, none, none, none, none, none, some (2, 141, 2), none, none, none, none, some (2, 177, 0), none, none, some (2, 179, 3), none, none, none, some (2, 181, 3), none, none, none, some (2, 238, 3)], [none, none, none, none, none, none, none, none, none, none, none, none, none, none, none, some (2, 249, 2), none, none, none, some (2, 239, 1), none, none, some (2, 251, 2), none, none, none, some (2, 254, 1)], [some (2, 255, 1), none, none, some (2, 258, 4), none, none, none, none, some (2, 262, 0), none, none, none, some (2, 270, 1), none, none, none, none, none, none, none, none, none, none, none, none, none, none, none, some (2, 272, 1), none, none, some (2, 275, 2)]], some [[none, none, none, some (9, 0, 0), none, none, none, none, none, none, none, none, none, none, none, none, none, none, none, none, none, none, none, none, none, none, none, none, some (2, 18, 0)], [none, some (0, 19, 2), none, none, none, none, none, none, none, none, none, some (2, 17, 1), none, none, none, none, none, none, none, none, none, none, none, none, none, none, none, none, some (2, 20, 2)], [none, some (2, 34, 0), none, none, none, some (2, 35, 1), none, none, none, some (2, 36, 1), none, none, some (2, 52, 1)], [none, none, none, none, none, none, none, none, none, none, none, some (2, 21, 1), none, none, none, none, none, none, none, some (0, 22, 2), none, none, none, none, none, none, none, none, some (0, 23, 3)], [some (2, 24, 3), none, none, none, none, none, none, none, none, none, none, none, none, none, none, none, none, none, none, none, some (2, 31, 1), none, none, none, none, none, none, some (1, 25, 1), none, none, none, some (1, 26, 1)], [none, none, some (1, 27, 3), none, none, some (1, 28, 1), none, none, some (2, 29, 2), none, none, some (2, 30, 1), none, none, some (2, 32, 1), none, none, some (2, 33, 3), none, none, none, some (2, 37, 1)], [some (5, 40, 0), some (2, 41, 3), none, none, none, some (2, 38, 1), none, none, none, none, none, some (2, 39, 2), none, none, none, none, none, none, none, none, none, none, none, none, some (2, 42, 2)], [none, none, none, none, none, none, none, none, some (2, 43, 0), none, none, none, none, none, none, none, none, none, some (2, 44, 1), none, none, none, some (2, 45, 1), none, none, none, none, some (2, 48, 2)], [none, none, none, none, none, none, none, none, none, none, none, none, none, none, some (5, 46, 0), some (2, 47, 2), none, none, none, none, some (2, 51, 2), none, none, none, none, none, none, some (2, 64, 1)], [none, none, none, none, none, none, none, none, some (2, 49, 1), none, none, some (2, 50, 2), none, none, none, none, none, none, none, none, none, none, none, none, none, some (2, 53, 1), none, none, some (0, 61, 1), none, none, some (2, 62, 3)], [none, none, none, some (2, 63, 1), none, none, none, some (2, 56, 4), none, none, none, none, none, none, none, none, none, none, none, none, none, none, none, none, none, none, none, none, none, some (5, 57, 0), some (2, 58, 2)], [none, none, none, none, none, none, none, none, some (2, 54, 1), none, none, some (2, 55, 1), none, none, some (2, 60, 4), none, none, none, some (2, 59, 1)]], some [[none, none, none, some (9, 0, 0)], [none, none, none, none, none, none, some (2, 78, 0), none, none, some (2, 82, 0), none, none, some (2, 84, 0), none, none, none, none, none, none, none, none, none, none, none, none, none, none, none, some (2, 89, 1)], [none, none, none, some (2, 110, 0), none, none, some (2, 116, 0), none, none, some (2, 117, 0), none, none, none, none, none, some (2, 80, 2)], [none, none, none, none, none, some (2, 79, 1), none, none, none, none, none, none, some (2, 81, 1), none, none, none, none, none, none, none, none, none, none, none, none, none, none, none, none, some (2, 83, 1)], [none, some (2, 63, 1), none, none, some (2, 85, 0), none, none, none, some (2, 86, 1), none, none, none, some (2, 88, 1), none, none, none, none, none, none, none, none, some (2, 87, 2)], [none, some (2, 90, 2), none, none, none, some (2, 91, 1), none, none, some (2, 97, 1), none, none, some (2, 100, 1), none, none, none, none, none, none, none, none, none, none, none, some (2, 107, 2), none, none, none, some (2, 108, 1)], [none, none, none, none, some (2, 109, 2), none, none, none, some (2, 103, 2), none, none, none, some (2, 92, 2), none, none, none, some (2, 94, 3), none, none, none, some (2, 96, 2), none, none, none, none, none, none, some (0, 93, 2)], [none, none, none, none, none, none, none, none, none, none, none, none, none, none, some (0, 95, 2), none, none, some (2, 99, 1), none, none, some (2, 98, 1), none, none, none, none, none, none, none, none, some (2, 101, 2)], [none, some (2, 104, 1), none, none, none, none, none, none, none, none, some (2, 102, 2), none, none, some (2, 105, 2), none, none, some (2, 106, 2), none, none, none, none, none, none, none, none, none, some (0, 111, 1)], [none, none, none, none, none, none, none, some (2, 112, 2), none, none, none, none, none, some (2, 114, 2), none, none, none, some (0, 113, 1), none, none, none, none, some (2, 115, 1)], [none, none, none, some (0, 19, 2), none, none, none, none, none, none, none, none, some (0, 118, 1), none, none, none, some (2, 119, 1), none, none, none, none, none, none, none, none, none, some (0, 120, 1)]], some [[none, none, none, none, none, some (9, 0, 0)], [none, none, none, none, none, none, none, none, none, none, none, none, none, none, none, none, none, none, none, none, none, none, none, some (0, 22, 2)], [none, some (0, 19, 2), none, none, none, none, none, none, none, none, none, none, none, none, none, none, none, none, none, none, none, none, none, some (2, 143, 0), none, none, some (2, 147, 1)], [none, none, none, none, none, some (2, 154, 2), none, none, none, some (2, 166, 1), none, none, none, none, none, none, some (2, 167, 2)], [none, none, none, none, none, none, none, some (2, 144, 2), none, none, none, none, none, none, none, none, none, some (0, 145, 1), none, none, none, some (2, 146, 1)], [none, none, none, some (7, 0, 5), none, none, none, none, none, none, none, none, none, none, none, none, none, none, none, none, none, none, none, none, none, none, none, none, none, some (2, 151, 1)], [none, none, none, none, none, none, some (2, 155, 1), none, none, none, none, none, none, none, none, some (2, 153, 1), none, none, none, none, none, none, none, none, some (2, 157, 2), none, none, none, some (2, 158, 1)], [some (2, 159, 2), none, none, some (2, 162, 1), none, none, some (2, 156, 0), none, none, none, some (2, 165, 1), none, none, none, none, none, none, none, none, none, none, none, some (0, 160, 2), none, none, some (2, 150, 0), none, none, none, some (2, 161, 0)], [some (2, 152, 4), none, none, none, none, none, none, none, none, none, none, none, some (0, 163, 4), none, none, none, none, none, some (2, 148, 0), none, none, some (0, 149, 2)], [none, none, some (2, 32, 1), none, none, none, none, none, none, none, none, none, none, none, none, some (2, 168, 2), none, none, none, none, none, none, some (2, 169, 2), none, none, some (2, 170, 1), none, none, some (2, 171, 2), none, none, some (2, 172, 2)], [none, none, none, none, none, none, none, none, some (2, 173, 2)]], some [[none, none, none, some (9, 0, 0)], [none, none, none, none, none, none, none, none, none, none, none, none, none, none, none, none, some (0, 19, 2), none, none, none, none, none, some (0, 22, 2)], [none, some (2, 190, 1), none, none, none, some (2, 191, 2), none, none, none, some (1, 26, 1), none, none, none, some (2, 32, 1), none, none, none, none, none, none, none, none, none, none, none, some (2, 193, 2), none, none, some (2, 205, 2)], [none, some (2, 206, 1), none, none, none, none, none, none, some (2, 99, 1), none, none, none, none, none, none, none, none, none, none, none, none, none, none, none, some (2, 240, 4), none, none, none, some (2, 241, 4)]], some [[none, none, none, some (9, 0, 0)], [none, none, none, none, none, none, none, none, none, none, none, none, none, none, none, none, none, none, none, none, some (2, 180, 1), none, none, none, none, none, some (2, 182, 3), none, none, none, some (2, 185, 1)], [none, none, some (2, 187, 0), none, none, none, some (2, 195, 0), none, none, some (2, 207, 0), none, none, some (2, 211, 0), none, none, some (2, 219, 0), none, none, some (2, 222, 0), none, none, none, none, none, none, none, none, none, none, some (2, 224, 1)], [none, some (2, 225, 0), none, none, some (2, 227, 0), none, none, some (2, 232, 0), none, none, some (2, 234, 0), none, none, some (2, 235, 0), none, none, some (2, 237, 0), none, none, some (2, 122, 1), none, none, none, none, none, some (2, 130, 1), none, none, none, none, none, some (2, 124, 2)], [none, none, none, some (2, 183, 2), none, none, none, none, none, none, none, some (2, 184, 1), none, none, none, none, none, none, some (2, 186, 0), none, none, none, some (1, 28, 1), none, none, some (1, 25, 1), none, none, some (1, 26, 1), none, none, some (1, 27, 3)], [none, none, none, some (2, 73, 1)], [none, none, none, none, none, none, none, none, none, none, none, none, none, none, some (2, 188, 2), none, none, none, none, none, none, some (2, 198, 1), none, none, none, none, none, none, some (2, 189, 2)], [some (2, 194, 0), none, none, some (2, 192, 3), none, none, none, none, none, none, none, none, none, none, none, none, none, none, some (0, 196, 2), none, none, none, none, none, none, some (2, 197, 2), none, none, none, some (0, 199, 1)], [none, none, none, none, some (2, 200, 1), none, none, none, some (0, 202, 3), none, none, none, some (2, 203, 2), none, none, none, some (2, 132, 2), none, none, none, none, some (2, 204, 2), none, none, some (2, 201, 3)], [none, none, none, some (2, 191, 2), none, none, some (2, 208, 1), none, none, none, none, none, some (2, 206, 1), none, none, none, some (2, 209, 0), none, none, none, none, some (2, 210, 2), none, none, none, none, none, some (2, 212, 1)], [none, none, none, none, none, none, none, some (2, 213, 1), none, none, none, none, none, some (0, 214, 2), none, none, some (2, 215, 3), none, none, none, some (2, 216, 1), none, none, none, some (2, 81, 1), none, none, some (2, 217, 3)], [none, some (2, 218, 2), none, none, none, none, none, some (2, 190, 1), none, none, none, none, none, none, none, none, none, none, none, none, none, none, none, none, none, none, none, none, some (2, 136, 1), none, none, some (2, 220, 0)], [none, none, none, none, none, none, some (2, 221, 1), none, none, none, none, none, some (2, 205, 2), none, none, none, none, none, none, some (2, 223, 1), none, none, none, none, some (2, 226, 2), none, none, none, some (2, 228, 1)], [none, none, some (2, 229, 1), none, none, some (2, 231, 1), none, none, some (2, 230, 2), none, none, some (2, 102, 2), none, none, none, none, none, none, some (2, 233, 1), none, none, some (2, 63, 1), none, none, none, none, some (2, 85, 0), none, none, none, some (0, 149, 2)], [none, none, none, none, none, none, none, none, none, some (2, 236, 2), none, none, none, none, none, none, none, some (2, 239, 1), none, none, some (2, 16, 3), none, none, none, none, none, none, none, none, some (2, 77, 1)], [none, none, none, none, none, none, none, none, some (2, 242, 1), none, none, none, some (2, 245, 1), none, none, some (2, 244, 2), none, none, none, some (2, 243, 2), none, none, none, some (0, 22, 2), none, none, none, none, some (2, 246, 2)], [some (2, 105, 2)]], some [[none, none, none, some (9, 0, 0), none, none, none, none, none, none, none, some (4, 8, 3)], [], [none, none, some (7, 0, 5), none, none, none, none, none, none, none, none, some (2, 259, 1), none, none, none, none, none, none, none, none, none, none, none, some (2, 260, 0)], [none, none, none, none, none, none, none, some (2, 32, 1), none, none, none, some (2, 63, 1), none, none, some (2, 261, 1)], [none, none, none, none, none, none, none, none, none, none, none, none, none, some (2, 33, 3), none, none, none, none, some (0, 19, 2), none, none, none, none, none, none, none, none, some (0, 263, 1), none, none, none, some (2, 264, 1)], [none, none, none, none, none, none, none, none, none, none, none, none, none, none, none, none, none, none, none, none, none, some (2, 265, 2), none, none, none, some (2, 268, 2)], [none, none, none, none, none, some (2, 103, 2), none, none, none, some (0, 266, 1), none, none, none, some (2, 267, 2), none, none, none, none, none, none, some (2, 189, 2), none, none, none, none, none, none, none, some (2, 206, 1)], [none, none, some (2, 273, 2), none, none, none, none, none, some (2, 194, 0), none, none, some (2, 217, 3), none, none, none, some (2, 204, 2), none, none, none, none, none, none, none, none, none, some (0, 276, 2), none, none, none, none, some (2, 277, 3)]], some [[none, none, none, some (9, 0, 0)], [], [none, none, none, none, none, none, none, none, none, none, none, none, none, none, none, none, none, none, some (7, 0, 5), none, none, none, none, none, none, none, none, some (2, 32, 1), none, none, none, some (2, 73, 1)], [none, none, some (2, 122, 1), none, none, none, none, none, none, none, none, none, some (2, 132, 2)], [some (2, 215, 3), none, none, none, none, none, none, none, none, none, none, none, none, none, none, none, none, none, none, some (2, 81, 1), none, none, none, some (2, 87, 2)]], some [[none, none, none, some (9, 0, 0), none, none, none, none, none, none, none, none, none, none, none, none, none, none, none, none, none, none, none, none, none, none, none, none, none, some (2, 252, 2)], [none, none, none, none, none, none, none, none, none, none, none, none, none, some (7, 0, 5)]], some [[none, none, none, none, none, none, none, none, none, none, none, none, none, some (0, 164, 3)]], none, some [[none, none, none, some (9, 0, 0)]], some [[none, some (9, 0, 0)]], some [[none, none, none, some (9, 0, 0)]], some [[], [none, none, none, some (0, 324, 2), none, none, none, some (3, 325, 2), none, none, none, none, none, some (0, 160, 2), none, none, none, none, none, some (7, 0, 5), none, none, none, none, none, none, none, none, none, none, none, some (0, 400, 2)], [none, none, none, none, none, none, none, none, none, none, none, none, some (2, 402, 1)], [none, none, none, some (2, 399, 3), none, none, none, none, none, none, none, none, none, none, none, none, none, some (3, 327, 2)], [none, none, none, none, none, none, some (2, 401, 1), none, none, none, none, none, none, none, none, none, none, none, some (2, 403, 1), none, none, some (2, 404, 2)], [none, none, none, none, none, none, none, none, none, none, none, some (3, 294, 1), none, none, none, none, none, none, some (0, 22, 2), none, none, none, none, none, none, none, none, none, none, none, some (2, 405, 1)], [none, none, none, none, none, none, none, none, none, none, none, none, none, none, none, none, some (2, 412, 1)], [none, none, none, none, none, none, none, none, none, none, none, none, none, none, none, none, none, none, none, none, none, none, none, none, none, none, none, none, none, none, none, some (2, 398, 0)], [none, none, none, none, none, none, some (2, 406, 0), none, none, some (2, 423, 1), none, none, none, some (2, 418, 4), none, none, none, none, none, some (2, 424, 2)], [none, none, none, none, none, none, none, none, none, none, none, none, none, none, none, none, none, none, some (2, 414, 0), none, none, some (2, 415, 0), none, none, some (3, 419, 1)], [none, none, none, none, none, none, none, none, none, none, none, none, none, none, none, none, none, none, none, some (3, 352, 2), none, none, none, none, none, none, some (2, 420, 2), none, none, some (2, 407, 3)], [none, some (2, 421, 2), none, none, some (2, 408, 1), none, none, some (2, 409, 1), none, none, some (2, 410, 2), none, none, some (2, 411, 0), none, none, some (2, 413, 1), none, none, some (2, 416, 3), none, none, some (2, 417, 2), none, none, some (2, 422, 0), none, none, none, none, none, some (9, 0, 0)], [none, none, none, none, none, none, none, none, none, some (8, 0, 1), none, none, none, none, none, none, some (5, 280, 1)], [], [], [], [none, none, none, none, none, none, none, some (3, 282, 0), none, none, some (2, 363, 1), none, none, none, none, none, none, none, none, none, none, none, none, none, none, none, none, none, none, none, none, some (0, 438, 2)], [none, none, none, some (2, 439, 3), none, none, some (2, 436, 1), none, none, none, none, none, some (2, 462, 1), none, none, none, none, none, none, none, none, some (2, 457, 1), none, none, none, none, none, none, none, some (2, 458, 2)], [none, none, some (2, 437, 2), none, none, some (2, 444, 1), none, none, none, some (2, 442, 0), none, none, some (2, 443, 2), none, none, some (0, 434, 1), none, none, none, some (2, 445, 1), none, none, some (0, 289, 1), none, none, some (0, 290, 1), none, none, some (2, 447, 3), none, none, some (2, 448, 2)], [none, none, some (3, 379, 1), none, none, some (2, 441, 0), none, none, some (2, 446, 0), none, none, some (3, 283, 0), none, none, some (2, 432, 2), none, none, some (3, 285, 2), none, none, some (3, 284, 0), none, none, none, none, none, none, none, none, some (3, 331, 0)], [none, none, none, some (2, 449, 1), none, none, some (0, 291, 3), none, none, none, some (2, 467, 1), none, none, some (2, 453, 1), none, none, none, none, none, none, none, none, none, none, none, some (2, 371, 0), none, none, some (2, 430, 0), none, none, some (2, 431, 1)], [none, none, some (2, 450, 1), none, none, some (2, 459, 2), none, none, some (2, 464, 2), none, none, some (2, 469, 1), none, none, some (2, 474, 1), none, none, some (2, 476, 2), none, none, some (2, 478, 1), none, none, some (2, 479, 1), none, none, some (2, 481, 1), none, none, some (2, 482, 1)], [some (2, 433, 0), none, none, none, some (2, 388, 1), none, none, some (3, 392, 2), none, none, some (2, 435, 2), none, none, some (2, 440, 0), none, none, some (3, 387, 1), none, none, some (2, 451, 1), none, none, some (2, 452, 0), none, none, none, none, none, some (2, 454, 3)], [some (2, 455, 2), none, none, some (2, 456, 1), none, none, some (3, 376, 1), none, none, some (3, 381, 2), none, none, none, none, none, some (2, 460, 1), none, none, some (2, 461, 1), none, none, none, none, some (2, 463, 0), none, none, none, none, none, none, some (2, 465, 2)], [none, some (2, 466, 4), none, none, none, some (3, 335, 2), none, none, none, none, some (2, 468, 4), none, none, none, none, none, none, none, none, none, none, none, none, none, none, none, some (3, 391, 1), none, none, some (2, 470, 2)], [none, some (2, 471, 1), none, none, some (2, 472, 1), none, none, some (2, 473, 3), none, none, some (3, 339, 1), none, none, some (2, 475, 1), none, none, none, none, none, none, none, none, some (2, 477, 0), none, none, none, none, none, none, none, some (2, 480, 2)], [none, none, none, some (2, 483, 2)], [none, none, some (3, 286, 5), none, none, none, some (3, 314, 0), none, none, none, none, none, some (3, 305, 1), none, none, none, none, none, none, none, none, some (3, 293, 0), none, none, some (3, 297, 0), none, none, none, none, none, some (2, 295, 2)], [none, some (2, 495, 2), none, none, some (3, 326, 3), none, none, none, some (3, 382, 1), none, none, none, none, none, some (3, 350, 2), none, none, some (2, 496, 2), none, none, some (2, 497, 2), none, none, some (2, 494, 2), none, none, none, none, none, some (2, 492, 1)], [some (2, 493, 1), none, none, none, none, none, some (2, 503, 3), none, none, none, none, none, none, none, none, some (2, 365, 1), none, none, none, none, none, some (0, 368, 2), none, none, some (2, 369, 1)], [none, some (2, 370, 0), none, none, none, none, none, none, none, none, some (2, 386, 1), none, none, none, none, none, some (2, 396, 2), none, none, none, some (2, 397, 3)], [none, none, none, none, none, none, none, none, some (2, 429, 3), none, none, some (2, 490, 0), none, none, some (2, 491, 0), none, none, some (2, 500, 0), none, none, some (2, 502, 1)]], some [[none, none, none, none, none, none, none, none, none, some (9, 0, 0), none, none, none, none, none, none, none, none, none, none, none, none, none, none, none, none, some (5, 281, 0)], [], [], [], [none, none, none, none, none, none, none, none, none, none, none, none, none, none, none, none, none, some (2, 294, 1), none, none, none, some (3, 295, 2), none, none, none, some (2, 293, 0)], [none, none, none, some (2, 300, 0), none, none, none, none, none, some (2, 307, 1), none, none, none, some (2, 299, 0), none, none, some (2, 296, 1), none, none, some (2, 306, 1), none, none, some (2, 297, 0), none, none, some (2, 301, 1)], [none, none, none, none, none, none, some (2, 318, 2), none, none, none, none, none, none, none, none, none, none, none, none, none, none, none, some (3, 286, 5), none, none, none, some (2, 298, 1), none, none, none, some (2, 302, 6)], [none, none, some (2, 303, 1), none, none, some (2, 304, 0), none, none, some (2, 305, 1), none, none, some (2, 308, 2), none, none, some (2, 309, 0), none, none, none, some (2, 310, 0), none, none, some (2, 314, 0), none, none, some (2, 311, 0), none, none, some (2, 312, 0), none, none, some (2, 317, 6)], [none, none, some (2, 313, 0), none, none, some (2, 329, 0), none, none, some (2, 330, 0), none, none, some (2, 315, 1), none, none, some (2, 316, 0), none, none, some (2, 328, 1), none, none, some (2, 319, 0), none, none, some (2, 320, 0), none, none, some (2, 321, 1)], [none, none, none, none, none, none, none, none, none, some (2, 322, 2), none, none, none, none, none, none, some (1, 323, 4), none, none, none, none, some (2, 327, 2), none, none, none, none, none, none, some (2, 326, 3)], [none, none, none, none, none, none, some (2, 335, 2), none, none, none, some (2, 339, 1), none, none, some (2, 338, 2), none, none, some (2, 332, 2), none, none, some (2, 333, 0), none, none, some (2, 336, 0), none, none, some (2, 340, 0), none, none, some (2, 361, 0), none, none, some (2, 325, 2)], [none, none, none, some (2, 334, 2), none, none, some (2, 337, 1), none, none, some (2, 341, 1), none, none, some (2, 342, 2), none, none, some (2, 358, 1), none, none, some (2, 359, 1)], [none, some (2, 346, 1), none, none, some (2, 343, 1), none, none, some (2, 350, 2), none, none, some (2, 360, 1), none, none, some (2, 344, 1), none, none, some (2, 345, 1), none, none, some (2, 348, 4), none, none, none, some (2, 354, 1), none, none, some (2, 356, 2), none, none, some (2, 357, 1)], [some (2, 347, 3), none, none, none, some (2, 355, 1), none, none, some (2, 349, 2), none, none, some (2, 351, 1), none, none, some (2, 352, 2), none, none, some (2, 353, 2), none, none, some (2, 362, 0), none, none, some (2, 392, 2), none, none, none, none, none, some (2, 283, 0), none, none, some (2, 284, 0)], [none, none, some (2, 285, 2), none, none, some (2, 331, 0), none, none, some (2, 376, 1), none, none, some (2, 379, 1), none, none, some (2, 382, 1)]], some [[none, none, none, some (9, 0, 0), none, none, none, none, none, none, none, none, none, none, none, none, none, none, none, none, none, none, none, none, none, none, none, some (0, 287, 3), none, none, none, some (1, 289, 1)], [none, none, none, some (1, 290, 1), none, none, some (1, 291, 3), none, none, some (0, 292, 2), none, none, none, none, none, none, none, some (2, 288, 5)]]]]
end
section
/-! the fast tables are right: decoded instructions, method by method (printed by wip/whole/gen30.py) -/
def ft_all {α : Type} (t : List (List (Option α))) (p : Nat → α → Bool) : Bool := t.zipIdx.all fun q => q.1.zipIdx.all fun w => match w.1 with
  | none => true
  | some a => p (32 * q.2 + w.2) a
theorem ft_two_ok {α : Type} {t : List (List (Option α))} {p : Nat → α → Bool} (h : ft_all t p = true) {i : Nat} {a : α} (hi : ft_two t i = some a) : p i a = true := by
  unfold ft_two at hi
  split at hi
  · rename_i r hr
    split at hi
    · rename_i o ho
      subst hi
      have h1 := List.all_eq_true.mp h (r, i / 32) (List.mem_of_getElem? (i := i / 32) (by rw [List.getElem?_zipIdx, hr]; simp))
      have h2 := List.all_eq_true.mp h1 (some a, i % 32) (List.mem_of_getElem? (i := i % 32) (by rw [List.getElem?_zipIdx, ho]; simp))
      have h3 : 32 * (i / 32) + i % 32 = i := Nat.div_add_mod i 32
      have h2 : p (32 * (i / 32) + i % 32) a = true := h2
      rw [h3] at h2
      exact h2
    · cases hi
  · cases hi
def ft_pD (b : ByteArray) (pc : Nat) (r : Instr × Nat) : Bool := decide (decode b pc = .ok r)
def ft_row {α : Type} (r : List (Option α)) (c : Nat) (p : Nat → α → Bool) : Bool := r.zipIdx.all fun w => match w.1 with
  | none => true
  | some a => p (32 * c + w.2) a
theorem ft_rows {α : Type} {t : List (List (Option α))} {p : Nat → α → Bool} {k : Nat} (hl : t.length ≤ k) (h : ∀ c, c < k → ft_row (t.getD c []) c p = true) : ft_all t p = true := by
  refine List.all_eq_true.mpr fun q hq => ?_
  obtain ⟨j, hj⟩ := List.mem_iff_getElem?.mp hq
  rw [List.getElem?_zipIdx] at hj
  obtain ⟨r, hr, e⟩ := Option.map_eq_some_iff.mp hj
  subst e
  have h1 := h j (Nat.lt_of_lt_of_le (List.getElem?_eq_some_iff.mp hr).1 hl)
  rw [List.getD_eq_getElem?_getD, hr] at h1
  have e2 : (r, 0 + j) = (r, j) := by rw [Nat.zero_add]
  rw [e2]
  exact h1
set_option maxRecDepth 100000 in
theorem ft_d0_0 : ft_row (ft_I0.getD 0 []) 0 (ft_pD code) = true := by decide +kernel
set_option maxRecDepth 100000 in
theorem ft_d0_1 : ft_row (ft_I0.getD 1 []) 1 (ft_pD code) = true := by decide +kernel
set_option maxRecDepth 100000 in
theorem ft_d0_2 : ft_row (ft_I0.getD 2 []) 2 (ft_pD code) = true := by decide +kernel
set_option maxRecDepth 100000 in
theorem ft_d0_3 : ft_row (ft_I0.getD 3 []) 3 (ft_pD code) = true := by decide +kernel
set_option maxRecDepth 100000 in
theorem ft_d0_4 : ft_row (ft_I0.getD 4 []) 4 (ft_pD code) = true := by decide +kernel
set_option maxRecDepth 100000 in
theorem ft_d0_5 : ft_row (ft_I0.getD 5 []) 5 (ft_pD code) = true := by decide +kernel
set_option maxRecDepth 100000 in
theorem ft_d0_6 : ft_row (ft_I0.getD 6 []) 6 (ft_pD code) = true := by decide +kernel
set_option maxRecDepth 100000 in
theorem ft_d0_7 : ft_row (ft_I0.getD 7 []) 7 (ft_pD code) = true := by decide +kernel
set_option maxRecDepth 100000 in
theorem ft_d0_8 : ft_row (ft_I0.getD 8 []) 8 (ft_pD code) = true := by decide +kernel
set_option maxRecDepth 100000 in
theorem ft_d0_9 : ft_row (ft_I0.getD 9 []) 9 (ft_pD code) = true := by decide +kernel
set_option maxRecDepth 100000 in
theorem ft_d0_10 : ft_row (ft_I0.getD 10 []) 10 (ft_pD code) = true := by decide +kernel
set_option maxRecDepth 100000 in
theorem ft_d0_11 : ft_row (ft_I0.getD 11 []) 11 (ft_pD code) = true := by decide +kernel
set_option maxRecDepth 100000 in
theorem ft_d0_12 : ft_row (ft_I0.getD 12 []) 12 (ft_pD code) = true := by decide +kernel
set_option maxRecDepth 100000 in
theorem ft_d0_13 : ft_row (ft_I0.getD 13 []) 13 (ft_pD code) = true := by decide +kernel
set_option maxRecDepth 100000 in
theorem ft_d0_14 : ft_row (ft_I0.getD 14 []) 14 (ft_pD code) = true := by decide +kernel
set_option maxRecDepth 100000 in
theorem ft_d0_15 : ft_row (ft_I0.getD 15 []) 15 (ft_pD code) = true := by decide +kernel
set_option maxRecDepth 100000 in
theorem ft_d0_16 : ft_row (ft_I0.getD 16 []) 16 (ft_pD code) = true := by decide +kernel
set_option maxRecDepth 100000 in
theorem ft_d0_17 : ft_row (ft_I0.getD 17 []) 17 (ft_pD code) = true := by decide +kernel
set_option maxRecDepth 100000 in
theorem ft_d0_18 : ft_row (ft_I0.getD 18 []) 18 (ft_pD code) = true := by decide +kernel
set_option maxRecDepth 100000 in
theorem ft_d0_19 : ft_row (ft_I0.getD 19 []) 19 (ft_pD code) = true := by decide +kernel
set_option maxRecDepth 100000 in
theorem ft_d0_20 : ft_row (ft_I0.getD 20 []) 20 (ft_pD code) = true := by decide +kernel
set_option maxRecDepth 100000 in
theorem ft_d0_21 : ft_row (ft_I0.getD 21 []) 21 (ft_pD code) = true := by decide +kernel
set_option maxRecDepth 100000 in
theorem ft_d0_22 : ft_row (ft_I0.getD 22 []) 22 (ft_pD code) = true := by decide +kernel
set_option maxRecDepth 100000 in
theorem ft_d0_23 : ft_row (ft_I0.getD 23 []) 23 (ft_pD code) = true := by decide +kernel
set_option maxRecDepth 100000 in
theorem ft_d0_24 : ft_row (ft_I0.getD 24 []) 24 (ft_pD code) = true := by decide +kernel
set_option maxRecDepth 100000 in
theorem ft_d0_25 : ft_row (ft_I0.getD 25 []) 25 (ft_pD code) = true := by decide +kernel
set_option maxRecDepth 100000 in
theorem ft_d0_26 : ft_row (ft_I0.getD 26 []) 26 (ft_pD code) = true := by decide +kernel
set_option maxRecDepth 100000 in
theorem ft_d0_27 : ft_row (ft_I0.getD 27 []) 27 (ft_pD code) = true := by decide +kernel
set_option maxRecDepth 100000 in
theorem ft_d0_28 : ft_row (ft_I0.getD 28 []) 28 (ft_pD code) = true := by decide +kernel
set_option maxRecDepth 100000 in
theorem ft_d0_29 : ft_row (ft_I0.getD 29 []) 29 (ft_pD code) = true := by decide +kernel
set_option maxRecDepth 100000 in
theorem ft_d0_30 : ft_row (ft_I0.getD 30 []) 30 (ft_pD code) = true := by decide +kernel
theorem ft_d0 : ft_all ft_I0 (ft_pD code) = true := ft_rows (k := 31) (by decide +kernel) fun c hc => match c, hc with
  | 0, _ => ft_d0_0
  | 1, _ => ft_d0_1
  | 2, _ => ft_d0_2
  | 3, _ => ft_d0_3
  | 4, _ => ft_d0_4
  | 5, _ => ft_d0_5
  | 6, _ => ft_d0_6
  | 7, _ => ft_d0_7
  | 8, _ => ft_d0_8
  | 9, _ => ft_d0_9
  | 10, _ => ft_d0_10
  | 11, _ => ft_d0_11
  | 12, _ => ft_d0_12
  | 13, _ => ft_d0_13
  | 14, _ => ft_d0_14
  | 15, _ => ft_d0_15
  | 16, _ => ft_d0_16
  | 17, _ => ft_d0_17
  | 18, _ => ft_d0_18
  | 19, _ => ft_d0_19
  | 20, _ => ft_d0_20
  | 21, _ => ft_d0_21
  | 22, _ => ft_d0_22
  | 23, _ => ft_d0_23
  | 24, _ => ft_d0_24
  | 25, _ => ft_d0_25
  | 26, _ => ft_d0_26
  | 27, _ => ft_d0_27
  | 28, _ => ft_d0_28
  | 29, _ => ft_d0_29
  | 30, _ => ft_d0_30
  | n + 31, h => absurd h (by omega)
set_option maxRecDepth 100000 in
theorem ft_d1 : ft_all ft_I1 (ft_pD prog_1_method_1_code) = true := by decide +kernel
set_option maxRecDepth 100000 in
theorem ft_d2 : ft_all ft_I2 (ft_pD prog_11_method_1_code) = true := by decide +kernel
set_option maxRecDepth 100000 in
theorem ft_d3 : ft_all ft_I3 (ft_pD prog_8_method_1_code) = true := by decide +kernel
set_option maxRecDepth 100000 in
theorem ft_d4 : ft_all ft_I4 (ft_pD prog_9_method_1_code) = true := by decide +kernel
set_option maxRecDepth 100000 in
theorem ft_d5 : ft_all ft_I5 (ft_pD prog_4_method_1_code) = true := by decide +kernel
set_option maxRecDepth 100000 in
theorem ft_d6 : ft_all ft_I6 (ft_pD prog_2_method_1_code) = true := by decide +kernel
set_option maxRecDepth 100000 in
theorem ft_d7 : ft_all ft_I7 (ft_pD prog_6_method_1_code) = true := by decide +kernel
set_option maxRecDepth 100000 in
theorem ft_d8 : ft_all ft_I8 (ft_pD prog_10_method_1_code) = true := by decide +kernel
set_option maxRecDepth 100000 in
theorem ft_d9 : ft_all ft_I9 (ft_pD prog_7_method_1_code) = true := by decide +kernel
set_option maxRecDepth 100000 in
theorem ft_d10 : ft_all ft_I10 (ft_pD prog_1_method_2_code) = true := by decide +kernel
set_option maxRecDepth 100000 in
theorem ft_d11 : ft_all ft_I11 (ft_pD prog_1_method_3_code) = true := by decide +kernel
set_option maxRecDepth 100000 in
theorem ft_d12 : ft_all ft_I12 (ft_pD prog_1_method_4_code) = true := by decide +kernel
set_option maxRecDepth 100000 in
theorem ft_d13 : ft_all ft_I13 (ft_pD prog_1_method_5_code) = true := by decide +kernel
set_option maxRecDepth 100000 in
theorem ft_d14 : ft_all ft_I14 (ft_pD prog_10_method_3_code) = true := by decide +kernel
set_option maxRecDepth 100000 in
theorem ft_d15 : ft_all ft_I15 (ft_pD prog_10_method_9_code) = true := by decide +kernel
set_option maxRecDepth 100000 in
theorem ft_d16 : ft_all ft_I16 (ft_pD prog_11_method_3_code) = true := by decide +kernel
set_option maxRecDepth 100000 in
theorem ft_d17 : ft_all ft_I17 (ft_pD prog_11_method_2_code) = true := by decide +kernel
set_option maxRecDepth 100000 in
theorem ft_d18 : ft_all ft_I18 (ft_pD prog_10_method_2_code) = true := by decide +kernel
set_option maxRecDepth 100000 in
theorem ft_d19 : ft_all ft_I19 (ft_pD prog_26_method_103_code) = true := by decide +kernel
set_option maxRecDepth 100000 in
theorem ft_d20 : ft_all ft_I20 (ft_pD prog_11_method_5_code) = true := by decide +kernel
set_option maxRecDepth 100000 in
theorem ft_d21 : ft_all ft_I21 (ft_pD prog_11_method_6_code) = true := by decide +kernel
set_option maxRecDepth 100000 in
theorem ft_d22 : ft_all ft_I22 (ft_pD prog_19_method_69_code) = true := by decide +kernel
set_option maxRecDepth 100000 in
theorem ft_d23 : ft_all ft_I23 (ft_pD prog_11_method_7_code) = true := by decide +kernel
set_option maxRecDepth 100000 in
theorem ft_d34 : ft_all ft_I34 (ft_pD prog_11_method_12_code) = true := by decide +kernel
set_option maxRecDepth 100000 in
theorem ft_d36 : ft_all ft_I36 (ft_pD prog_11_method_14_code) = true := by decide +kernel
set_option maxRecDepth 100000 in
theorem ft_d37 : ft_all ft_I37 (ft_pD prog_11_method_13_code) = true := by decide +kernel
set_option maxRecDepth 100000 in
theorem ft_d52 : ft_all ft_I52 (ft_pD prog_11_method_28_code) = true := by decide +kernel
set_option maxRecDepth 100000 in
theorem ft_d53 : ft_all ft_I53 (ft_pD prog_11_method_31_code) = true := by decide +kernel
set_option maxRecDepth 100000 in
theorem ft_d54 : ft_all ft_I54 (ft_pD prog_11_method_32_code) = true := by decide +kernel
set_option maxRecDepth 100000 in
theorem ft_d55 : ft_all ft_I55 (ft_pD prog_11_method_33_code) = true := by decide +kernel
set_option maxRecDepth 100000 in
theorem ft_d61 : ft_all ft_I61 (ft_pD prog_11_method_27_code) = true := by decide +kernel
set_option maxRecDepth 100000 in
theorem ft_d62 : ft_all ft_I62 (ft_pD prog_11_method_29_code) = true := by decide +kernel
set_option maxRecDepth 100000 in
theorem ft_d65 : ft_all ft_I65 (ft_pD prog_1_method_6_code) = true := by decide +kernel
set_option maxRecDepth 100000 in
theorem ft_d66 : ft_all ft_I66 (ft_pD prog_6_method_2_code) = true := by decide +kernel
set_option maxRecDepth 100000 in
theorem ft_d67 : ft_all ft_I67 (ft_pD prog_7_method_2_code) = true := by decide +kernel
set_option maxRecDepth 100000 in
theorem ft_d68 : ft_all ft_I68 (ft_pD prog_10_method_8_code) = true := by decide +kernel
set_option maxRecDepth 100000 in
theorem ft_d69 : ft_all ft_I69 (ft_pD prog_1_method_7_code) = true := by decide +kernel
set_option maxRecDepth 100000 in
theorem ft_d70 : ft_all ft_I70 (ft_pD prog_1_method_8_code) = true := by decide +kernel
set_option maxRecDepth 100000 in
theorem ft_d71 : ft_all ft_I71 (ft_pD prog_1_method_9_code) = true := by decide +kernel
set_option maxRecDepth 100000 in
theorem ft_d72 : ft_all ft_I72 (ft_pD prog_1_method_10_code) = true := by decide +kernel
set_option maxRecDepth 100000 in
theorem ft_d73 : ft_all ft_I73 (ft_pD prog_10_method_7_code) = true := by decide +kernel
set_option maxRecDepth 100000 in
theorem ft_d75 : ft_all ft_I75 (ft_pD prog_1_method_12_code) = true := by decide +kernel
set_option maxRecDepth 100000 in
theorem ft_d76 : ft_all ft_I76 (ft_pD prog_1_method_13_code) = true := by decide +kernel
set_option maxRecDepth 100000 in
theorem ft_d77 : ft_all ft_I77 (ft_pD prog_8_method_2_code) = true := by decide +kernel
set_option maxRecDepth 100000 in
theorem ft_d78 : ft_all ft_I78 (ft_pD prog_8_method_6_code) = true := by decide +kernel
set_option maxRecDepth 100000 in
theorem ft_d82 : ft_all ft_I82 (ft_pD prog_8_method_7_code) = true := by decide +kernel
set_option maxRecDepth 100000 in
theorem ft_d84 : ft_all ft_I84 (ft_pD prog_8_method_9_code) = true := by decide +kernel
set_option maxRecDepth 100000 in
theorem ft_d110 : ft_all ft_I110 (ft_pD prog_8_method_28_code) = true := by decide +kernel
set_option maxRecDepth 100000 in
theorem ft_d116 : ft_all ft_I116 (ft_pD prog_8_method_34_code) = true := by decide +kernel
set_option maxRecDepth 100000 in
theorem ft_d117 : ft_all ft_I117 (ft_pD prog_8_method_35_code) = true := by decide +kernel
set_option maxRecDepth 100000 in
theorem ft_d121 : ft_all ft_I121 (ft_pD prog_1_method_14_code) = true := by decide +kernel
set_option maxRecDepth 100000 in
theorem ft_d122 : ft_all ft_I122 (ft_pD prog_10_method_12_code) = true := by decide +kernel
set_option maxRecDepth 100000 in
theorem ft_d123 : ft_all ft_I123 (ft_pD prog_1_method_15_code) = true := by decide +kernel
set_option maxRecDepth 100000 in
theorem ft_d124 : ft_all ft_I124 (ft_pD prog_10_method_25_code) = true := by decide +kernel
set_option maxRecDepth 100000 in
theorem ft_d125 : ft_all ft_I125 (ft_pD prog_1_method_16_code) = true := by decide +kernel
set_option maxRecDepth 100000 in
theorem ft_d126 : ft_all ft_I126 (ft_pD prog_10_method_14_code) = true := by decide +kernel
set_option maxRecDepth 100000 in
theorem ft_d127 : ft_all ft_I127 (ft_pD prog_1_method_17_code) = true := by decide +kernel
set_option maxRecDepth 100000 in
theorem ft_d128 : ft_all ft_I128 (ft_pD prog_10_method_15_code) = true := by decide +kernel
set_option maxRecDepth 100000 in
theorem ft_d129 : ft_all ft_I129 (ft_pD prog_1_method_18_code) = true := by decide +kernel
set_option maxRecDepth 100000 in
theorem ft_d130 : ft_all ft_I130 (ft_pD prog_10_method_13_code) = true := by decide +kernel
set_option maxRecDepth 100000 in
theorem ft_d133 : ft_all ft_I133 (ft_pD prog_1_method_19_code) = true := by decide +kernel
set_option maxRecDepth 100000 in
theorem ft_d135 : ft_all ft_I135 (ft_pD prog_1_method_20_code) = true := by decide +kernel
set_option maxRecDepth 100000 in
theorem ft_d137 : ft_all ft_I137 (ft_pD prog_1_method_21_code) = true := by decide +kernel
set_option maxRecDepth 100000 in
theorem ft_d138 : ft_all ft_I138 (ft_pD prog_1_method_22_code) = true := by decide +kernel
set_option maxRecDepth 100000 in
theorem ft_d139 : ft_all ft_I139 (ft_pD prog_1_method_23_code) = true := by decide +kernel
set_option maxRecDepth 100000 in
theorem ft_d140 : ft_all ft_I140 (ft_pD prog_1_method_24_code) = true := by decide +kernel
set_option maxRecDepth 100000 in
theorem ft_d142 : ft_all ft_I142 (ft_pD prog_9_method_2_code) = true := by decide +kernel
set_option maxRecDepth 100000 in
theorem ft_d143 : ft_all ft_I143 (ft_pD prog_9_method_3_code) = true := by decide +kernel
set_option maxRecDepth 100000 in
theorem ft_d147 : ft_all ft_I147 (ft_pD prog_9_method_20_code) = true := by decide +kernel
set_option maxRecDepth 100000 in
theorem ft_d148 : ft_all ft_I148 (ft_pD prog_9_method_22_code) = true := by decide +kernel
set_option maxRecDepth 100000 in
theorem ft_d151 : ft_all ft_I151 (ft_pD prog_9_method_9_code) = true := by decide +kernel
set_option maxRecDepth 100000 in
theorem ft_d174 : ft_all ft_I174 (ft_pD prog_1_method_25_code) = true := by decide +kernel
set_option maxRecDepth 100000 in
theorem ft_d175 : ft_all ft_I175 (ft_pD prog_1_method_26_code) = true := by decide +kernel
set_option maxRecDepth 100000 in
theorem ft_d176 : ft_all ft_I176 (ft_pD prog_1_method_27_code) = true := by decide +kernel
set_option maxRecDepth 100000 in
theorem ft_d178 : ft_all ft_I178 (ft_pD prog_1_method_29_code) = true := by decide +kernel
set_option maxRecDepth 100000 in
theorem ft_d179 : ft_all ft_I179 (ft_pD prog_2_method_2_code) = true := by decide +kernel
set_option maxRecDepth 100000 in
theorem ft_d180 : ft_all ft_I180 (ft_pD prog_4_method_2_code) = true := by decide +kernel
set_option maxRecDepth 100000 in
theorem ft_d181 : ft_all ft_I181 (ft_pD prog_2_method_3_code) = true := by decide +kernel
set_option maxRecDepth 100000 in
theorem ft_d182 : ft_all ft_I182 (ft_pD prog_2_method_4_code) = true := by decide +kernel
set_option maxRecDepth 100000 in
theorem ft_d183 : ft_all ft_I183 (ft_pD prog_2_method_8_code) = true := by decide +kernel
set_option maxRecDepth 100000 in
theorem ft_d184 : ft_all ft_I184 (ft_pD prog_2_method_7_code) = true := by decide +kernel
set_option maxRecDepth 100000 in
theorem ft_d247 : ft_all ft_I247 (ft_pD prog_1_method_30_code) = true := by decide +kernel
set_option maxRecDepth 100000 in
theorem ft_d248 : ft_all ft_I248 (ft_pD prog_1_method_31_code) = true := by decide +kernel
set_option maxRecDepth 100000 in
theorem ft_d250 : ft_all ft_I250 (ft_pD prog_1_method_32_code) = true := by decide +kernel
set_option maxRecDepth 100000 in
theorem ft_d253 : ft_all ft_I253 (ft_pD prog_1_method_33_code) = true := by decide +kernel
set_option maxRecDepth 100000 in
theorem ft_d256 : ft_all ft_I256 (ft_pD prog_1_method_34_code) = true := by decide +kernel
set_option maxRecDepth 100000 in
theorem ft_d257 : ft_all ft_I257 (ft_pD prog_1_method_36_code) = true := by decide +kernel
set_option maxRecDepth 100000 in
theorem ft_d258 : ft_all ft_I258 (ft_pD prog_6_method_3_code) = true := by decide +kernel
set_option maxRecDepth 100000 in
theorem ft_d259 : ft_all ft_I259 (ft_pD prog_11_method_4_code) = true := by decide +kernel
set_option maxRecDepth 100000 in
theorem ft_d269 : ft_all ft_I269 (ft_pD prog_1_method_37_code) = true := by decide +kernel
set_option maxRecDepth 100000 in
theorem ft_d270 : ft_all ft_I270 (ft_pD prog_6_method_7_code) = true := by decide +kernel
set_option maxRecDepth 100000 in
theorem ft_d271 : ft_all ft_I271 (ft_pD prog_1_method_38_code) = true := by decide +kernel
set_option maxRecDepth 100000 in
theorem ft_d274 : ft_all ft_I274 (ft_pD prog_1_method_39_code) = true := by decide +kernel
set_option maxRecDepth 100000 in
theorem ft_d275 : ft_all ft_I275 (ft_pD prog_6_method_16_code) = true := by decide +kernel
set_option maxRecDepth 100000 in
theorem ft_d278 : ft_all ft_I278 (ft_pD prog_1_method_40_code) = true := by decide +kernel
set_option maxRecDepth 100000 in
theorem ft_d279 : ft_all ft_I279 (ft_pD prog_14_method_34_code) = true := by decide +kernel
set_option maxRecDepth 100000 in
theorem ft_d280 : ft_all ft_I280 (ft_pD prog_15_method_1_code) = true := by decide +kernel
set_option maxRecDepth 100000 in
theorem ft_d281 : ft_all ft_I281 (ft_pD prog_16_method_1_code) = true := by decide +kernel
set_option maxRecDepth 100000 in
theorem ft_d282 : ft_all ft_I282 (ft_pD prog_15_method_73_code) = true := by decide +kernel
set_option maxRecDepth 100000 in
theorem ft_d283 : ft_all ft_I283 (ft_pD prog_15_method_72_code) = true := by decide +kernel
set_option maxRecDepth 100000 in
theorem ft_d284 : ft_all ft_I284 (ft_pD prog_15_method_74_code) = true := by decide +kernel
set_option maxRecDepth 100000 in
theorem ft_d285 : ft_all ft_I285 (ft_pD prog_15_method_19_code) = true := by decide +kernel
set_option maxRecDepth 100000 in
theorem ft_d286 : ft_all ft_I286 (ft_pD prog_16_method_5_code) = true := by decide +kernel
set_option maxRecDepth 100000 in
theorem ft_d293 : ft_all ft_I293 (ft_pD prog_15_method_3_code) = true := by decide +kernel
set_option maxRecDepth 100000 in
theorem ft_d294 : ft_all ft_I294 (ft_pD prog_15_method_2_code) = true := by decide +kernel
set_option maxRecDepth 100000 in
theorem ft_d295 : ft_all ft_I295 (ft_pD prog_14_method_4_code) = true := by decide +kernel
set_option maxRecDepth 100000 in
theorem ft_d297 : ft_all ft_I297 (ft_pD prog_15_method_4_code) = true := by decide +kernel
set_option maxRecDepth 100000 in
theorem ft_d307 : ft_all ft_I307 (ft_pD prog_15_method_7_code) = true := by decide +kernel
set_option maxRecDepth 100000 in
theorem ft_d314 : ft_all ft_I314 (ft_pD prog_15_method_28_code) = true := by decide +kernel
set_option maxRecDepth 100000 in
theorem ft_d315 : ft_all ft_I315 (ft_pD prog_15_method_29_code) = true := by decide +kernel
set_option maxRecDepth 100000 in
theorem ft_d316 : ft_all ft_I316 (ft_pD prog_15_method_30_code) = true := by decide +kernel
set_option maxRecDepth 100000 in
theorem ft_d319 : ft_all ft_I319 (ft_pD prog_15_method_32_code) = true := by decide +kernel
set_option maxRecDepth 100000 in
theorem ft_d331 : ft_all ft_I331 (ft_pD prog_15_method_46_code) = true := by decide +kernel
set_option maxRecDepth 100000 in
theorem ft_d333 : ft_all ft_I333 (ft_pD prog_15_method_47_code) = true := by decide +kernel
set_option maxRecDepth 100000 in
theorem ft_d336 : ft_all ft_I336 (ft_pD prog_15_method_48_code) = true := by decide +kernel
set_option maxRecDepth 100000 in
theorem ft_d340 : ft_all ft_I340 (ft_pD prog_15_method_49_code) = true := by decide +kernel
set_option maxRecDepth 100000 in
theorem ft_d361 : ft_all ft_I361 (ft_pD prog_15_method_69_code) = true := by decide +kernel
set_option maxRecDepth 100000 in
theorem ft_d362 : ft_all ft_I362 (ft_pD prog_15_method_68_code) = true := by decide +kernel
set_option maxRecDepth 100000 in
theorem ft_d363 : ft_all ft_I363 (ft_pD prog_14_method_35_code) = true := by decide +kernel
set_option maxRecDepth 100000 in
theorem ft_d364 : ft_all ft_I364 (ft_pD prog_14_method_105_code) = true := by decide +kernel
set_option maxRecDepth 100000 in
theorem ft_d365 : ft_all ft_I365 (ft_pD prog_14_method_106_code) = true := by decide +kernel
set_option maxRecDepth 100000 in
theorem ft_d366 : ft_all ft_I366 (ft_pD prog_14_method_107_code) = true := by decide +kernel
set_option maxRecDepth 100000 in
theorem ft_d367 : ft_all ft_I367 (ft_pD prog_14_method_111_code) = true := by decide +kernel
set_option maxRecDepth 100000 in
theorem ft_d368 : ft_all ft_I368 (ft_pD prog_14_method_108_code) = true := by decide +kernel
set_option maxRecDepth 100000 in
theorem ft_d369 : ft_all ft_I369 (ft_pD prog_14_method_110_code) = true := by decide +kernel
set_option maxRecDepth 100000 in
theorem ft_d370 : ft_all ft_I370 (ft_pD prog_14_method_109_code) = true := by decide +kernel
set_option maxRecDepth 100000 in
theorem ft_d371 : ft_all ft_I371 (ft_pD prog_14_method_38_code) = true := by decide +kernel
set_option maxRecDepth 100000 in
theorem ft_d372 : ft_all ft_I372 (ft_pD prog_14_method_112_code) = true := by decide +kernel
set_option maxRecDepth 100000 in
theorem ft_d373 : ft_all ft_I373 (ft_pD prog_14_method_113_code) = true := by decide +kernel
set_option maxRecDepth 100000 in
theorem ft_d374 : ft_all ft_I374 (ft_pD prog_14_method_114_code) = true := by decide +kernel
set_option maxRecDepth 100000 in
theorem ft_d375 : ft_all ft_I375 (ft_pD prog_14_method_115_code) = true := by decide +kernel
set_option maxRecDepth 100000 in
theorem ft_d376 : ft_all ft_I376 (ft_pD prog_15_method_75_code) = true := by decide +kernel
set_option maxRecDepth 100000 in
theorem ft_d377 : ft_all ft_I377 (ft_pD prog_14_method_116_code) = true := by decide +kernel
set_option maxRecDepth 100000 in
theorem ft_d378 : ft_all ft_I378 (ft_pD prog_14_method_117_code) = true := by decide +kernel
set_option maxRecDepth 100000 in
theorem ft_d379 : ft_all ft_I379 (ft_pD prog_15_method_76_code) = true := by decide +kernel
set_option maxRecDepth 100000 in
theorem ft_d380 : ft_all ft_I380 (ft_pD prog_14_method_118_code) = true := by decide +kernel
set_option maxRecDepth 100000 in
theorem ft_d381 : ft_all ft_I381 (ft_pD prog_15_method_78_code) = true := by decide +kernel
set_option maxRecDepth 100000 in
theorem ft_d383 : ft_all ft_I383 (ft_pD prog_14_method_119_code) = true := by decide +kernel
set_option maxRecDepth 100000 in
theorem ft_d384 : ft_all ft_I384 (ft_pD prog_14_method_120_code) = true := by decide +kernel
set_option maxRecDepth 100000 in
theorem ft_d385 : ft_all ft_I385 (ft_pD prog_14_method_122_code) = true := by decide +kernel
set_option maxRecDepth 100000 in
theorem ft_d386 : ft_all ft_I386 (ft_pD prog_14_method_121_code) = true := by decide +kernel
set_option maxRecDepth 100000 in
theorem ft_d387 : ft_all ft_I387 (ft_pD prog_15_method_77_code) = true := by decide +kernel
set_option maxRecDepth 100000 in
theorem ft_d389 : ft_all ft_I389 (ft_pD prog_14_method_123_code) = true := by decide +kernel
set_option maxRecDepth 100000 in
theorem ft_d390 : ft_all ft_I390 (ft_pD prog_14_method_124_code) = true := by decide +kernel
set_option maxRecDepth 100000 in
theorem ft_d393 : ft_all ft_I393 (ft_pD prog_14_method_125_code) = true := by decide +kernel
set_option maxRecDepth 100000 in
theorem ft_d394 : ft_all ft_I394 (ft_pD prog_14_method_126_code) = true := by decide +kernel
set_option maxRecDepth 100000 in
theorem ft_d395 : ft_all ft_I395 (ft_pD prog_14_method_127_code) = true := by decide +kernel
set_option maxRecDepth 100000 in
theorem ft_d397 : ft_all ft_I397 (ft_pD prog_14_method_17_code) = true := by decide +kernel
set_option maxRecDepth 100000 in
theorem ft_d398 : ft_all ft_I398 (ft_pD prog_14_method_14_code) = true := by decide +kernel
set_option maxRecDepth 100000 in
theorem ft_d399 : ft_all ft_I399 (ft_pD prog_14_method_8_code) = true := by decide +kernel
set_option maxRecDepth 100000 in
theorem ft_d400 : ft_all ft_I400 (ft_pD prog_14_method_7_code) = true := by decide +kernel
set_option maxRecDepth 100000 in
theorem ft_d406 : ft_all ft_I406 (ft_pD prog_14_method_30_code) = true := by decide +kernel
set_option maxRecDepth 100000 in
theorem ft_d412 : ft_all ft_I412 (ft_pD prog_14_method_15_code) = true := by decide +kernel
set_option maxRecDepth 100000 in
theorem ft_d423 : ft_all ft_I423 (ft_pD prog_14_method_18_code) = true := by decide +kernel
set_option maxRecDepth 100000 in
theorem ft_d425 : ft_all ft_I425 (ft_pD prog_14_method_128_code) = true := by decide +kernel
set_option maxRecDepth 100000 in
theorem ft_d426 : ft_all ft_I426 (ft_pD prog_14_method_129_code) = true := by decide +kernel
set_option maxRecDepth 100000 in
theorem ft_d427 : ft_all ft_I427 (ft_pD prog_14_method_130_code) = true := by decide +kernel
set_option maxRecDepth 100000 in
theorem ft_d428 : ft_all ft_I428 (ft_pD prog_14_method_131_code) = true := by decide +kernel
set_option maxRecDepth 100000 in
theorem ft_d429 : ft_all ft_I429 (ft_pD prog_14_method_74_code) = true := by decide +kernel
set_option maxRecDepth 100000 in
theorem ft_d430 : ft_all ft_I430 (ft_pD prog_14_method_65_code) = true := by decide +kernel
set_option maxRecDepth 100000 in
theorem ft_d431 : ft_all ft_I431 (ft_pD prog_14_method_75_code) = true := by decide +kernel
set_option maxRecDepth 100000 in
theorem ft_d432 : ft_all ft_I432 (ft_pD prog_14_method_59_code) = true := by decide +kernel
set_option maxRecDepth 100000 in
theorem ft_d450 : ft_all ft_I450 (ft_pD prog_14_method_76_code) = true := by decide +kernel
set_option maxRecDepth 100000 in
theorem ft_d459 : ft_all ft_I459 (ft_pD prog_14_method_78_code) = true := by decide +kernel
set_option maxRecDepth 100000 in
theorem ft_d464_0 : ft_row (ft_I464.getD 0 []) 0 (ft_pD prog_14_method_79_code) = true := by decide +kernel
set_option maxRecDepth 100000 in
theorem ft_d464_1 : ft_row (ft_I464.getD 1 []) 1 (ft_pD prog_14_method_79_code) = true := by decide +kernel
set_option maxRecDepth 100000 in
theorem ft_d464_2 : ft_row (ft_I464.getD 2 []) 2 (ft_pD prog_14_method_79_code) = true := by decide +kernel
set_option maxRecDepth 100000 in
theorem ft_d464_3 : ft_row (ft_I464.getD 3 []) 3 (ft_pD prog_14_method_79_code) = true := by decide +kernel
set_option maxRecDepth 100000 in
theorem ft_d464_4 : ft_row (ft_I464.getD 4 []) 4 (ft_pD prog_14_method_79_code) = true := by decide +kernel
set_option maxRecDepth 100000 in
theorem ft_d464_5 : ft_row (ft_I464.getD 5 []) 5 (ft_pD prog_14_method_79_code) = true := by decide +kernel
set_option maxRecDepth 100000 in
theorem ft_d464_6 : ft_row (ft_I464.getD 6 []) 6 (ft_pD prog_14_method_79_code) = true := by decide +kernel
set_option maxRecDepth 100000 in
theorem ft_d464_7 : ft_row (ft_I464.getD 7 []) 7 (ft_pD prog_14_method_79_code) = true := by decide +kernel
set_option maxRecDepth 100000 in
theorem ft_d464_8 : ft_row (ft_I464.getD 8 []) 8 (ft_pD prog_14_method_79_code) = true := by decide +kernel
set_option maxRecDepth 100000 in
theorem ft_d464_9 : ft_row (ft_I464.getD 9 []) 9 (ft_pD prog_14_method_79_code) = true := by decide +kernel
set_option maxRecDepth 100000 in
theorem ft_d464_10 : ft_row (ft_I464.getD 10 []) 10 (ft_pD prog_14_method_79_code) = true := by decide +kernel
set_option maxRecDepth 100000 in
theorem ft_d464_11 : ft_row (ft_I464.getD 11 []) 11 (ft_pD prog_14_method_79_code) = true := by decide +kernel
set_option maxRecDepth 100000 in
theorem ft_d464_12 : ft_row (ft_I464.getD 12 []) 12 (ft_pD prog_14_method_79_code) = true := by decide +kernel
set_option maxRecDepth 100000 in
theorem ft_d464_13 : ft_row (ft_I464.getD 13 []) 13 (ft_pD prog_14_method_79_code) = true := by decide +kernel
set_option maxRecDepth 100000 in
theorem ft_d464_14 : ft_row (ft_I464.getD 14 []) 14 (ft_pD prog_14_method_79_code) = true := by decide +kernel
set_option maxRecDepth 100000 in
theorem ft_d464_15 : ft_row (ft_I464.getD 15 []) 15 (ft_pD prog_14_method_79_code) = true := by decide +kernel
set_option maxRecDepth 100000 in
theorem ft_d464_16 : ft_row (ft_I464.getD 16 []) 16 (ft_pD prog_14_method_79_code) = true := by decide +kernel
set_option maxRecDepth 100000 in
theorem ft_d464_17 : ft_row (ft_I464.getD 17 []) 17 (ft_pD prog_14_method_79_code) = true := by decide +kernel
set_option maxRecDepth 100000 in
theorem ft_d464_18 : ft_row (ft_I464.getD 18 []) 18 (ft_pD prog_14_method_79_code) = true := by decide +kernel
set_option maxRecDepth 100000 in
theorem ft_d464_19 : ft_row (ft_I464.getD 19 []) 19 (ft_pD prog_14_method_79_code) = true := by decide +kernel
set_option maxRecDepth 100000 in
theorem ft_d464_20 : ft_row (ft_I464.getD 20 []) 20 (ft_pD prog_14_method_79_code) = true := by decide +kernel
set_option maxRecDepth 100000 in
theorem ft_d464_21 : ft_row (ft_I464.getD 21 []) 21 (ft_pD prog_14_method_79_code) = true := by decide +kernel
set_option maxRecDepth 100000 in
theorem ft_d464_22 : ft_row (ft_I464.getD 22 []) 22 (ft_pD prog_14_method_79_code) = true := by decide +kernel
set_option maxRecDepth 100000 in
theorem ft_d464_23 : ft_row (ft_I464.getD 23 []) 23 (ft_pD prog_14_method_79_code) = true := by decide +kernel
set_option maxRecDepth 100000 in
theorem ft_d464_24 : ft_row (ft_I464.getD 24 []) 24 (ft_pD prog_14_method_79_code) = true := by decide +kernel
set_option maxRecDepth 100000 in
theorem ft_d464_25 : ft_row (ft_I464.getD 25 []) 25 (ft_pD prog_14_method_79_code) = true := by decide +kernel
set_option maxRecDepth 100000 in
theorem ft_d464_26 : ft_row (ft_I464.getD 26 []) 26 (ft_pD prog_14_method_79_code) = true := by decide +kernel
set_option maxRecDepth 100000 in
theorem ft_d464_27 : ft_row (ft_I464.getD 27 []) 27 (ft_pD prog_14_method_79_code) = true := by decide +kernel
set_option maxRecDepth 100000 in
theorem ft_d464_28 : ft_row (ft_I464.getD 28 []) 28 (ft_pD prog_14_method_79_code) = true := by decide +kernel
set_option maxRecDepth 100000 in
theorem ft_d464_29 : ft_row (ft_I464.getD 29 []) 29 (ft_pD prog_14_method_79_code) = true := by decide +kernel
theorem ft_d464 : ft_all ft_I464 (ft_pD prog_14_method_79_code) = true := ft_rows (k := 30) (by decide +kernel) fun c hc => match c, hc with
  | 0, _ => ft_d464_0
  | 1, _ => ft_d464_1
  | 2, _ => ft_d464_2
  | 3, _ => ft_d464_3
  | 4, _ => ft_d464_4
  | 5, _ => ft_d464_5
  | 6, _ => ft_d464_6
  | 7, _ => ft_d464_7
  | 8, _ => ft_d464_8
  | 9, _ => ft_d464_9
  | 10, _ => ft_d464_10
  | 11, _ => ft_d464_11
  | 12, _ => ft_d464_12
  | 13, _ => ft_d464_13
  | 14, _ => ft_d464_14
  | 15, _ => ft_d464_15
  | 16, _ => ft_d464_16
  | 17, _ => ft_d464_17
  | 18, _ => ft_d464_18
  | 19, _ => ft_d464_19
  | 20, _ => ft_d464_20
  | 21, _ => ft_d464_21
  | 22, _ => ft_d464_22
  | 23, _ => ft_d464_23
  | 24, _ => ft_d464_24
  | 25, _ => ft_d464_25
  | 26, _ => ft_d464_26
  | 27, _ => ft_d464_27
  | 28, _ => ft_d464_28
  | 29, _ => ft_d464_29
  | n + 30, h => absurd h (by omega)
set_option maxRecDepth 100000 in
theorem ft_d469 : ft_all ft_I469 (ft_pD prog_14_method_83_code) = true := by decide +kernel
set_option maxRecDepth 100000 in
theorem ft_d474 : ft_all ft_I474 (ft_pD prog_14_method_86_code) = true := by decide +kernel
set_option maxRecDepth 100000 in
theorem ft_d484 : ft_all ft_I484 (ft_pD prog_14_method_132_code) = true := by decide +kernel
set_option maxRecDepth 100000 in
theorem ft_d485 : ft_all ft_I485 (ft_pD prog_14_method_133_code) = true := by decide +kernel
set_option maxRecDepth 100000 in
theorem ft_d486 : ft_all ft_I486 (ft_pD prog_14_method_134_code) = true := by decide +kernel
set_option maxRecDepth 100000 in
theorem ft_d487 : ft_all ft_I487 (ft_pD prog_14_method_135_code) = true := by decide +kernel
set_option maxRecDepth 100000 in
theorem ft_d488 : ft_all ft_I488 (ft_pD prog_14_method_136_code) = true := by decide +kernel
set_option maxRecDepth 100000 in
theorem ft_d489 : ft_all ft_I489 (ft_pD prog_14_method_137_code) = true := by decide +kernel
set_option maxRecDepth 100000 in
theorem ft_d490 : ft_all ft_I490 (ft_pD prog_14_method_94_code) = true := by decide +kernel
set_option maxRecDepth 100000 in
theorem ft_d498 : ft_all ft_I498 (ft_pD prog_14_method_138_code) = true := by decide +kernel
set_option maxRecDepth 100000 in
theorem ft_d499 : ft_all ft_I499 (ft_pD prog_14_method_139_code) = true := by decide +kernel
set_option maxRecDepth 100000 in
theorem ft_d501 : ft_all ft_I501 (ft_pD prog_14_method_140_code) = true := by decide +kernel
set_option maxRecDepth 100000 in
theorem ft_d502 : ft_all ft_I502 (ft_pD prog_14_method_103_code) = true := by decide +kernel
set_option maxRecDepth 100000 in
theorem ft_d504 : ft_all ft_I504 (ft_pD prog_14_method_141_code) = true := by decide +kernel
end
section
/-! boxes: the law; the fast tables as tables of the machine: the same functions -/
def ab_ans : Option ab_Q → Bool
  | some (.inr (some (.inl (.int v))), _) => decide (v = 1)
  | _ => false
def ab_Ls (L : Nat) : Nat → Option Nat := fun a => bif Nat.beq a mv_big then some L else none
def ab_A0 : ab_S := (0, fun i => bif Nat.beq i 0 then some (.inl (.ref mv_big)) else none, [], (0, fun _ => .inr (.inl (0, 0, fun _ => none))), 601024, 7293034)
/-- the tables, without a script -/
def ab_G0 : mv_G := mt_G 0 (fun _ => 0)
def ft_or {α : Type} (a b : Option α) : Option α := match a with
  | some x => some x
  | none => b
theorem ft_or_eq {α : Type} {a b : Option α} (h : ∀ x, a = some x → b = some x) : ft_or a b = b := by
  cases a with
  | none => rfl
  | some x => exact (h x rfl).symm
def ft_gI (y pc : Nat) : Option (Instr × Nat) := ft_or (match ft_two ft_I y with
  | some t => ft_two t pc
  | none => none) (mv_gI ab_G0 y pc)
/-- by the class of the method -/
def ft_cls {α : Type} (T : List (List (Option (List (List (Option α)))))) (y idx : Nat) : Option α := match ft_two ft_oc y with
  | some o => match ft_two T o with
    | some t => ft_two t idx
    | none => none
  | none => none
def ft_gF (y idx : Nat) : Option (Nat × Nat) := ft_or (ft_cls ft_F y idx) (mv_gF ab_G0 y idx)
def ft_gC (y idx : Nat) : Option (Nat × Nat × Nat) := ft_or (ft_cls ft_C y idx) (mv_gC ab_G0 y idx)
def ft_gL (y : Nat) : Nat := match ft_two ft_L y with
  | some n => n
  | none => mv_gL ab_G0 y
set_option maxRecDepth 100000 in
theorem ft_oc_ok : ft_all ft_oc (fun y o => Nat.beq (mt_oc y) o) = true := by decide +kernel
set_option maxRecDepth 100000 in
theorem ft_L_ok : ft_all ft_L (fun y n => Nat.beq (mt_inf y).1 n) = true := by decide +kernel
def ft_look {α : Type} (l : List (List (Nat × α))) (o idx : Nat) : Option α := ((l.getD o []).find? (fun e => Nat.beq e.1 idx)).map (fun e => e.2)
set_option maxRecDepth 100000 in
theorem ft_F_ok : ft_all ft_F (fun o t => ft_all t (fun idx q => decide ((ft_look mt_F o idx).map (fun e => (e.1, e.2.1)) = some q))) = true := by decide +kernel
set_option maxRecDepth 100000 in
theorem ft_C_ok : ft_all ft_C (fun o t => ft_all t (fun idx q => decide ((ft_look mt_C o idx).map (fun e => (e.1, e.2.1, e.2.2.1)) = some q))) = true := by decide +kernel
theorem ft_gL_eq : ft_gL = mv_gL ab_G0 := by
  funext y
  unfold ft_gL
  split
  · rename_i n hn
    exact (Nat.eq_of_beq_eq_true (ft_two_ok ft_L_ok hn)).symm
  · rfl
theorem ft_cls_ok {α : Type} {T : List (List (Option (List (List (Option α)))))} {p : Nat → Nat → α → Bool} (h : ft_all T (fun o t => ft_all t (p o)) = true) {y idx : Nat} {a : α} (ha : ft_cls T y idx = some a) : p (mt_oc y) idx a = true := by
  unfold ft_cls at ha
  split at ha
  · rename_i o ho
    split at ha
    · rename_i t ht
      have h1 := Nat.eq_of_beq_eq_true (ft_two_ok ft_oc_ok ho)
      rw [h1]
      exact ft_two_ok (ft_two_ok h ht) ha
    · cases ha
  · cases ha
theorem ft_gF_eq : ft_gF = mv_gF ab_G0 := by
  funext y idx
  exact ft_or_eq fun x hx => of_decide_eq_true (ft_cls_ok (p := fun o idx q => decide ((ft_look mt_F o idx).map (fun e => (e.1, e.2.1)) = some q)) ft_F_ok hx)
theorem ft_gC_eq : ft_gC = mv_gC ab_G0 := by
  funext y idx
  exact ft_or_eq fun x hx => of_decide_eq_true (ft_cls_ok (p := fun o idx q => decide ((ft_look mt_C o idx).map (fun e => (e.1, e.2.1, e.2.2.1)) = some q)) ft_C_ok hx)
theorem ft_I_of {y : Nat} {b : ByteArray} {t : List (List (Option (Instr × Nat)))} (h : ft_all t (ft_pD b) = true) (hb : mt_Cd y = b) {pc : Nat} {r : Instr × Nat} (hr : ft_two t pc = some r) : mv_gI ab_G0 y pc = some r := by
  have h1 := of_decide_eq_true (ft_two_ok h hr)
  show (match decode (mt_Cd y) pc with | .ok q => some q | .error _ => none) = some r
  rw [hb, h1]
def ft_P (y : Nat) : Prop := ∀ t, ft_two ft_I y = some t → ∀ pc r, ft_two t pc = some r → mv_gI ab_G0 y pc = some r
set_option maxRecDepth 100000 in
theorem ft_c0 : mt_Cd 0 = code := rfl
theorem ft_P0 : ft_P 0 := fun t ht pc r hr => ft_I_of ft_d0 ft_c0 ((Option.some.inj ((show ft_two ft_I 0 = some ft_I0 from rfl).symm.trans ht)) ▸ hr)
set_option maxRecDepth 100000 in
theorem ft_c1 : mt_Cd 1 = prog_1_method_1_code := rfl
theorem ft_P1 : ft_P 1 := fun t ht pc r hr => ft_I_of ft_d1 ft_c1 ((Option.some.inj ((show ft_two ft_I 1 = some ft_I1 from rfl).symm.trans ht)) ▸ hr)
set_option maxRecDepth 100000 in
theorem ft_c2 : mt_Cd 2 = prog_11_method_1_code := rfl
theorem ft_P2 : ft_P 2 := fun t ht pc r hr => ft_I_of ft_d2 ft_c2 ((Option.some.inj ((show ft_two ft_I 2 = some ft_I2 from rfl).symm.trans ht)) ▸ hr)
set_option maxRecDepth 100000 in
theorem ft_c3 : mt_Cd 3 = prog_8_method_1_code := rfl
theorem ft_P3 : ft_P 3 := fun t ht pc r hr => ft_I_of ft_d3 ft_c3 ((Option.some.inj ((show ft_two ft_I 3 = some ft_I3 from rfl).symm.trans ht)) ▸ hr)
set_option maxRecDepth 100000 in
theorem ft_c4 : mt_Cd 4 = prog_9_method_1_code := rfl
theorem ft_P4 : ft_P 4 := fun t ht pc r hr => ft_I_of ft_d4 ft_c4 ((Option.some.inj ((show ft_two ft_I 4 = some ft_I4 from rfl).symm.trans ht)) ▸ hr)
set_option maxRecDepth 100000 in
theorem ft_c5 : mt_Cd 5 = prog_4_method_1_code := rfl
theorem ft_P5 : ft_P 5 := fun t ht pc r hr => ft_I_of ft_d5 ft_c5 ((Option.some.inj ((show ft_two ft_I 5 = some ft_I5 from rfl).symm.trans ht)) ▸ hr)
set_option maxRecDepth 100000 in
theorem ft_c6 : mt_Cd 6 = prog_2_method_1_code := rfl
theorem ft_P6 : ft_P 6 := fun t ht pc r hr => ft_I_of ft_d6 ft_c6 ((Option.some.inj ((show ft_two ft_I 6 = some ft_I6 from rfl).symm.trans ht)) ▸ hr)
set_option maxRecDepth 100000 in
theorem ft_c7 : mt_Cd 7 = prog_6_method_1_code := rfl
theorem ft_P7 : ft_P 7 := fun t ht pc r hr => ft_I_of ft_d7 ft_c7 ((Option.some.inj ((show ft_two ft_I 7 = some ft_I7 from rfl).symm.trans ht)) ▸ hr)
set_option maxRecDepth 100000 in
theorem ft_c8 : mt_Cd 8 = prog_10_method_1_code := rfl
theorem ft_P8 : ft_P 8 := fun t ht pc r hr => ft_I_of ft_d8 ft_c8 ((Option.some.inj ((show ft_two ft_I 8 = some ft_I8 from rfl).symm.trans ht)) ▸ hr)
set_option maxRecDepth 100000 in
theorem ft_c9 : mt_Cd 9 = prog_7_method_1_code := rfl
theorem ft_P9 : ft_P 9 := fun t ht pc r hr => ft_I_of ft_d9 ft_c9 ((Option.some.inj ((show ft_two ft_I 9 = some ft_I9 from rfl).symm.trans ht)) ▸ hr)
set_option maxRecDepth 100000 in
theorem ft_c10 : mt_Cd 10 = prog_1_method_2_code := rfl
theorem ft_P10 : ft_P 10 := fun t ht pc r hr => ft_I_of ft_d10 ft_c10 ((Option.some.inj ((show ft_two ft_I 10 = some ft_I10 from rfl).symm.trans ht)) ▸ hr)
set_option maxRecDepth 100000 in
theorem ft_c11 : mt_Cd 11 = prog_1_method_3_code := rfl
theorem ft_P11 : ft_P 11 := fun t ht pc r hr => ft_I_of ft_d11 ft_c11 ((Option.some.inj ((show ft_two ft_I 11 = some ft_I11 from rfl).symm.trans ht)) ▸ hr)
set_option maxRecDepth 100000 in
theorem ft_c12 : mt_Cd 12 = prog_1_method_4_code := rfl
theorem ft_P12 : ft_P 12 := fun t ht pc r hr => ft_I_of ft_d12 ft_c12 ((Option.some.inj ((show ft_two ft_I 12 = some ft_I12 from rfl).symm.trans ht)) ▸ hr)
set_option maxRecDepth 100000 in
theorem ft_c13 : mt_Cd 13 = prog_1_method_5_code := rfl
theorem ft_P13 : ft_P 13 := fun t ht pc r hr => ft_I_of ft_d13 ft_c13 ((Option.some.inj ((show ft_two ft_I 13 = some ft_I13 from rfl).symm.trans ht)) ▸ hr)
set_option maxRecDepth 100000 in
theorem ft_c14 : mt_Cd 14 = prog_10_method_3_code := rfl
theorem ft_P14 : ft_P 14 := fun t ht pc r hr => ft_I_of ft_d14 ft_c14 ((Option.some.inj ((show ft_two ft_I 14 = some ft_I14 from rfl).symm.trans ht)) ▸ hr)
set_option maxRecDepth 100000 in
theorem ft_c15 : mt_Cd 15 = prog_10_method_9_code := rfl
theorem ft_P15 : ft_P 15 := fun t ht pc r hr => ft_I_of ft_d15 ft_c15 ((Option.some.inj ((show ft_two ft_I 15 = some ft_I15 from rfl).symm.trans ht)) ▸ hr)
set_option maxRecDepth 100000 in
theorem ft_c16 : mt_Cd 16 = prog_11_method_3_code := rfl
theorem ft_P16 : ft_P 16 := fun t ht pc r hr => ft_I_of ft_d16 ft_c16 ((Option.some.inj ((show ft_two ft_I 16 = some ft_I16 from rfl).symm.trans ht)) ▸ hr)
set_option maxRecDepth 100000 in
theorem ft_c17 : mt_Cd 17 = prog_11_method_2_code := rfl
theorem ft_P17 : ft_P 17 := fun t ht pc r hr => ft_I_of ft_d17 ft_c17 ((Option.some.inj ((show ft_two ft_I 17 = some ft_I17 from rfl).symm.trans ht)) ▸ hr)
set_option maxRecDepth 100000 in
theorem ft_c18 : mt_Cd 18 = prog_10_method_2_code := rfl
theorem ft_P18 : ft_P 18 := fun t ht pc r hr => ft_I_of ft_d18 ft_c18 ((Option.some.inj ((show ft_two ft_I 18 = some ft_I18 from rfl).symm.trans ht)) ▸ hr)
set_option maxRecDepth 100000 in
theorem ft_c19 : mt_Cd 19 = prog_26_method_103_code := rfl
theorem ft_P19 : ft_P 19 := fun t ht pc r hr => ft_I_of ft_d19 ft_c19 ((Option.some.inj ((show ft_two ft_I 19 = some ft_I19 from rfl).symm.trans ht)) ▸ hr)
set_option maxRecDepth 100000 in
theorem ft_c20 : mt_Cd 20 = prog_11_method_5_code := rfl
theorem ft_P20 : ft_P 20 := fun t ht pc r hr => ft_I_of ft_d20 ft_c20 ((Option.some.inj ((show ft_two ft_I 20 = some ft_I20 from rfl).symm.trans ht)) ▸ hr)
set_option maxRecDepth 100000 in
theorem ft_c21 : mt_Cd 21 = prog_11_method_6_code := rfl
theorem ft_P21 : ft_P 21 := fun t ht pc r hr => ft_I_of ft_d21 ft_c21 ((Option.some.inj ((show ft_two ft_I 21 = some ft_I21 from rfl).symm.trans ht)) ▸ hr)
set_option maxRecDepth 100000 in
theorem ft_c22 : mt_Cd 22 = prog_19_method_69_code := rfl
theorem ft_P22 : ft_P 22 := fun t ht pc r hr => ft_I_of ft_d22 ft_c22 ((Option.some.inj ((show ft_two ft_I 22 = some ft_I22 from rfl).symm.trans ht)) ▸ hr)
set_option maxRecDepth 100000 in
theorem ft_c23 : mt_Cd 23 = prog_11_method_7_code := rfl
theorem ft_P23 : ft_P 23 := fun t ht pc r hr => ft_I_of ft_d23 ft_c23 ((Option.some.inj ((show ft_two ft_I 23 = some ft_I23 from rfl).symm.trans ht)) ▸ hr)
set_option maxRecDepth 100000 in
theorem ft_c34 : mt_Cd 34 = prog_11_method_12_code := rfl
theorem ft_P34 : ft_P 34 := fun t ht pc r hr => ft_I_of ft_d34 ft_c34 ((Option.some.inj ((show ft_two ft_I 34 = some ft_I34 from rfl).symm.trans ht)) ▸ hr)
set_option maxRecDepth 100000 in
theorem ft_c36 : mt_Cd 36 = prog_11_method_14_code := rfl
theorem ft_P36 : ft_P 36 := fun t ht pc r hr => ft_I_of ft_d36 ft_c36 ((Option.some.inj ((show ft_two ft_I 36 = some ft_I36 from rfl).symm.trans ht)) ▸ hr)
set_option maxRecDepth 100000 in
theorem ft_c37 : mt_Cd 37 = prog_11_method_13_code := rfl
theorem ft_P37 : ft_P 37 := fun t ht pc r hr => ft_I_of ft_d37 ft_c37 ((Option.some.inj ((show ft_two ft_I 37 = some ft_I37 from rfl).symm.trans ht)) ▸ hr)
set_option maxRecDepth 100000 in
theorem ft_c52 : mt_Cd 52 = prog_11_method_28_code := rfl
theorem ft_P52 : ft_P 52 := fun t ht pc r hr => ft_I_of ft_d52 ft_c52 ((Option.some.inj ((show ft_two ft_I 52 = some ft_I52 from rfl).symm.trans ht)) ▸ hr)
set_option maxRecDepth 100000 in
theorem ft_c53 : mt_Cd 53 = prog_11_method_31_code := rfl
theorem ft_P53 : ft_P 53 := fun t ht pc r hr => ft_I_of ft_d53 ft_c53 ((Option.some.inj ((show ft_two ft_I 53 = some ft_I53 from rfl).symm.trans ht)) ▸ hr)
set_option maxRecDepth 100000 in
theorem ft_c54 : mt_Cd 54 = prog_11_method_32_code := rfl
theorem ft_P54 : ft_P 54 := fun t ht pc r hr => ft_I_of ft_d54 ft_c54 ((Option.some.inj ((show ft_two ft_I 54 = some ft_I54 from rfl).symm.trans ht)) ▸ hr)
set_option maxRecDepth 100000 in
theorem ft_c55 : mt_Cd 55 = prog_11_method_33_code := rfl
theorem ft_P55 : ft_P 55 := fun t ht pc r hr => ft_I_of ft_d55 ft_c55 ((Option.some.inj ((show ft_two ft_I 55 = some ft_I55 from rfl).symm.trans ht)) ▸ hr)
set_option maxRecDepth 100000 in
theorem ft_c61 : mt_Cd 61 = prog_11_method_27_code := rfl
theorem ft_P61 : ft_P 61 := fun t ht pc r hr => ft_I_of ft_d61 ft_c61 ((Option.some.inj ((show ft_two ft_I 61 = some ft_I61 from rfl).symm.trans ht)) ▸ hr)
set_option maxRecDepth 100000 in
theorem ft_c62 : mt_Cd 62 = prog_11_method_29_code := rfl
theorem ft_P62 : ft_P 62 := fun t ht pc r hr => ft_I_of ft_d62 ft_c62 ((Option.some.inj ((show ft_two ft_I 62 = some ft_I62 from rfl).symm.trans ht)) ▸ hr)
set_option maxRecDepth 100000 in
theorem ft_c65 : mt_Cd 65 = prog_1_method_6_code := rfl
theorem ft_P65 : ft_P 65 := fun t ht pc r hr => ft_I_of ft_d65 ft_c65 ((Option.some.inj ((show ft_two ft_I 65 = some ft_I65 from rfl).symm.trans ht)) ▸ hr)
set_option maxRecDepth 100000 in
theorem ft_c66 : mt_Cd 66 = prog_6_method_2_code := rfl
theorem ft_P66 : ft_P 66 := fun t ht pc r hr => ft_I_of ft_d66 ft_c66 ((Option.some.inj ((show ft_two ft_I 66 = some ft_I66 from rfl).symm.trans ht)) ▸ hr)
set_option maxRecDepth 100000 in
theorem ft_c67 : mt_Cd 67 = prog_7_method_2_code := rfl
theorem ft_P67 : ft_P 67 := fun t ht pc r hr => ft_I_of ft_d67 ft_c67 ((Option.some.inj ((show ft_two ft_I 67 = some ft_I67 from rfl).symm.trans ht)) ▸ hr)
set_option maxRecDepth 100000 in
theorem ft_c68 : mt_Cd 68 = prog_10_method_8_code := rfl
theorem ft_P68 : ft_P 68 := fun t ht pc r hr => ft_I_of ft_d68 ft_c68 ((Option.some.inj ((show ft_two ft_I 68 = some ft_I68 from rfl).symm.trans ht)) ▸ hr)
set_option maxRecDepth 100000 in
theorem ft_c69 : mt_Cd 69 = prog_1_method_7_code := rfl
theorem ft_P69 : ft_P 69 := fun t ht pc r hr => ft_I_of ft_d69 ft_c69 ((Option.some.inj ((show ft_two ft_I 69 = some ft_I69 from rfl).symm.trans ht)) ▸ hr)
set_option maxRecDepth 100000 in
theorem ft_c70 : mt_Cd 70 = prog_1_method_8_code := rfl
theorem ft_P70 : ft_P 70 := fun t ht pc r hr => ft_I_of ft_d70 ft_c70 ((Option.some.inj ((show ft_two ft_I 70 = some ft_I70 from rfl).symm.trans ht)) ▸ hr)
set_option maxRecDepth 100000 in
theorem ft_c71 : mt_Cd 71 = prog_1_method_9_code := rfl
theorem ft_P71 : ft_P 71 := fun t ht pc r hr => ft_I_of ft_d71 ft_c71 ((Option.some.inj ((show ft_two ft_I 71 = some ft_I71 from rfl).symm.trans ht)) ▸ hr)
set_option maxRecDepth 100000 in
theorem ft_c72 : mt_Cd 72 = prog_1_method_10_code := rfl
theorem ft_P72 : ft_P 72 := fun t ht pc r hr => ft_I_of ft_d72 ft_c72 ((Option.some.inj ((show ft_two ft_I 72 = some ft_I72 from rfl).symm.trans ht)) ▸ hr)
set_option maxRecDepth 100000 in
theorem ft_c73 : mt_Cd 73 = prog_10_method_7_code := rfl
theorem ft_P73 : ft_P 73 := fun t ht pc r hr => ft_I_of ft_d73 ft_c73 ((Option.some.inj ((show ft_two ft_I 73 = some ft_I73 from rfl).symm.trans ht)) ▸ hr)
set_option maxRecDepth 100000 in
theorem ft_c75 : mt_Cd 75 = prog_1_method_12_code := rfl
theorem ft_P75 : ft_P 75 := fun t ht pc r hr => ft_I_of ft_d75 ft_c75 ((Option.some.inj ((show ft_two ft_I 75 = some ft_I75 from rfl).symm.trans ht)) ▸ hr)
set_option maxRecDepth 100000 in
theorem ft_c76 : mt_Cd 76 = prog_1_method_13_code := rfl
theorem ft_P76 : ft_P 76 := fun t ht pc r hr => ft_I_of ft_d76 ft_c76 ((Option.some.inj ((show ft_two ft_I 76 = some ft_I76 from rfl).symm.trans ht)) ▸ hr)
set_option maxRecDepth 100000 in
theorem ft_c77 : mt_Cd 77 = prog_8_method_2_code := rfl
theorem ft_P77 : ft_P 77 := fun t ht pc r hr => ft_I_of ft_d77 ft_c77 ((Option.some.inj ((show ft_two ft_I 77 = some ft_I77 from rfl).symm.trans ht)) ▸ hr)
set_option maxRecDepth 100000 in
theorem ft_c78 : mt_Cd 78 = prog_8_method_6_code := rfl
theorem ft_P78 : ft_P 78 := fun t ht pc r hr => ft_I_of ft_d78 ft_c78 ((Option.some.inj ((show ft_two ft_I 78 = some ft_I78 from rfl).symm.trans ht)) ▸ hr)
set_option maxRecDepth 100000 in
theorem ft_c82 : mt_Cd 82 = prog_8_method_7_code := rfl
theorem ft_P82 : ft_P 82 := fun t ht pc r hr => ft_I_of ft_d82 ft_c82 ((Option.some.inj ((show ft_two ft_I 82 = some ft_I82 from rfl).symm.trans ht)) ▸ hr)
set_option maxRecDepth 100000 in
theorem ft_c84 : mt_Cd 84 = prog_8_method_9_code := rfl
theorem ft_P84 : ft_P 84 := fun t ht pc r hr => ft_I_of ft_d84 ft_c84 ((Option.some.inj ((show ft_two ft_I 84 = some ft_I84 from rfl).symm.trans ht)) ▸ hr)
set_option maxRecDepth 100000 in
theorem ft_c110 : mt_Cd 110 = prog_8_method_28_code := rfl
theorem ft_P110 : ft_P 110 := fun t ht pc r hr => ft_I_of ft_d110 ft_c110 ((Option.some.inj ((show ft_two ft_I 110 = some ft_I110 from rfl).symm.trans ht)) ▸ hr)
set_option maxRecDepth 100000 in
theorem ft_c116 : mt_Cd 116 = prog_8_method_34_code := rfl
theorem ft_P116 : ft_P 116 := fun t ht pc r hr => ft_I_of ft_d116 ft_c116 ((Option.some.inj ((show ft_two ft_I 116 = some ft_I116 from rfl).symm.trans ht)) ▸ hr)
set_option maxRecDepth 100000 in
theorem ft_c117 : mt_Cd 117 = prog_8_method_35_code := rfl
theorem ft_P117 : ft_P 117 := fun t ht pc r hr => ft_I_of ft_d117 ft_c117 ((Option.some.inj ((show ft_two ft_I 117 = some ft_I117 from rfl).symm.trans ht)) ▸ hr)
set_option maxRecDepth 100000 in
theorem ft_c121 : mt_Cd 121 = prog_1_method_14_code := rfl
theorem ft_P121 : ft_P 121 := fun t ht pc r hr => ft_I_of ft_d121 ft_c121 ((Option.some.inj ((show ft_two ft_I 121 = some ft_I121 from rfl).symm.trans ht)) ▸ hr)
set_option maxRecDepth 100000 in
theorem ft_c122 : mt_Cd 122 = prog_10_method_12_code := rfl
theorem ft_P122 : ft_P 122 := fun t ht pc r hr => ft_I_of ft_d122 ft_c122 ((Option.some.inj ((show ft_two ft_I 122 = some ft_I122 from rfl).symm.trans ht)) ▸ hr)
set_option maxRecDepth 100000 in
theorem ft_c123 : mt_Cd 123 = prog_1_method_15_code := rfl
theorem ft_P123 : ft_P 123 := fun t ht pc r hr => ft_I_of ft_d123 ft_c123 ((Option.some.inj ((show ft_two ft_I 123 = some ft_I123 from rfl).symm.trans ht)) ▸ hr)
set_option maxRecDepth 100000 in
theorem ft_c124 : mt_Cd 124 = prog_10_method_25_code := rfl
theorem ft_P124 : ft_P 124 := fun t ht pc r hr => ft_I_of ft_d124 ft_c124 ((Option.some.inj ((show ft_two ft_I 124 = some ft_I124 from rfl).symm.trans ht)) ▸ hr)
set_option maxRecDepth 100000 in
theorem ft_c125 : mt_Cd 125 = prog_1_method_16_code := rfl
theorem ft_P125 : ft_P 125 := fun t ht pc r hr => ft_I_of ft_d125 ft_c125 ((Option.some.inj ((show ft_two ft_I 125 = some ft_I125 from rfl).symm.trans ht)) ▸ hr)
set_option maxRecDepth 100000 in
theorem ft_c126 : mt_Cd 126 = prog_10_method_14_code := rfl
theorem ft_P126 : ft_P 126 := fun t ht pc r hr => ft_I_of ft_d126 ft_c126 ((Option.some.inj ((show ft_two ft_I 126 = some ft_I126 from rfl).symm.trans ht)) ▸ hr)
set_option maxRecDepth 100000 in
theorem ft_c127 : mt_Cd 127 = prog_1_method_17_code := rfl
theorem ft_P127 : ft_P 127 := fun t ht pc r hr => ft_I_of ft_d127 ft_c127 ((Option.some.inj ((show ft_two ft_I 127 = some ft_I127 from rfl).symm.trans ht)) ▸ hr)
set_option maxRecDepth 100000 in
theorem ft_c128 : mt_Cd 128 = prog_10_method_15_code := rfl
theorem ft_P128 : ft_P 128 := fun t ht pc r hr => ft_I_of ft_d128 ft_c128 ((Option.some.inj ((show ft_two ft_I 128 = some ft_I128 from rfl).symm.trans ht)) ▸ hr)
set_option maxRecDepth 100000 in
theorem ft_c129 : mt_Cd 129 = prog_1_method_18_code := rfl
theorem ft_P129 : ft_P 129 := fun t ht pc r hr => ft_I_of ft_d129 ft_c129 ((Option.some.inj ((show ft_two ft_I 129 = some ft_I129 from rfl).symm.trans ht)) ▸ hr)
set_option maxRecDepth 100000 in
theorem ft_c130 : mt_Cd 130 = prog_10_method_13_code := rfl
theorem ft_P130 : ft_P 130 := fun t ht pc r hr => ft_I_of ft_d130 ft_c130 ((Option.some.inj ((show ft_two ft_I 130 = some ft_I130 from rfl).symm.trans ht)) ▸ hr)
set_option maxRecDepth 100000 in
theorem ft_c133 : mt_Cd 133 = prog_1_method_19_code := rfl
theorem ft_P133 : ft_P 133 := fun t ht pc r hr => ft_I_of ft_d133 ft_c133 ((Option.some.inj ((show ft_two ft_I 133 = some ft_I133 from rfl).symm.trans ht)) ▸ hr)
set_option maxRecDepth 100000 in
theorem ft_c135 : mt_Cd 135 = prog_1_method_20_code := rfl
theorem ft_P135 : ft_P 135 := fun t ht pc r hr => ft_I_of ft_d135 ft_c135 ((Option.some.inj ((show ft_two ft_I 135 = some ft_I135 from rfl).symm.trans ht)) ▸ hr)
set_option maxRecDepth 100000 in
theorem ft_c137 : mt_Cd 137 = prog_1_method_21_code := rfl
theorem ft_P137 : ft_P 137 := fun t ht pc r hr => ft_I_of ft_d137 ft_c137 ((Option.some.inj ((show ft_two ft_I 137 = some ft_I137 from rfl).symm.trans ht)) ▸ hr)
set_option maxRecDepth 100000 in
theorem ft_c138 : mt_Cd 138 = prog_1_method_22_code := rfl
theorem ft_P138 : ft_P 138 := fun t ht pc r hr => ft_I_of ft_d138 ft_c138 ((Option.some.inj ((show ft_two ft_I 138 = some ft_I138 from rfl).symm.trans ht)) ▸ hr)
set_option maxRecDepth 100000 in
theorem ft_c139 : mt_Cd 139 = prog_1_method_23_code := rfl
theorem ft_P139 : ft_P 139 := fun t ht pc r hr => ft_I_of ft_d139 ft_c139 ((Option.some.inj ((show ft_two ft_I 139 = some ft_I139 from rfl).symm.trans ht)) ▸ hr)
set_option maxRecDepth 100000 in
theorem ft_c140 : mt_Cd 140 = prog_1_method_24_code := rfl
theorem ft_P140 : ft_P 140 := fun t ht pc r hr => ft_I_of ft_d140 ft_c140 ((Option.some.inj ((show ft_two ft_I 140 = some ft_I140 from rfl).symm.trans ht)) ▸ hr)
set_option maxRecDepth 100000 in
theorem ft_c142 : mt_Cd 142 = prog_9_method_2_code := rfl
theorem ft_P142 : ft_P 142 := fun t ht pc r hr => ft_I_of ft_d142 ft_c142 ((Option.some.inj ((show ft_two ft_I 142 = some ft_I142 from rfl).symm.trans ht)) ▸ hr)
set_option maxRecDepth 100000 in
theorem ft_c143 : mt_Cd 143 = prog_9_method_3_code := rfl
theorem ft_P143 : ft_P 143 := fun t ht pc r hr => ft_I_of ft_d143 ft_c143 ((Option.some.inj ((show ft_two ft_I 143 = some ft_I143 from rfl).symm.trans ht)) ▸ hr)
set_option maxRecDepth 100000 in
theorem ft_c147 : mt_Cd 147 = prog_9_method_20_code := rfl
theorem ft_P147 : ft_P 147 := fun t ht pc r hr => ft_I_of ft_d147 ft_c147 ((Option.some.inj ((show ft_two ft_I 147 = some ft_I147 from rfl).symm.trans ht)) ▸ hr)
set_option maxRecDepth 100000 in
theorem ft_c148 : mt_Cd 148 = prog_9_method_22_code := rfl
theorem ft_P148 : ft_P 148 := fun t ht pc r hr => ft_I_of ft_d148 ft_c148 ((Option.some.inj ((show ft_two ft_I 148 = some ft_I148 from rfl).symm.trans ht)) ▸ hr)
set_option maxRecDepth 100000 in
theorem ft_c151 : mt_Cd 151 = prog_9_method_9_code := rfl
theorem ft_P151 : ft_P 151 := fun t ht pc r hr => ft_I_of ft_d151 ft_c151 ((Option.some.inj ((show ft_two ft_I 151 = some ft_I151 from rfl).symm.trans ht)) ▸ hr)
set_option maxRecDepth 100000 in
theorem ft_c174 : mt_Cd 174 = prog_1_method_25_code := rfl
theorem ft_P174 : ft_P 174 := fun t ht pc r hr => ft_I_of ft_d174 ft_c174 ((Option.some.inj ((show ft_two ft_I 174 = some ft_I174 from rfl).symm.trans ht)) ▸ hr)
set_option maxRecDepth 100000 in
theorem ft_c175 : mt_Cd 175 = prog_1_method_26_code := rfl
theorem ft_P175 : ft_P 175 := fun t ht pc r hr => ft_I_of ft_d175 ft_c175 ((Option.some.inj ((show ft_two ft_I 175 = some ft_I175 from rfl).symm.trans ht)) ▸ hr)
set_option maxRecDepth 100000 in
theorem ft_c176 : mt_Cd 176 = prog_1_method_27_code := rfl
theorem ft_P176 : ft_P 176 := fun t ht pc r hr => ft_I_of ft_d176 ft_c176 ((Option.some.inj ((show ft_two ft_I 176 = some ft_I176 from rfl).symm.trans ht)) ▸ hr)
set_option maxRecDepth 100000 in
theorem ft_c178 : mt_Cd 178 = prog_1_method_29_code := rfl
theorem ft_P178 : ft_P 178 := fun t ht pc r hr => ft_I_of ft_d178 ft_c178 ((Option.some.inj ((show ft_two ft_I 178 = some ft_I178 from rfl).symm.trans ht)) ▸ hr)
set_option maxRecDepth 100000 in
theorem ft_c179 : mt_Cd 179 = prog_2_method_2_code := rfl
theorem ft_P179 : ft_P 179 := fun t ht pc r hr => ft_I_of ft_d179 ft_c179 ((Option.some.inj ((show ft_two ft_I 179 = some ft_I179 from rfl).symm.trans ht)) ▸ hr)
set_option maxRecDepth 100000 in
theorem ft_c180 : mt_Cd 180 = prog_4_method_2_code := rfl
theorem ft_P180 : ft_P 180 := fun t ht pc r hr => ft_I_of ft_d180 ft_c180 ((Option.some.inj ((show ft_two ft_I 180 = some ft_I180 from rfl).symm.trans ht)) ▸ hr)
set_option maxRecDepth 100000 in
theorem ft_c181 : mt_Cd 181 = prog_2_method_3_code := rfl
theorem ft_P181 : ft_P 181 := fun t ht pc r hr => ft_I_of ft_d181 ft_c181 ((Option.some.inj ((show ft_two ft_I 181 = some ft_I181 from rfl).symm.trans ht)) ▸ hr)
set_option maxRecDepth 100000 in
theorem ft_c182 : mt_Cd 182 = prog_2_method_4_code := rfl
theorem ft_P182 : ft_P 182 := fun t ht pc r hr => ft_I_of ft_d182 ft_c182 ((Option.some.inj ((show ft_two ft_I 182 = some ft_I182 from rfl).symm.trans ht)) ▸ hr)
set_option maxRecDepth 100000 in
theorem ft_c183 : mt_Cd 183 = prog_2_method_8_code := rfl
theorem ft_P183 : ft_P 183 := fun t ht pc r hr => ft_I_of ft_d183 ft_c183 ((Option.some.inj ((show ft_two ft_I 183 = some ft_I183 from rfl).symm.trans ht)) ▸ hr)
set_option maxRecDepth 100000 in
theorem ft_c184 : mt_Cd 184 = prog_2_method_7_code := rfl
theorem ft_P184 : ft_P 184 := fun t ht pc r hr => ft_I_of ft_d184 ft_c184 ((Option.some.inj ((show ft_two ft_I 184 = some ft_I184 from rfl).symm.trans ht)) ▸ hr)
set_option maxRecDepth 100000 in
theorem ft_c247 : mt_Cd 247 = prog_1_method_30_code := rfl
theorem ft_P247 : ft_P 247 := fun t ht pc r hr => ft_I_of ft_d247 ft_c247 ((Option.some.inj ((show ft_two ft_I 247 = some ft_I247 from rfl).symm.trans ht)) ▸ hr)
set_option maxRecDepth 100000 in
theorem ft_c248 : mt_Cd 248 = prog_1_method_31_code := rfl
theorem ft_P248 : ft_P 248 := fun t ht pc r hr => ft_I_of ft_d248 ft_c248 ((Option.some.inj ((show ft_two ft_I 248 = some ft_I248 from rfl).symm.trans ht)) ▸ hr)
set_option maxRecDepth 100000 in
theorem ft_c250 : mt_Cd 250 = prog_1_method_32_code := rfl
theorem ft_P250 : ft_P 250 := fun t ht pc r hr => ft_I_of ft_d250 ft_c250 ((Option.some.inj ((show ft_two ft_I 250 = some ft_I250 from rfl).symm.trans ht)) ▸ hr)
set_option maxRecDepth 100000 in
theorem ft_c253 : mt_Cd 253 = prog_1_method_33_code := rfl
theorem ft_P253 : ft_P 253 := fun t ht pc r hr => ft_I_of ft_d253 ft_c253 ((Option.some.inj ((show ft_two ft_I 253 = some ft_I253 from rfl).symm.trans ht)) ▸ hr)
set_option maxRecDepth 100000 in
theorem ft_c256 : mt_Cd 256 = prog_1_method_34_code := rfl
theorem ft_P256 : ft_P 256 := fun t ht pc r hr => ft_I_of ft_d256 ft_c256 ((Option.some.inj ((show ft_two ft_I 256 = some ft_I256 from rfl).symm.trans ht)) ▸ hr)
set_option maxRecDepth 100000 in
theorem ft_c257 : mt_Cd 257 = prog_1_method_36_code := rfl
theorem ft_P257 : ft_P 257 := fun t ht pc r hr => ft_I_of ft_d257 ft_c257 ((Option.some.inj ((show ft_two ft_I 257 = some ft_I257 from rfl).symm.trans ht)) ▸ hr)
set_option maxRecDepth 100000 in
theorem ft_c258 : mt_Cd 258 = prog_6_method_3_code := rfl
theorem ft_P258 : ft_P 258 := fun t ht pc r hr => ft_I_of ft_d258 ft_c258 ((Option.some.inj ((show ft_two ft_I 258 = some ft_I258 from rfl).symm.trans ht)) ▸ hr)
set_option maxRecDepth 100000 in
theorem ft_c259 : mt_Cd 259 = prog_11_method_4_code := rfl
theorem ft_P259 : ft_P 259 := fun t ht pc r hr => ft_I_of ft_d259 ft_c259 ((Option.some.inj ((show ft_two ft_I 259 = some ft_I259 from rfl).symm.trans ht)) ▸ hr)
set_option maxRecDepth 100000 in
theorem ft_c269 : mt_Cd 269 = prog_1_method_37_code := rfl
theorem ft_P269 : ft_P 269 := fun t ht pc r hr => ft_I_of ft_d269 ft_c269 ((Option.some.inj ((show ft_two ft_I 269 = some ft_I269 from rfl).symm.trans ht)) ▸ hr)
set_option maxRecDepth 100000 in
theorem ft_c270 : mt_Cd 270 = prog_6_method_7_code := rfl
theorem ft_P270 : ft_P 270 := fun t ht pc r hr => ft_I_of ft_d270 ft_c270 ((Option.some.inj ((show ft_two ft_I 270 = some ft_I270 from rfl).symm.trans ht)) ▸ hr)
set_option maxRecDepth 100000 in
theorem ft_c271 : mt_Cd 271 = prog_1_method_38_code := rfl
theorem ft_P271 : ft_P 271 := fun t ht pc r hr => ft_I_of ft_d271 ft_c271 ((Option.some.inj ((show ft_two ft_I 271 = some ft_I271 from rfl).symm.trans ht)) ▸ hr)
set_option maxRecDepth 100000 in
theorem ft_c274 : mt_Cd 274 = prog_1_method_39_code := rfl
theorem ft_P274 : ft_P 274 := fun t ht pc r hr => ft_I_of ft_d274 ft_c274 ((Option.some.inj ((show ft_two ft_I 274 = some ft_I274 from rfl).symm.trans ht)) ▸ hr)
set_option maxRecDepth 100000 in
theorem ft_c275 : mt_Cd 275 = prog_6_method_16_code := rfl
theorem ft_P275 : ft_P 275 := fun t ht pc r hr => ft_I_of ft_d275 ft_c275 ((Option.some.inj ((show ft_two ft_I 275 = some ft_I275 from rfl).symm.trans ht)) ▸ hr)
set_option maxRecDepth 100000 in
theorem ft_c278 : mt_Cd 278 = prog_1_method_40_code := rfl
theorem ft_P278 : ft_P 278 := fun t ht pc r hr => ft_I_of ft_d278 ft_c278 ((Option.some.inj ((show ft_two ft_I 278 = some ft_I278 from rfl).symm.trans ht)) ▸ hr)
set_option maxRecDepth 100000 in
theorem ft_c279 : mt_Cd 279 = prog_14_method_34_code := rfl
theorem ft_P279 : ft_P 279 := fun t ht pc r hr => ft_I_of ft_d279 ft_c279 ((Option.some.inj ((show ft_two ft_I 279 = some ft_I279 from rfl).symm.trans ht)) ▸ hr)
set_option maxRecDepth 100000 in
theorem ft_c280 : mt_Cd 280 = prog_15_method_1_code := rfl
theorem ft_P280 : ft_P 280 := fun t ht pc r hr => ft_I_of ft_d280 ft_c280 ((Option.some.inj ((show ft_two ft_I 280 = some ft_I280 from rfl).symm.trans ht)) ▸ hr)
set_option maxRecDepth 100000 in
theorem ft_c281 : mt_Cd 281 = prog_16_method_1_code := rfl
theorem ft_P281 : ft_P 281 := fun t ht pc r hr => ft_I_of ft_d281 ft_c281 ((Option.some.inj ((show ft_two ft_I 281 = some ft_I281 from rfl).symm.trans ht)) ▸ hr)
set_option maxRecDepth 100000 in
theorem ft_c282 : mt_Cd 282 = prog_15_method_73_code := rfl
theorem ft_P282 : ft_P 282 := fun t ht pc r hr => ft_I_of ft_d282 ft_c282 ((Option.some.inj ((show ft_two ft_I 282 = some ft_I282 from rfl).symm.trans ht)) ▸ hr)
set_option maxRecDepth 100000 in
theorem ft_c283 : mt_Cd 283 = prog_15_method_72_code := rfl
theorem ft_P283 : ft_P 283 := fun t ht pc r hr => ft_I_of ft_d283 ft_c283 ((Option.some.inj ((show ft_two ft_I 283 = some ft_I283 from rfl).symm.trans ht)) ▸ hr)
set_option maxRecDepth 100000 in
theorem ft_c284 : mt_Cd 284 = prog_15_method_74_code := rfl
theorem ft_P284 : ft_P 284 := fun t ht pc r hr => ft_I_of ft_d284 ft_c284 ((Option.some.inj ((show ft_two ft_I 284 = some ft_I284 from rfl).symm.trans ht)) ▸ hr)
set_option maxRecDepth 100000 in
theorem ft_c285 : mt_Cd 285 = prog_15_method_19_code := rfl
theorem ft_P285 : ft_P 285 := fun t ht pc r hr => ft_I_of ft_d285 ft_c285 ((Option.some.inj ((show ft_two ft_I 285 = some ft_I285 from rfl).symm.trans ht)) ▸ hr)
set_option maxRecDepth 100000 in
theorem ft_c286 : mt_Cd 286 = prog_16_method_5_code := rfl
theorem ft_P286 : ft_P 286 := fun t ht pc r hr => ft_I_of ft_d286 ft_c286 ((Option.some.inj ((show ft_two ft_I 286 = some ft_I286 from rfl).symm.trans ht)) ▸ hr)
set_option maxRecDepth 100000 in
theorem ft_c293 : mt_Cd 293 = prog_15_method_3_code := rfl
theorem ft_P293 : ft_P 293 := fun t ht pc r hr => ft_I_of ft_d293 ft_c293 ((Option.some.inj ((show ft_two ft_I 293 = some ft_I293 from rfl).symm.trans ht)) ▸ hr)
set_option maxRecDepth 100000 in
theorem ft_c294 : mt_Cd 294 = prog_15_method_2_code := rfl
theorem ft_P294 : ft_P 294 := fun t ht pc r hr => ft_I_of ft_d294 ft_c294 ((Option.some.inj ((show ft_two ft_I 294 = some ft_I294 from rfl).symm.trans ht)) ▸ hr)
set_option maxRecDepth 100000 in
theorem ft_c295 : mt_Cd 295 = prog_14_method_4_code := rfl
theorem ft_P295 : ft_P 295 := fun t ht pc r hr => ft_I_of ft_d295 ft_c295 ((Option.some.inj ((show ft_two ft_I 295 = some ft_I295 from rfl).symm.trans ht)) ▸ hr)
set_option maxRecDepth 100000 in
theorem ft_c297 : mt_Cd 297 = prog_15_method_4_code := rfl
theorem ft_P297 : ft_P 297 := fun t ht pc r hr => ft_I_of ft_d297 ft_c297 ((Option.some.inj ((show ft_two ft_I 297 = some ft_I297 from rfl).symm.trans ht)) ▸ hr)
set_option maxRecDepth 100000 in
theorem ft_c307 : mt_Cd 307 = prog_15_method_7_code := rfl
theorem ft_P307 : ft_P 307 := fun t ht pc r hr => ft_I_of ft_d307 ft_c307 ((Option.some.inj ((show ft_two ft_I 307 = some ft_I307 from rfl).symm.trans ht)) ▸ hr)
set_option maxRecDepth 100000 in
theorem ft_c314 : mt_Cd 314 = prog_15_method_28_code := rfl
theorem ft_P314 : ft_P 314 := fun t ht pc r hr => ft_I_of ft_d314 ft_c314 ((Option.some.inj ((show ft_two ft_I 314 = some ft_I314 from rfl).symm.trans ht)) ▸ hr)
set_option maxRecDepth 100000 in
theorem ft_c315 : mt_Cd 315 = prog_15_method_29_code := rfl
theorem ft_P315 : ft_P 315 := fun t ht pc r hr => ft_I_of ft_d315 ft_c315 ((Option.some.inj ((show ft_two ft_I 315 = some ft_I315 from rfl).symm.trans ht)) ▸ hr)
set_option maxRecDepth 100000 in
theorem ft_c316 : mt_Cd 316 = prog_15_method_30_code := rfl
theorem ft_P316 : ft_P 316 := fun t ht pc r hr => ft_I_of ft_d316 ft_c316 ((Option.some.inj ((show ft_two ft_I 316 = some ft_I316 from rfl).symm.trans ht)) ▸ hr)
set_option maxRecDepth 100000 in
theorem ft_c319 : mt_Cd 319 = prog_15_method_32_code := rfl
theorem ft_P319 : ft_P 319 := fun t ht pc r hr => ft_I_of ft_d319 ft_c319 ((Option.some.inj ((show ft_two ft_I 319 = some ft_I319 from rfl).symm.trans ht)) ▸ hr)
set_option maxRecDepth 100000 in
theorem ft_c331 : mt_Cd 331 = prog_15_method_46_code := rfl
theorem ft_P331 : ft_P 331 := fun t ht pc r hr => ft_I_of ft_d331 ft_c331 ((Option.some.inj ((show ft_two ft_I 331 = some ft_I331 from rfl).symm.trans ht)) ▸ hr)
set_option maxRecDepth 100000 in
theorem ft_c333 : mt_Cd 333 = prog_15_method_47_code := rfl
theorem ft_P333 : ft_P 333 := fun t ht pc r hr => ft_I_of ft_d333 ft_c333 ((Option.some.inj ((show ft_two ft_I 333 = some ft_I333 from rfl).symm.trans ht)) ▸ hr)
set_option maxRecDepth 100000 in
theorem ft_c336 : mt_Cd 336 = prog_15_method_48_code := rfl
theorem ft_P336 : ft_P 336 := fun t ht pc r hr => ft_I_of ft_d336 ft_c336 ((Option.some.inj ((show ft_two ft_I 336 = some ft_I336 from rfl).symm.trans ht)) ▸ hr)
set_option maxRecDepth 100000 in
theorem ft_c340 : mt_Cd 340 = prog_15_method_49_code := rfl
theorem ft_P340 : ft_P 340 := fun t ht pc r hr => ft_I_of ft_d340 ft_c340 ((Option.some.inj ((show ft_two ft_I 340 = some ft_I340 from rfl).symm.trans ht)) ▸ hr)
set_option maxRecDepth 100000 in
theorem ft_c361 : mt_Cd 361 = prog_15_method_69_code := rfl
theorem ft_P361 : ft_P 361 := fun t ht pc r hr => ft_I_of ft_d361 ft_c361 ((Option.some.inj ((show ft_two ft_I 361 = some ft_I361 from rfl).symm.trans ht)) ▸ hr)
set_option maxRecDepth 100000 in
theorem ft_c362 : mt_Cd 362 = prog_15_method_68_code := rfl
theorem ft_P362 : ft_P 362 := fun t ht pc r hr => ft_I_of ft_d362 ft_c362 ((Option.some.inj ((show ft_two ft_I 362 = some ft_I362 from rfl).symm.trans ht)) ▸ hr)
set_option maxRecDepth 100000 in
theorem ft_c363 : mt_Cd 363 = prog_14_method_35_code := rfl
theorem ft_P363 : ft_P 363 := fun t ht pc r hr => ft_I_of ft_d363 ft_c363 ((Option.some.inj ((show ft_two ft_I 363 = some ft_I363 from rfl).symm.trans ht)) ▸ hr)
set_option maxRecDepth 100000 in
theorem ft_c364 : mt_Cd 364 = prog_14_method_105_code := rfl
theorem ft_P364 : ft_P 364 := fun t ht pc r hr => ft_I_of ft_d364 ft_c364 ((Option.some.inj ((show ft_two ft_I 364 = some ft_I364 from rfl).symm.trans ht)) ▸ hr)
set_option maxRecDepth 100000 in
theorem ft_c365 : mt_Cd 365 = prog_14_method_106_code := rfl
theorem ft_P365 : ft_P 365 := fun t ht pc r hr => ft_I_of ft_d365 ft_c365 ((Option.some.inj ((show ft_two ft_I 365 = some ft_I365 from rfl).symm.trans ht)) ▸ hr)
set_option maxRecDepth 100000 in
theorem ft_c366 : mt_Cd 366 = prog_14_method_107_code := rfl
theorem ft_P366 : ft_P 366 := fun t ht pc r hr => ft_I_of ft_d366 ft_c366 ((Option.some.inj ((show ft_two ft_I 366 = some ft_I366 from rfl).symm.trans ht)) ▸ hr)
set_option maxRecDepth 100000 in
theorem ft_c367 : mt_Cd 367 = prog_14_method_111_code := rfl
theorem ft_P367 : ft_P 367 := fun t ht pc r hr => ft_I_of ft_d367 ft_c367 ((Option.some.inj ((show ft_two ft_I 367 = some ft_I367 from rfl).symm.trans ht)) ▸ hr)
set_option maxRecDepth 100000 in
theorem ft_c368 : mt_Cd 368 = prog_14_method_108_code := rfl
theorem ft_P368 : ft_P 368 := fun t ht pc r hr => ft_I_of ft_d368 ft_c368 ((Option.some.inj ((show ft_two ft_I 368 = some ft_I368 from rfl).symm.trans ht)) ▸ hr)
set_option maxRecDepth 100000 in
theorem ft_c369 : mt_Cd 369 = prog_14_method_110_code := rfl
theorem ft_P369 : ft_P 369 := fun t ht pc r hr => ft_I_of ft_d369 ft_c369 ((Option.some.inj ((show ft_two ft_I 369 = some ft_I369 from rfl).symm.trans ht)) ▸ hr)
set_option maxRecDepth 100000 in
theorem ft_c370 : mt_Cd 370 = prog_14_method_109_code := rfl
theorem ft_P370 : ft_P 370 := fun t ht pc r hr => ft_I_of ft_d370 ft_c370 ((Option.some.inj ((show ft_two ft_I 370 = some ft_I370 from rfl).symm.trans ht)) ▸ hr)
set_option maxRecDepth 100000 in
theorem ft_c371 : mt_Cd 371 = prog_14_method_38_code := rfl
theorem ft_P371 : ft_P 371 := fun t ht pc r hr => ft_I_of ft_d371 ft_c371 ((Option.some.inj ((show ft_two ft_I 371 = some ft_I371 from rfl).symm.trans ht)) ▸ hr)
set_option maxRecDepth 100000 in
theorem ft_c372 : mt_Cd 372 = prog_14_method_112_code := rfl
theorem ft_P372 : ft_P 372 := fun t ht pc r hr => ft_I_of ft_d372 ft_c372 ((Option.some.inj ((show ft_two ft_I 372 = some ft_I372 from rfl).symm.trans ht)) ▸ hr)
set_option maxRecDepth 100000 in
theorem ft_c373 : mt_Cd 373 = prog_14_method_113_code := rfl
theorem ft_P373 : ft_P 373 := fun t ht pc r hr => ft_I_of ft_d373 ft_c373 ((Option.some.inj ((show ft_two ft_I 373 = some ft_I373 from rfl).symm.trans ht)) ▸ hr)
set_option maxRecDepth 100000 in
theorem ft_c374 : mt_Cd 374 = prog_14_method_114_code := rfl
theorem ft_P374 : ft_P 374 := fun t ht pc r hr => ft_I_of ft_d374 ft_c374 ((Option.some.inj ((show ft_two ft_I 374 = some ft_I374 from rfl).symm.trans ht)) ▸ hr)
set_option maxRecDepth 100000 in
theorem ft_c375 : mt_Cd 375 = prog_14_method_115_code := rfl
theorem ft_P375 : ft_P 375 := fun t ht pc r hr => ft_I_of ft_d375 ft_c375 ((Option.some.inj ((show ft_two ft_I 375 = some ft_I375 from rfl).symm.trans ht)) ▸ hr)
set_option maxRecDepth 100000 in
theorem ft_c376 : mt_Cd 376 = prog_15_method_75_code := rfl
theorem ft_P376 : ft_P 376 := fun t ht pc r hr => ft_I_of ft_d376 ft_c376 ((Option.some.inj ((show ft_two ft_I 376 = some ft_I376 from rfl).symm.trans ht)) ▸ hr)
set_option maxRecDepth 100000 in
theorem ft_c377 : mt_Cd 377 = prog_14_method_116_code := rfl
theorem ft_P377 : ft_P 377 := fun t ht pc r hr => ft_I_of ft_d377 ft_c377 ((Option.some.inj ((show ft_two ft_I 377 = some ft_I377 from rfl).symm.trans ht)) ▸ hr)
set_option maxRecDepth 100000 in
theorem ft_c378 : mt_Cd 378 = prog_14_method_117_code := rfl
theorem ft_P378 : ft_P 378 := fun t ht pc r hr => ft_I_of ft_d378 ft_c378 ((Option.some.inj ((show ft_two ft_I 378 = some ft_I378 from rfl).symm.trans ht)) ▸ hr)
set_option maxRecDepth 100000 in
theorem ft_c379 : mt_Cd 379 = prog_15_method_76_code := rfl
theorem ft_P379 : ft_P 379 := fun t ht pc r hr => ft_I_of ft_d379 ft_c379 ((Option.some.inj ((show ft_two ft_I 379 = some ft_I379 from rfl).symm.trans ht)) ▸ hr)
set_option maxRecDepth 100000 in
theorem ft_c380 : mt_Cd 380 = prog_14_method_118_code := rfl
theorem ft_P380 : ft_P 380 := fun t ht pc r hr => ft_I_of ft_d380 ft_c380 ((Option.some.inj ((show ft_two ft_I 380 = some ft_I380 from rfl).symm.trans ht)) ▸ hr)
set_option maxRecDepth 100000 in
theorem ft_c381 : mt_Cd 381 = prog_15_method_78_code := rfl
theorem ft_P381 : ft_P 381 := fun t ht pc r hr => ft_I_of ft_d381 ft_c381 ((Option.some.inj ((show ft_two ft_I 381 = some ft_I381 from rfl).symm.trans ht)) ▸ hr)
set_option maxRecDepth 100000 in
theorem ft_c383 : mt_Cd 383 = prog_14_method_119_code := rfl
theorem ft_P383 : ft_P 383 := fun t ht pc r hr => ft_I_of ft_d383 ft_c383 ((Option.some.inj ((show ft_two ft_I 383 = some ft_I383 from rfl).symm.trans ht)) ▸ hr)
set_option maxRecDepth 100000 in
theorem ft_c384 : mt_Cd 384 = prog_14_method_120_code := rfl
theorem ft_P384 : ft_P 384 := fun t ht pc r hr => ft_I_of ft_d384 ft_c384 ((Option.some.inj ((show ft_two ft_I 384 = some ft_I384 from rfl).symm.trans ht)) ▸ hr)
set_option maxRecDepth 100000 in
theorem ft_c385 : mt_Cd 385 = prog_14_method_122_code := rfl
theorem ft_P385 : ft_P 385 := fun t ht pc r hr => ft_I_of ft_d385 ft_c385 ((Option.some.inj ((show ft_two ft_I 385 = some ft_I385 from rfl).symm.trans ht)) ▸ hr)
set_option maxRecDepth 100000 in
theorem ft_c386 : mt_Cd 386 = prog_14_method_121_code := rfl
theorem ft_P386 : ft_P 386 := fun t ht pc r hr => ft_I_of ft_d386 ft_c386 ((Option.some.inj ((show ft_two ft_I 386 = some ft_I386 from rfl).symm.trans ht)) ▸ hr)
set_option maxRecDepth 100000 in
theorem ft_c387 : mt_Cd 387 = prog_15_method_77_code := rfl
theorem ft_P387 : ft_P 387 := fun t ht pc r hr => ft_I_of ft_d387 ft_c387 ((Option.some.inj ((show ft_two ft_I 387 = some ft_I387 from rfl).symm.trans ht)) ▸ hr)
set_option maxRecDepth 100000 in
theorem ft_c389 : mt_Cd 389 = prog_14_method_123_code := rfl
theorem ft_P389 : ft_P 389 := fun t ht pc r hr => ft_I_of ft_d389 ft_c389 ((Option.some.inj ((show ft_two ft_I 389 = some ft_I389 from rfl).symm.trans ht)) ▸ hr)
set_option maxRecDepth 100000 in
theorem ft_c390 : mt_Cd 390 = prog_14_method_124_code := rfl
theorem ft_P390 : ft_P 390 := fun t ht pc r hr => ft_I_of ft_d390 ft_c390 ((Option.some.inj ((show ft_two ft_I 390 = some ft_I390 from rfl).symm.trans ht)) ▸ hr)
set_option maxRecDepth 100000 in
theorem ft_c393 : mt_Cd 393 = prog_14_method_125_code := rfl
theorem ft_P393 : ft_P 393 := fun t ht pc r hr => ft_I_of ft_d393 ft_c393 ((Option.some.inj ((show ft_two ft_I 393 = some ft_I393 from rfl).symm.trans ht)) ▸ hr)
set_option maxRecDepth 100000 in
theorem ft_c394 : mt_Cd 394 = prog_14_method_126_code := rfl
theorem ft_P394 : ft_P 394 := fun t ht pc r hr => ft_I_of ft_d394 ft_c394 ((Option.some.inj ((show ft_two ft_I 394 = some ft_I394 from rfl).symm.trans ht)) ▸ hr)
set_option maxRecDepth 100000 in
theorem ft_c395 : mt_Cd 395 = prog_14_method_127_code := rfl
theorem ft_P395 : ft_P 395 := fun t ht pc r hr => ft_I_of ft_d395 ft_c395 ((Option.some.inj ((show ft_two ft_I 395 = some ft_I395 from rfl).symm.trans ht)) ▸ hr)
set_option maxRecDepth 100000 in
theorem ft_c397 : mt_Cd 397 = prog_14_method_17_code := rfl
theorem ft_P397 : ft_P 397 := fun t ht pc r hr => ft_I_of ft_d397 ft_c397 ((Option.some.inj ((show ft_two ft_I 397 = some ft_I397 from rfl).symm.trans ht)) ▸ hr)
set_option maxRecDepth 100000 in
theorem ft_c398 : mt_Cd 398 = prog_14_method_14_code := rfl
theorem ft_P398 : ft_P 398 := fun t ht pc r hr => ft_I_of ft_d398 ft_c398 ((Option.some.inj ((show ft_two ft_I 398 = some ft_I398 from rfl).symm.trans ht)) ▸ hr)
set_option maxRecDepth 100000 in
theorem ft_c399 : mt_Cd 399 = prog_14_method_8_code := rfl
theorem ft_P399 : ft_P 399 := fun t ht pc r hr => ft_I_of ft_d399 ft_c399 ((Option.some.inj ((show ft_two ft_I 399 = some ft_I399 from rfl).symm.trans ht)) ▸ hr)
set_option maxRecDepth 100000 in
theorem ft_c400 : mt_Cd 400 = prog_14_method_7_code := rfl
theorem ft_P400 : ft_P 400 := fun t ht pc r hr => ft_I_of ft_d400 ft_c400 ((Option.some.inj ((show ft_two ft_I 400 = some ft_I400 from rfl).symm.trans ht)) ▸ hr)
set_option maxRecDepth 100000 in
theorem ft_c406 : mt_Cd 406 = prog_14_method_30_code := rfl
theorem ft_P406 : ft_P 406 := fun t ht pc r hr => ft_I_of ft_d406 ft_c406 ((Option.some.inj ((show ft_two ft_I 406 = some ft_I406 from rfl).symm.trans ht)) ▸ hr)
set_option maxRecDepth 100000 in
theorem ft_c412 : mt_Cd 412 = prog_14_method_15_code := rfl
theorem ft_P412 : ft_P 412 := fun t ht pc r hr => ft_I_of ft_d412 ft_c412 ((Option.some.inj ((show ft_two ft_I 412 = some ft_I412 from rfl).symm.trans ht)) ▸ hr)
set_option maxRecDepth 100000 in
theorem ft_c423 : mt_Cd 423 = prog_14_method_18_code := rfl
theorem ft_P423 : ft_P 423 := fun t ht pc r hr => ft_I_of ft_d423 ft_c423 ((Option.some.inj ((show ft_two ft_I 423 = some ft_I423 from rfl).symm.trans ht)) ▸ hr)
set_option maxRecDepth 100000 in
theorem ft_c425 : mt_Cd 425 = prog_14_method_128_code := rfl
theorem ft_P425 : ft_P 425 := fun t ht pc r hr => ft_I_of ft_d425 ft_c425 ((Option.some.inj ((show ft_two ft_I 425 = some ft_I425 from rfl).symm.trans ht)) ▸ hr)
set_option maxRecDepth 100000 in
theorem ft_c426 : mt_Cd 426 = prog_14_method_129_code := rfl
theorem ft_P426 : ft_P 426 := fun t ht pc r hr => ft_I_of ft_d426 ft_c426 ((Option.some.inj ((show ft_two ft_I 426 = some ft_I426 from rfl).symm.trans ht)) ▸ hr)
set_option maxRecDepth 100000 in
theorem ft_c427 : mt_Cd 427 = prog_14_method_130_code := rfl
theorem ft_P427 : ft_P 427 := fun t ht pc r hr => ft_I_of ft_d427 ft_c427 ((Option.some.inj ((show ft_two ft_I 427 = some ft_I427 from rfl).symm.trans ht)) ▸ hr)
set_option maxRecDepth 100000 in
theorem ft_c428 : mt_Cd 428 = prog_14_method_131_code := rfl
theorem ft_P428 : ft_P 428 := fun t ht pc r hr => ft_I_of ft_d428 ft_c428 ((Option.some.inj ((show ft_two ft_I 428 = some ft_I428 from rfl).symm.trans ht)) ▸ hr)
set_option maxRecDepth 100000 in
theorem ft_c429 : mt_Cd 429 = prog_14_method_74_code := rfl
theorem ft_P429 : ft_P 429 := fun t ht pc r hr => ft_I_of ft_d429 ft_c429 ((Option.some.inj ((show ft_two ft_I 429 = some ft_I429 from rfl).symm.trans ht)) ▸ hr)
set_option maxRecDepth 100000 in
theorem ft_c430 : mt_Cd 430 = prog_14_method_65_code := rfl
theorem ft_P430 : ft_P 430 := fun t ht pc r hr => ft_I_of ft_d430 ft_c430 ((Option.some.inj ((show ft_two ft_I 430 = some ft_I430 from rfl).symm.trans ht)) ▸ hr)
set_option maxRecDepth 100000 in
theorem ft_c431 : mt_Cd 431 = prog_14_method_75_code := rfl
theorem ft_P431 : ft_P 431 := fun t ht pc r hr => ft_I_of ft_d431 ft_c431 ((Option.some.inj ((show ft_two ft_I 431 = some ft_I431 from rfl).symm.trans ht)) ▸ hr)
set_option maxRecDepth 100000 in
theorem ft_c432 : mt_Cd 432 = prog_14_method_59_code := rfl
theorem ft_P432 : ft_P 432 := fun t ht pc r hr => ft_I_of ft_d432 ft_c432 ((Option.some.inj ((show ft_two ft_I 432 = some ft_I432 from rfl).symm.trans ht)) ▸ hr)
set_option maxRecDepth 100000 in
theorem ft_c450 : mt_Cd 450 = prog_14_method_76_code := rfl
theorem ft_P450 : ft_P 450 := fun t ht pc r hr => ft_I_of ft_d450 ft_c450 ((Option.some.inj ((show ft_two ft_I 450 = some ft_I450 from rfl).symm.trans ht)) ▸ hr)
set_option maxRecDepth 100000 in
theorem ft_c459 : mt_Cd 459 = prog_14_method_78_code := rfl
theorem ft_P459 : ft_P 459 := fun t ht pc r hr => ft_I_of ft_d459 ft_c459 ((Option.some.inj ((show ft_two ft_I 459 = some ft_I459 from rfl).symm.trans ht)) ▸ hr)
set_option maxRecDepth 100000 in
theorem ft_c464 : mt_Cd 464 = prog_14_method_79_code := rfl
theorem ft_P464 : ft_P 464 := fun t ht pc r hr => ft_I_of ft_d464 ft_c464 ((Option.some.inj ((show ft_two ft_I 464 = some ft_I464 from rfl).symm.trans ht)) ▸ hr)
set_option maxRecDepth 100000 in
theorem ft_c469 : mt_Cd 469 = prog_14_method_83_code := rfl
theorem ft_P469 : ft_P 469 := fun t ht pc r hr => ft_I_of ft_d469 ft_c469 ((Option.some.inj ((show ft_two ft_I 469 = some ft_I469 from rfl).symm.trans ht)) ▸ hr)
set_option maxRecDepth 100000 in
theorem ft_c474 : mt_Cd 474 = prog_14_method_86_code := rfl
theorem ft_P474 : ft_P 474 := fun t ht pc r hr => ft_I_of ft_d474 ft_c474 ((Option.some.inj ((show ft_two ft_I 474 = some ft_I474 from rfl).symm.trans ht)) ▸ hr)
set_option maxRecDepth 100000 in
theorem ft_c484 : mt_Cd 484 = prog_14_method_132_code := rfl
theorem ft_P484 : ft_P 484 := fun t ht pc r hr => ft_I_of ft_d484 ft_c484 ((Option.some.inj ((show ft_two ft_I 484 = some ft_I484 from rfl).symm.trans ht)) ▸ hr)
set_option maxRecDepth 100000 in
theorem ft_c485 : mt_Cd 485 = prog_14_method_133_code := rfl
theorem ft_P485 : ft_P 485 := fun t ht pc r hr => ft_I_of ft_d485 ft_c485 ((Option.some.inj ((show ft_two ft_I 485 = some ft_I485 from rfl).symm.trans ht)) ▸ hr)
set_option maxRecDepth 100000 in
theorem ft_c486 : mt_Cd 486 = prog_14_method_134_code := rfl
theorem ft_P486 : ft_P 486 := fun t ht pc r hr => ft_I_of ft_d486 ft_c486 ((Option.some.inj ((show ft_two ft_I 486 = some ft_I486 from rfl).symm.trans ht)) ▸ hr)
set_option maxRecDepth 100000 in
theorem ft_c487 : mt_Cd 487 = prog_14_method_135_code := rfl
theorem ft_P487 : ft_P 487 := fun t ht pc r hr => ft_I_of ft_d487 ft_c487 ((Option.some.inj ((show ft_two ft_I 487 = some ft_I487 from rfl).symm.trans ht)) ▸ hr)
set_option maxRecDepth 100000 in
theorem ft_c488 : mt_Cd 488 = prog_14_method_136_code := rfl
theorem ft_P488 : ft_P 488 := fun t ht pc r hr => ft_I_of ft_d488 ft_c488 ((Option.some.inj ((show ft_two ft_I 488 = some ft_I488 from rfl).symm.trans ht)) ▸ hr)
set_option maxRecDepth 100000 in
theorem ft_c489 : mt_Cd 489 = prog_14_method_137_code := rfl
theorem ft_P489 : ft_P 489 := fun t ht pc r hr => ft_I_of ft_d489 ft_c489 ((Option.some.inj ((show ft_two ft_I 489 = some ft_I489 from rfl).symm.trans ht)) ▸ hr)
set_option maxRecDepth 100000 in
theorem ft_c490 : mt_Cd 490 = prog_14_method_94_code := rfl
theorem ft_P490 : ft_P 490 := fun t ht pc r hr => ft_I_of ft_d490 ft_c490 ((Option.some.inj ((show ft_two ft_I 490 = some ft_I490 from rfl).symm.trans ht)) ▸ hr)
set_option maxRecDepth 100000 in
theorem ft_c498 : mt_Cd 498 = prog_14_method_138_code := rfl
theorem ft_P498 : ft_P 498 := fun t ht pc r hr => ft_I_of ft_d498 ft_c498 ((Option.some.inj ((show ft_two ft_I 498 = some ft_I498 from rfl).symm.trans ht)) ▸ hr)
set_option maxRecDepth 100000 in
theorem ft_c499 : mt_Cd 499 = prog_14_method_139_code := rfl
theorem ft_P499 : ft_P 499 := fun t ht pc r hr => ft_I_of ft_d499 ft_c499 ((Option.some.inj ((show ft_two ft_I 499 = some ft_I499 from rfl).symm.trans ht)) ▸ hr)
set_option maxRecDepth 100000 in
theorem ft_c501 : mt_Cd 501 = prog_14_method_140_code := rfl
theorem ft_P501 : ft_P 501 := fun t ht pc r hr => ft_I_of ft_d501 ft_c501 ((Option.some.inj ((show ft_two ft_I 501 = some ft_I501 from rfl).symm.trans ht)) ▸ hr)
set_option maxRecDepth 100000 in
theorem ft_c502 : mt_Cd 502 = prog_14_method_103_code := rfl
theorem ft_P502 : ft_P 502 := fun t ht pc r hr => ft_I_of ft_d502 ft_c502 ((Option.some.inj ((show ft_two ft_I 502 = some ft_I502 from rfl).symm.trans ht)) ▸ hr)
set_option maxRecDepth 100000 in
theorem ft_c504 : mt_Cd 504 = prog_14_method_141_code := rfl
theorem ft_P504 : ft_P 504 := fun t ht pc r hr => ft_I_of ft_d504 ft_c504 ((Option.some.inj ((show ft_two ft_I 504 = some ft_I504 from rfl).symm.trans ht)) ▸ hr)
def ft_ys0 : List Nat := [0, 1, 2, 3, 4, 5, 6, 7, 8, 9, 10, 11, 12, 13, 14, 15, 16, 17, 18, 19]
theorem ft_Q0 : ∀ y ∈ ft_ys0, ft_P y := List.forall_mem_cons.mpr ⟨ft_P0, List.forall_mem_cons.mpr ⟨ft_P1, List.forall_mem_cons.mpr ⟨ft_P2, List.forall_mem_cons.mpr ⟨ft_P3, List.forall_mem_cons.mpr ⟨ft_P4, List.forall_mem_cons.mpr ⟨ft_P5, List.forall_mem_cons.mpr ⟨ft_P6, List.forall_mem_cons.mpr ⟨ft_P7, List.forall_mem_cons.mpr ⟨ft_P8, List.forall_mem_cons.mpr ⟨ft_P9, List.forall_mem_cons.mpr ⟨ft_P10, List.forall_mem_cons.mpr ⟨ft_P11, List.forall_mem_cons.mpr ⟨ft_P12, List.forall_mem_cons.mpr ⟨ft_P13, List.forall_mem_cons.mpr ⟨ft_P14, List.forall_mem_cons.mpr ⟨ft_P15, List.forall_mem_cons.mpr ⟨ft_P16, List.forall_mem_cons.mpr ⟨ft_P17, List.forall_mem_cons.mpr ⟨ft_P18, List.forall_mem_cons.mpr ⟨ft_P19, fun _ h => absurd h List.not_mem_nil⟩⟩⟩⟩⟩⟩⟩⟩⟩⟩⟩⟩⟩⟩⟩⟩⟩⟩⟩⟩
def ft_ys1 : List Nat := [20, 21, 22, 23, 34, 36, 37, 52, 53, 54, 55, 61, 62, 65, 66, 67, 68, 69, 70, 71]
theorem ft_Q1 : ∀ y ∈ ft_ys1, ft_P y := List.forall_mem_cons.mpr ⟨ft_P20, List.forall_mem_cons.mpr ⟨ft_P21, List.forall_mem_cons.mpr ⟨ft_P22, List.forall_mem_cons.mpr ⟨ft_P23, List.forall_mem_cons.mpr ⟨ft_P34, List.forall_mem_cons.mpr ⟨ft_P36, List.forall_mem_cons.mpr ⟨ft_P37, List.forall_mem_cons.mpr ⟨ft_P52, List.forall_mem_cons.mpr ⟨ft_P53, List.forall_mem_cons.mpr ⟨ft_P54, List.forall_mem_cons.mpr ⟨ft_P55, List.forall_mem_cons.mpr ⟨ft_P61, List.forall_mem_cons.mpr ⟨ft_P62, List.forall_mem_cons.mpr ⟨ft_P65, List.forall_mem_cons.mpr ⟨ft_P66, List.forall_mem_cons.mpr ⟨ft_P67, List.forall_mem_cons.mpr ⟨ft_P68, List.forall_mem_cons.mpr ⟨ft_P69, List.forall_mem_cons.mpr ⟨ft_P70, List.forall_mem_cons.mpr ⟨ft_P71, fun _ h => absurd h List.not_mem_nil⟩⟩⟩⟩⟩⟩⟩⟩⟩⟩⟩⟩⟩⟩⟩⟩⟩⟩⟩⟩
def ft_ys2 : List Nat := [72, 73, 75, 76, 77, 78, 82, 84, 110, 116, 117, 121, 122, 123, 124, 125, 126, 127, 128, 129]
theorem ft_Q2 : ∀ y ∈ ft_ys2, ft_P y := List.forall_mem_cons.mpr ⟨ft_P72, List.forall_mem_cons.mpr ⟨ft_P73, List.forall_mem_cons.mpr ⟨ft_P75, List.forall_mem_cons.mpr ⟨ft_P76, List.forall_mem_cons.mpr ⟨ft_P77, List.forall_mem_cons.mpr ⟨ft_P78, List.forall_mem_cons.mpr ⟨ft_P82, List.forall_mem_cons.mpr ⟨ft_P84, List.forall_mem_cons.mpr ⟨ft_P110, List.forall_mem_cons.mpr ⟨ft_P116, List.forall_mem_cons.mpr ⟨ft_P117, List.forall_mem_cons.mpr ⟨ft_P121, List.forall_mem_cons.mpr ⟨ft_P122, List.forall_mem_cons.mpr ⟨ft_P123, List.forall_mem_cons.mpr ⟨ft_P124, List.forall_mem_cons.mpr ⟨ft_P125, List.forall_mem_cons.mpr ⟨ft_P126, List.forall_mem_cons.mpr ⟨ft_P127, List.forall_mem_cons.mpr ⟨ft_P128, List.forall_mem_cons.mpr ⟨ft_P129, fun _ h => absurd h List.not_mem_nil⟩⟩⟩⟩⟩⟩⟩⟩⟩⟩⟩⟩⟩⟩⟩⟩⟩⟩⟩⟩
def ft_ys3 : List Nat := [130, 133, 135, 137, 138, 139, 140, 142, 143, 147, 148, 151, 174, 175, 176, 178, 179, 180, 181, 182]
theorem ft_Q3 : ∀ y ∈ ft_ys3, ft_P y := List.forall_mem_cons.mpr ⟨ft_P130, List.forall_mem_cons.mpr ⟨ft_P133, List.forall_mem_cons.mpr ⟨ft_P135, List.forall_mem_cons.mpr ⟨ft_P137, List.forall_mem_cons.mpr ⟨ft_P138, List.forall_mem_cons.mpr ⟨ft_P139, List.forall_mem_cons.mpr ⟨ft_P140, List.forall_mem_cons.mpr ⟨ft_P142, List.forall_mem_cons.mpr ⟨ft_P143, List.forall_mem_cons.mpr ⟨ft_P147, List.forall_mem_cons.mpr ⟨ft_P148, List.forall_mem_cons.mpr ⟨ft_P151, List.forall_mem_cons.mpr ⟨ft_P174, List.forall_mem_cons.mpr ⟨ft_P175, List.forall_mem_cons.mpr ⟨ft_P176, List.forall_mem_cons.mpr ⟨ft_P178, List.forall_mem_cons.mpr ⟨ft_P179, List.forall_mem_cons.mpr ⟨ft_P180, List.forall_mem_cons.mpr ⟨ft_P181, List.forall_mem_cons.mpr ⟨ft_P182, fun _ h => absurd h List.not_mem_nil⟩⟩⟩⟩⟩⟩⟩⟩⟩⟩⟩⟩⟩⟩⟩⟩⟩⟩⟩⟩
def ft_ys4 : List Nat := [183, 184, 247, 248, 250, 253, 256, 257, 258, 259, 269, 270, 271, 274, 275, 278, 279, 280, 281, 282]
theorem ft_Q4 : ∀ y ∈ ft_ys4, ft_P y := List.forall_mem_cons.mpr ⟨ft_P183, List.forall_mem_cons.mpr ⟨ft_P184, List.forall_mem_cons.mpr ⟨ft_P247, List.forall_mem_cons.mpr ⟨ft_P248, List.forall_mem_cons.mpr ⟨ft_P250, List.forall_mem_cons.mpr ⟨ft_P253, List.forall_mem_cons.mpr ⟨ft_P256, List.forall_mem_cons.mpr ⟨ft_P257, List.forall_mem_cons.mpr ⟨ft_P258, List.forall_mem_cons.mpr ⟨ft_P259, List.forall_mem_cons.mpr ⟨ft_P269, List.forall_mem_cons.mpr ⟨ft_P270, List.forall_mem_cons.mpr ⟨ft_P271, List.forall_mem_cons.mpr ⟨ft_P274, List.forall_mem_cons.mpr ⟨ft_P275, List.forall_mem_cons.mpr ⟨ft_P278, List.forall_mem_cons.mpr ⟨ft_P279, List.forall_mem_cons.mpr ⟨ft_P280, List.forall_mem_cons.mpr ⟨ft_P281, List.forall_mem_cons.mpr ⟨ft_P282, fun _ h => absurd h List.not_mem_nil⟩⟩⟩⟩⟩⟩⟩⟩⟩⟩⟩⟩⟩⟩⟩⟩⟩⟩⟩⟩
def ft_ys5 : List Nat := [283, 284, 285, 286, 293, 294, 295, 297, 307, 314, 315, 316, 319, 331, 333, 336, 340, 361, 362, 363]
theorem ft_Q5 : ∀ y ∈ ft_ys5, ft_P y := List.forall_mem_cons.mpr ⟨ft_P283, List.forall_mem_cons.mpr ⟨ft_P284, List.forall_mem_cons.mpr ⟨ft_P285, List.forall_mem_cons.mpr ⟨ft_P286, List.forall_mem_cons.mpr ⟨ft_P293, List.forall_mem_cons.mpr ⟨ft_P294, List.forall_mem_cons.mpr ⟨ft_P295, List.forall_mem_cons.mpr ⟨ft_P297, List.forall_mem_cons.mpr ⟨ft_P307, List.forall_mem_cons.mpr ⟨ft_P314, List.forall_mem_cons.mpr ⟨ft_P315, List.forall_mem_cons.mpr ⟨ft_P316, List.forall_mem_cons.mpr ⟨ft_P319, List.forall_mem_cons.mpr ⟨ft_P331, List.forall_mem_cons.mpr ⟨ft_P333, List.forall_mem_cons.mpr ⟨ft_P336, List.forall_mem_cons.mpr ⟨ft_P340, List.forall_mem_cons.mpr ⟨ft_P361, List.forall_mem_cons.mpr ⟨ft_P362, List.forall_mem_cons.mpr ⟨ft_P363, fun _ h => absurd h List.not_mem_nil⟩⟩⟩⟩⟩⟩⟩⟩⟩⟩⟩⟩⟩⟩⟩⟩⟩⟩⟩⟩
def ft_ys6 : List Nat := [364, 365, 366, 367, 368, 369, 370, 371, 372, 373, 374, 375, 376, 377, 378, 379, 380, 381, 383, 384]
theorem ft_Q6 : ∀ y ∈ ft_ys6, ft_P y := List.forall_mem_cons.mpr ⟨ft_P364, List.forall_mem_cons.mpr ⟨ft_P365, List.forall_mem_cons.mpr ⟨ft_P366, List.forall_mem_cons.mpr ⟨ft_P367, List.forall_mem_cons.mpr ⟨ft_P368, List.forall_mem_cons.mpr ⟨ft_P369, List.forall_mem_cons.mpr ⟨ft_P370, List.forall_mem_cons.mpr ⟨ft_P371, List.forall_mem_cons.mpr ⟨ft_P372, List.forall_mem_cons.mpr ⟨ft_P373, List.forall_mem_cons.mpr ⟨ft_P374, List.forall_mem_cons.mpr ⟨ft_P375, List.forall_mem_cons.mpr ⟨ft_P376, List.forall_mem_cons.mpr ⟨ft_P377, List.forall_mem_cons.mpr ⟨ft_P378, List.forall_mem_cons.mpr ⟨ft_P379, List.forall_mem_cons.mpr ⟨ft_P380, List.forall_mem_cons.mpr ⟨ft_P381, List.forall_mem_cons.mpr ⟨ft_P383, List.forall_mem_cons.mpr ⟨ft_P384, fun _ h => absurd h List.not_mem_nil⟩⟩⟩⟩⟩⟩⟩⟩⟩⟩⟩⟩⟩⟩⟩⟩⟩⟩⟩⟩
def ft_ys7 : List Nat := [385, 386, 387, 389, 390, 393, 394, 395, 397, 398, 399, 400, 406, 412, 423, 425, 426, 427, 428, 429]
theorem ft_Q7 : ∀ y ∈ ft_ys7, ft_P y := List.forall_mem_cons.mpr ⟨ft_P385, List.forall_mem_cons.mpr ⟨ft_P386, List.forall_mem_cons.mpr ⟨ft_P387, List.forall_mem_cons.mpr ⟨ft_P389, List.forall_mem_cons.mpr ⟨ft_P390, List.forall_mem_cons.mpr ⟨ft_P393, List.forall_mem_cons.mpr ⟨ft_P394, List.forall_mem_cons.mpr ⟨ft_P395, List.forall_mem_cons.mpr ⟨ft_P397, List.forall_mem_cons.mpr ⟨ft_P398, List.forall_mem_cons.mpr ⟨ft_P399, List.forall_mem_cons.mpr ⟨ft_P400, List.forall_mem_cons.mpr ⟨ft_P406, List.forall_mem_cons.mpr ⟨ft_P412, List.forall_mem_cons.mpr ⟨ft_P423, List.forall_mem_cons.mpr ⟨ft_P425, List.forall_mem_cons.mpr ⟨ft_P426, List.forall_mem_cons.mpr ⟨ft_P427, List.forall_mem_cons.mpr ⟨ft_P428, List.forall_mem_cons.mpr ⟨ft_P429, fun _ h => absurd h List.not_mem_nil⟩⟩⟩⟩⟩⟩⟩⟩⟩⟩⟩⟩⟩⟩⟩⟩⟩⟩⟩⟩
def ft_ys8 : List Nat := [430, 431, 432, 450, 459, 464, 469, 474, 484, 485, 486, 487, 488, 489, 490, 498, 499, 501, 502, 504]
theorem ft_Q8 : ∀ y ∈ ft_ys8, ft_P y := List.forall_mem_cons.mpr ⟨ft_P430, List.forall_mem_cons.mpr ⟨ft_P431, List.forall_mem_cons.mpr ⟨ft_P432, List.forall_mem_cons.mpr ⟨ft_P450, List.forall_mem_cons.mpr ⟨ft_P459, List.forall_mem_cons.mpr ⟨ft_P464, List.forall_mem_cons.mpr ⟨ft_P469, List.forall_mem_cons.mpr ⟨ft_P474, List.forall_mem_cons.mpr ⟨ft_P484, List.forall_mem_cons.mpr ⟨ft_P485, List.forall_mem_cons.mpr ⟨ft_P486, List.forall_mem_cons.mpr ⟨ft_P487, List.forall_mem_cons.mpr ⟨ft_P488, List.forall_mem_cons.mpr ⟨ft_P489, List.forall_mem_cons.mpr ⟨ft_P490, List.forall_mem_cons.mpr ⟨ft_P498, List.forall_mem_cons.mpr ⟨ft_P499, List.forall_mem_cons.mpr ⟨ft_P501, List.forall_mem_cons.mpr ⟨ft_P502, List.forall_mem_cons.mpr ⟨ft_P504, fun _ h => absurd h List.not_mem_nil⟩⟩⟩⟩⟩⟩⟩⟩⟩⟩⟩⟩⟩⟩⟩⟩⟩⟩⟩⟩
def ft_ys : List Nat := ft_ys0 ++ (ft_ys1 ++ (ft_ys2 ++ (ft_ys3 ++ (ft_ys4 ++ (ft_ys5 ++ (ft_ys6 ++ (ft_ys7 ++ (ft_ys8))))))))
theorem ft_Q : ∀ y ∈ ft_ys, ft_P y := List.forall_mem_append.mpr ⟨ft_Q0, List.forall_mem_append.mpr ⟨ft_Q1, List.forall_mem_append.mpr ⟨ft_Q2, List.forall_mem_append.mpr ⟨ft_Q3, List.forall_mem_append.mpr ⟨ft_Q4, List.forall_mem_append.mpr ⟨ft_Q5, List.forall_mem_append.mpr ⟨ft_Q6, List.forall_mem_append.mpr ⟨ft_Q7, ft_Q8⟩⟩⟩⟩⟩⟩⟩⟩
set_option maxRecDepth 100000 in
theorem ft_I_in : ft_all ft_I (fun y _ => ft_ys.any (fun z => Nat.beq z y)) = true := by decide +kernel
theorem ft_gI_eq : ft_gI = mv_gI ab_G0 := by
  funext y pc
  unfold ft_gI
  split
  · rename_i t ht
    refine ft_or_eq fun r hr => ?_
    obtain ⟨z, hz, e⟩ := List.any_eq_true.mp (ft_two_ok ft_I_in ht)
    have e := Nat.eq_of_beq_eq_true e
    subst e
    exact ft_Q z hz t ht pc r hr
  · exact ft_or_eq fun r hr => by cases hr
/-- the fast tables in one -/
def ft_G : mv_G := (ft_gI, ft_gF, mv_gN ab_G0, mv_gA ab_G0, ft_gC, mv_gK ab_G0, ft_gL, mv_gH ab_G0, mv_gZ ab_G0, mv_gD ab_G0, mv_gT ab_G0, mv_gP ab_G0, mv_gQ ab_G0, mv_gY ab_G0, mv_gE ab_G0, mv_gR ab_G0, mv_gW ab_G0, mv_gX ab_G0, mv_gM ab_G0, mv_gS ab_G0)
theorem ft_G_eq : ft_G = ab_G0 := by
  unfold ft_G
  rw [ft_gI_eq, ft_gF_eq, ft_gC_eq, ft_gL_eq]
  rfl
end
section
/-! boxes: the script of no call -/
set_option maxRecDepth 1000000 in
theorem ab_try0 : ab_ans (ab_run ft_G (ab_Ls 0) (fun _ => ab_full) 3000 0 2048 84000 ab_A0) = true := by decide +kernel
end
section
/-! loops: one plain step of the small machine -/
theorem mv_go1 {G : mv_G} {y fb lb m n pc : Nat} {lo : List (Nat × Value)} {st : List Value} {hp : List va_E} {cb sb : Nat} {S' : mv_S} {i : Instr} (hI : mv_gI G y pc = some (i, n)) (hp1 : ab_plain i = true) (hex : mv_exec G y (pc, lo, st, hp, cb, sb) = mv_og (mv_ins G y pc lo st hp cb sb n i)) (h : mv_ins G y pc lo st hp cb sb n i = some (.inl S')) : mv_run G (m + 1) y fb lb (pc, lo, st, hp, cb, sb) = mv_run G m y fb lb S' := by
  rw [mv_run, ab_nat_none (S := (pc, lo, st, hp, cb, sb)) hI hp1]
  dsimp only
  rw [hex, h]
  rfl
/-- a script as boxes: the first int by its last five bits, the next ones by bounds, in order -/
def ab_X (m : Int32) (bs : List (Int × Int)) : Nat → ab_V := fun k => match k with
  | 0 => .inr (.inr m)
  | j + 1 => .inr (.inl (bs.getD j (-2147483648, 2147483647)))
end
