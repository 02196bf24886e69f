section
/-! THE SMALL MACHINE (mv_): the decoded instructions run over locals as a list of pairs, a stack of values and a heap as a list of cells. Its pointer k stands for the address mv_ad .. k of the real machine; in its heap an array's class is the number of its type. -/
/-- a state: pc, locals, operand stack, heap, cells and slots that may still be made -/
abbrev mv_S : Type := Nat × List (Nat × Value) × List Value × List va_E × Nat × Nat
/-- what an instruction comes to: it goes on; it calls (method, arguments, the stack below them, its length); it returns; it throws -/
abbrev mv_R : Type := mv_S ⊕ ((Nat × List Value × List Value × Nat) ⊕ (Option Value ⊕ Nat))
/-- what a call comes to: it has thrown, or returned; the heap, what may still be made -/
abbrev mv_E : Type := (Nat ⊕ Option Value) × List va_E × Nat × Nat
/-- the tables: instructions; fields (class, place; by method and constant pool number); classes to make; types of arrays to make; calls (kind, method, how many arguments); constants; locals of a method; handlers; slots of a class's objects; first values of its fields; types of its fields; whether a field is final; constructors; types of arrays of ints, bytes, booleans; component types; the class that an array's type has; what a method returns; the class that a method's receiver has; the class that is thrown; the three types of a grid -/
abbrev mv_G : Type := (Nat → Nat → Option (Instr × Nat)) × (Nat → Nat → Option (Nat × Nat)) × (Nat → Nat → Option Nat) × (Nat → Nat → Option Nat) × (Nat → Nat → Option (Nat × Nat × Nat)) × (Nat → Nat → Option Value) × (Nat → Nat) × (Nat → List (Nat × Nat × Nat × Nat)) × (Nat → Nat) × (Nat → List Value) × (Nat → Nat → Option FieldType) × (Nat → Nat → Bool) × (Nat → Nat → Bool) × (Nat → Option FieldType) × (Nat → Option Nat) × (Nat → Option FieldType) × (Nat → Nat) × Nat × (Nat → Nat → Option (Nat × Nat × Nat)) × (Nat → Option (Nat × (Nat → Int32))) × (Nat → Option (List Int32)) × (Nat → Option Nat)
def mv_gI (G : mv_G) : Nat → Nat → Option (Instr × Nat) := G.1
def mv_gF (G : mv_G) : Nat → Nat → Option (Nat × Nat) := G.2.1
def mv_gN (G : mv_G) : Nat → Nat → Option Nat := G.2.2.1
def mv_gA (G : mv_G) : Nat → Nat → Option Nat := G.2.2.2.1
def mv_gC (G : mv_G) : Nat → Nat → Option (Nat × Nat × Nat) := G.2.2.2.2.1
def mv_gK (G : mv_G) : Nat → Nat → Option Value := G.2.2.2.2.2.1
def mv_gL (G : mv_G) : Nat → Nat := G.2.2.2.2.2.2.1
def mv_gH (G : mv_G) : Nat → List (Nat × Nat × Nat × Nat) := G.2.2.2.2.2.2.2.1
def mv_gZ (G : mv_G) : Nat → Nat := G.2.2.2.2.2.2.2.2.1
def mv_gD (G : mv_G) : Nat → List Value := G.2.2.2.2.2.2.2.2.2.1
def mv_gT (G : mv_G) : Nat → Nat → Option FieldType := G.2.2.2.2.2.2.2.2.2.2.1
def mv_gP (G : mv_G) : Nat → Nat → Bool := G.2.2.2.2.2.2.2.2.2.2.2.1
def mv_gQ (G : mv_G) : Nat → Nat → Bool := G.2.2.2.2.2.2.2.2.2.2.2.2.1
def mv_gY (G : mv_G) : Nat → Option FieldType := G.2.2.2.2.2.2.2.2.2.2.2.2.2.1
def mv_gE (G : mv_G) : Nat → Option Nat := G.2.2.2.2.2.2.2.2.2.2.2.2.2.2.1
def mv_gR (G : mv_G) : Nat → Option FieldType := G.2.2.2.2.2.2.2.2.2.2.2.2.2.2.2.1
def mv_gW (G : mv_G) : Nat → Nat := G.2.2.2.2.2.2.2.2.2.2.2.2.2.2.2.2.1
def mv_gX (G : mv_G) : Nat := G.2.2.2.2.2.2.2.2.2.2.2.2.2.2.2.2.2.1
def mv_gM (G : mv_G) : Nat → Nat → Option (Nat × Nat × Nat) := G.2.2.2.2.2.2.2.2.2.2.2.2.2.2.2.2.2.2.1
/-- arrays of ints that were there before, by their pointers: length, what they hold -/
def mv_gS (G : mv_G) : Nat → Option (Nat × (Nat → Int32)) := G.2.2.2.2.2.2.2.2.2.2.2.2.2.2.2.2.2.2.2.1
/-- texts, by the pointers of their constants: their bytes -/
def mv_gX2 (G : mv_G) : Nat → Option (List Int32) := G.2.2.2.2.2.2.2.2.2.2.2.2.2.2.2.2.2.2.2.2.1
/-- types of arrays of arrays: the type of what they hold -/
def mv_gB (G : mv_G) : Nat → Option Nat := G.2.2.2.2.2.2.2.2.2.2.2.2.2.2.2.2.2.2.2.2.2
/-- pointers from here on are constants of text -/
def mv_big : Nat := 1099511627776
def mv_tgt (pc : Nat) (off : Int) : Option Nat := if 0 ≤ (pc : Int) + off then some ((pc : Int) + off).toNat else none
theorem mv_tgt_eq {pc t : Nat} {off : Int} (h : mv_tgt pc off = some t) : (pc : Int) + off = (t : Int) := by
  unfold mv_tgt at h
  split at h
  · cases h
    omega
  · cases h
def mv_find (i : Nat) : List (Nat × Value) → Nat → Option (Nat × Value)
  | [], _ => none
  | q :: r, k => if q.1 = i then some (k, q.2) else mv_find i r (k + 1)
theorem mv_find_at {i : Nat} : ∀ (l : List (Nat × Value)) (k j : Nat) (v : Value), mv_find i l k = some (j, v) → k ≤ j ∧ l[j - k]? = some (i, v)
  | [], _, _, _, h => by cases h
  | q :: r, k, j, v, h => by
    unfold mv_find at h
    split at h
    · rename_i e
      cases h
      exact ⟨Nat.le_refl _, by simp [← e]⟩
    · obtain ⟨h1, h2⟩ := mv_find_at r (k + 1) j v h
      refine ⟨by omega, ?_⟩
      rw [show j - k = (j - (k + 1)) + 1 by omega, List.getElem?_cons_succ]
      exact h2
def mv_keep (i : Nat) (l : List (Nat × Value)) : List (Nat × Value) := l.filter (fun q => !(q.1 == i) && !(q.1 + 1 == i && q.2.category == 2))
def mv_int : Value → Bool
  | .int _ => true
  | _ => false
def mv_rfv : Value → Bool
  | .ref _ => true
  | .null => true
  | _ => false
def mv_one (b : Value → Bool) (v : Value) : Bool := b v
section
variable (G : mv_G) (y pc : Nat) (l : List (Nat × Value)) (st : List Value) (hp : List va_E) (cb sb : Nat)
def mv_load (i len : Nat) (b : Value → Bool) : Option mv_R := match mv_find i l 0 with
  | some (_, v) => if b v = true then some (.inl (pc + len, l, v :: st, hp, cb, sb)) else none
  | none => none
def mv_store (i len : Nat) (b : Value → Bool) : Option mv_R := match st with
  | v :: r => if b v = true ∧ i < mv_gL G y then some (.inl (pc + len, (i, v) :: mv_keep i l, r, hp, cb, sb)) else none
  | [] => none
def mv_inc (i : Nat) (n : Int) (len : Nat) : Option mv_R := match mv_find i l 0 with
  | some (_, .int x) => if i < mv_gL G y then some (.inl (pc + len, (i, .int (x + Int32.ofInt n)) :: mv_keep i l, st, hp, cb, sb)) else none
  | _ => none
def mv_bin (f : Int32 → Int32 → Int32) : Option mv_R := match st with
  | .int b :: .int a :: r => some (.inl (pc + 1, l, .int (f a b) :: r, hp, cb, sb))
  | _ => none
def mv_dvd (f : Int32 → Int32 → Int32) : Option mv_R := match st with
  | .int b :: .int a :: r => if b = 0 then none else some (.inl (pc + 1, l, .int (f a b) :: r, hp, cb, sb))
  | _ => none
def mv_un (f : Int32 → Int32) : Option mv_R := match st with
  | .int a :: r => some (.inl (pc + 1, l, .int (f a) :: r, hp, cb, sb))
  | _ => none
def mv_cond : Jvm.ClassFile.Cond → Int32 → Int32 → Bool
  | .eq, a, b => decide (a = b)
  | .ne, a, b => decide (¬ a = b)
  | .lt, a, b => decide (a < b)
  | .ge, a, b => decide (b ≤ a)
  | .gt, a, b => decide (b < a)
  | .le, a, b => decide (a ≤ b)
def mv_jump (off : Int) (c : Bool) (r : List Value) : Option mv_R := match mv_tgt pc off with
  | some t => some (.inl (if c = true then t else pc + 3, l, r, hp, cb, sb))
  | none => none
def mv_if (c : Jvm.ClassFile.Cond) (off : Int) : Option mv_R := match st with
  | .int a :: r => mv_jump pc l hp cb sb off (mv_cond c a 0) r
  | _ => none
def mv_icmp (c : Jvm.ClassFile.Cond) (off : Int) : Option mv_R := match st with
  | .int b :: .int a :: r => mv_jump pc l hp cb sb off (mv_cond c a b) r
  | _ => none
/-- a reference that is no constant of text, or null -/
def mv_ptr : Value → Option (Option Nat)
  | .null => some none
  | .ref a => if a < mv_big then some (some a) else none
  | _ => none
def mv_acmp (c : ACond) (off : Int) : Option mv_R := match st with
  | b :: a :: r => match mv_ptr a, mv_ptr b with
    | some x, some z => mv_jump pc l hp cb sb off (match c with | .eq => decide (x = z) | .ne => decide (¬ x = z)) r
    | _, _ => none
  | _ => none
def mv_ifn (n : Bool) (off : Int) : Option mv_R := match st with
  | .null :: r => mv_jump pc l hp cb sb off n r
  | .ref _ :: r => mv_jump pc l hp cb sb off (!n) r
  | _ => none
def mv_push (len : Nat) (v : Value) : Option mv_R := some (.inl (pc + len, l, v :: st, hp, cb, sb))
def mv_dup : Option mv_R := match st with
  | v :: r => if v.category = 1 then some (.inl (pc + 1, l, v :: v :: r, hp, cb, sb)) else none
  | _ => none
def mv_pop : Option mv_R := match st with
  | v :: r => if v.category = 1 then some (.inl (pc + 1, l, r, hp, cb, sb)) else none
  | _ => none
def mv_dupx : Option mv_R := match st with
  | v :: w :: r => if v.category = 1 ∧ w.category = 1 then some (.inl (pc + 1, l, v :: w :: v :: r, hp, cb, sb)) else none
  | _ => none
def mv_dup2 : Option mv_R := match st with
  | v :: w :: r => if v.category = 1 ∧ w.category = 1 then some (.inl (pc + 1, l, v :: w :: v :: w :: r, hp, cb, sb)) else none
  | _ => none
def mv_tsw (dflt lo hi : Int) (offs : Array Int) : Option mv_R := match st with
  | .int x :: r => if x.toInt < lo ∨ hi < x.toInt then match mv_tgt pc dflt with
      | some t => some (.inl (t, l, r, hp, cb, sb))
      | none => none
    else match offs[(x.toInt - lo).toNat]? with
      | some off => match mv_tgt pc off with
        | some t => some (.inl (t, l, r, hp, cb, sb))
        | none => none
      | none => none
  | _ => none
def mv_lsw (dflt : Int) (ps : Array (Int × Int)) : Option mv_R := match st with
  | .int x :: r => if (ps.toList.zip (ps.toList.drop 1)).all (fun (a, next) => a.1 < next.1) = true then match mv_tgt pc (Op.lookupswitch.offset ps.toList dflt x.toInt) with
      | some t => some (.inl (t, l, r, hp, cb, sb))
      | none => none
    else none
  | _ => none
end
def mv_f_iadd (a b : Int32) : Int32 := a + b
def mv_f_isub (a b : Int32) : Int32 := a - b
def mv_f_imul (a b : Int32) : Int32 := a * b
def mv_f_iand (a b : Int32) : Int32 := a &&& b
def mv_f_ior (a b : Int32) : Int32 := a ||| b
def mv_f_ixor (a b : Int32) : Int32 := a ^^^ b
def mv_f_ishl (a b : Int32) : Int32 := a <<< (b &&& 31)
def mv_f_ishr (a b : Int32) : Int32 := a >>> (b &&& 31)
def mv_f_iushr (a b : Int32) : Int32 := (a.toUInt32 >>> (b.toUInt32 &&& Int32.toUInt32 31)).toInt32
def mv_f_idiv (a b : Int32) : Int32 := a / b
def mv_f_irem (a b : Int32) : Int32 := a - a / b * b
def mv_f_ineg (a : Int32) : Int32 := -a
def mv_f_i2b (a : Int32) : Int32 := a.toInt8.toInt32
def mv_f_i2c (a : Int32) : Int32 := (a.toUInt32 % 65536).toInt32
end
section
/-! rows of the small machine over the real one: what it holds there, and the instructions that leave the heap alone -/
def mv_ad (base : Nat) (kt : Nat → Nat) (a : Nat) : Nat := if a < mv_big then base + a else kt (a - mv_big)
def mv_v (ad : Nat → Nat) : Value → Value
  | .ref a => .ref (ad a)
  | v => v
def mv_l (ad : Nat → Nat) (l : List (Nat × Value)) : List (Nat × Value) := l.map (fun q => (q.1, mv_v ad q.2))
def mv_e (ad dA : Nat → Nat) : va_E → va_E
  | .inl (t, n, .inl f) => .inl (dA t, n, .inl f)
  | .inl (t, n, .inr (.inl f)) => .inl (dA t, n, .inr (.inl f))
  | .inl (t, n, .inr (.inr (.inl f))) => .inl (dA t, n, .inr (.inr (.inl f)))
  | .inl (t, n, .inr (.inr (.inr (.inl f)))) => .inl (dA t, n, .inr (.inr (.inr (.inl f))))
  | .inl (t, n, .inr (.inr (.inr (.inr g)))) => .inl (dA t, n, .inr (.inr (.inr (.inr (fun i => (g i).map ad)))))
  | .inr (c, fs) => .inr (c, fs.map (mv_v ad))
def mv_w (ad dA : Nat → Nat) : Nat → List va_E → va_W
  | _, [] => []
  | k, e :: r => (ad k, mv_e ad dA e) :: mv_w ad dA (k + 1) r
theorem mv_v_cat (ad : Nat → Nat) (v : Value) : (mv_v ad v).category = v.category := by cases v <;> rfl
theorem mv_keep_l (ad : Nat → Nat) (i : Nat) : ∀ l : List (Nat × Value), mv_l ad (mv_keep i l) = mv_keep i (mv_l ad l)
  | [] => rfl
  | q :: r => by
    have ih := mv_keep_l ad i r
    unfold mv_l mv_keep at ih ⊢
    rw [List.filter_cons, List.map_cons, List.filter_cons]
    simp only [mv_v_cat]
    split
    · rw [List.map_cons, ih]
    · exact ih
theorem mv_l_at {ad : Nat → Nat} {l : List (Nat × Value)} {k i : Nat} {v : Value} (h : l[k]? = some (i, v)) : (mv_l ad l)[k]? = some (i, mv_v ad v) := by
  unfold mv_l
  rw [List.getElem?_map, h]
  rfl
theorem mv_w_at {ad dA : Nat → Nat} : ∀ (hp : List va_E) (n k : Nat) (e : va_E), hp[k]? = some e → (mv_w ad dA n hp)[k]? = some (ad (n + k), mv_e ad dA e)
  | [], _, _, _, h => by simp at h
  | _ :: _, n, 0, _, h => by
    cases h
    rfl
  | _ :: r, n, k + 1, e, h => by
    have := mv_w_at (ad := ad) (dA := dA) r (n + 1) k e h
    rw [show n + (k + 1) = n + 1 + k by omega]
    exact this
theorem mv_w_len (ad dA : Nat → Nat) : ∀ (hp : List va_E) (n : Nat), (mv_w ad dA n hp).length = hp.length
  | [], _ => rfl
  | _ :: r, n => congrArg (· + 1) (mv_w_len ad dA r (n + 1))
theorem mv_w_of {ad dA : Nat → Nat} {hp : List va_E} {n k : Nat} {q : Nat × va_E} (h : (mv_w ad dA n hp)[k]? = some q) : ∃ e, hp[k]? = some e ∧ q = (ad (n + k), mv_e ad dA e) := by
  have hk : k < hp.length := by
    rw [← mv_w_len ad dA hp n]
    exact (List.getElem?_eq_some_iff.mp h).1
  have h1 : hp[k]? = some hp[k] := List.getElem?_eq_getElem hk
  refine ⟨_, h1, ?_⟩
  rw [mv_w_at hp n k _ h1] at h
  exact (Option.some.inj h).symm
theorem mv_w_set {ad dA : Nat → Nat} : ∀ (hp : List va_E) (n k : Nat) (e : va_E), (mv_w ad dA n hp).set k (ad (n + k), mv_e ad dA e) = mv_w ad dA n (hp.set k e)
  | [], _, _, _ => rfl
  | _ :: _, n, 0, _ => rfl
  | _ :: r, n, k + 1, e => by
    have := mv_w_set (ad := ad) (dA := dA) r (n + 1) k e
    rw [show n + (k + 1) = n + 1 + k by omega]
    exact congrArg (List.cons _) this
theorem mv_w_app {ad dA : Nat → Nat} : ∀ (hp : List va_E) (n : Nat) (r : List va_E), mv_w ad dA n (hp ++ r) = mv_w ad dA n hp ++ mv_w ad dA (n + hp.length) r
  | [], _, _ => rfl
  | _ :: q, n, r => by
    have := mv_w_app (ad := ad) (dA := dA) q (n + 1) r
    rw [List.length_cons, show n + (q.length + 1) = n + 1 + q.length by omega]
    exact congrArg (List.cons _) this
/-- what holds where the small machine stands at S: base: the address of its pointer 0 -/
def mv_inv (base : Nat) (ad dA : Nat → Nat) (D : va_G) (cl : List vw_C) (nL : Nat) (R : Room) (s : State) (S : mv_S) (H : Heap) (ls : Array Slot) (locs : List Loc) (cells slots : Nat) : Prop :=
  lv_has ls nL (mv_l ad S.2.1) ∧ va_P D cl (mv_w ad dA 0 S.2.2.2.1) H ∧ H.size = base + S.2.2.2.1.length ∧ va_S (fun q => base ≤ q) s.heap H locs ∧ cells + S.2.2.2.2.1 ≤ R.cells ∧ slots + S.2.2.2.2.2 ≤ R.slots ∧ S.2.2.2.1.length + S.2.2.2.2.1 ≤ mv_big
/-- the real machine goes on well from every place at which the small one stands at S -/
def mv_K (base : Nat) (ad dA : Nat → Nat) (D : va_G) (cl : List vw_C) (nL : Nat) (p : Program) (l : Launch) (e : Env) (R : Room) (s : State) (m : MethodId) (args : Array Value) (below : List Frame) (meth : Method) (c : Code) (Q : State → Prop) (S : mv_S) : Prop :=
  ∀ (H : Heap) (ls : Array Slot) (locs : List Loc) (cells slots : Nat), mv_inv base ad dA D cl nL R s S H ls locs cells slots → W p l e R s m args below meth c H locs cells slots Q (F0 m S.1 ls (S.2.2.1.map (mv_v ad)))
theorem mv_inv_st {base : Nat} {ad dA : Nat → Nat} {D : va_G} {cl : List vw_C} {nL : Nat} {R : Room} {s : State} {pc pc' i cb sb : Nat} {lo : List (Nat × Value)} {st st' : List Value} {hp : List va_E} {H : Heap} {ls ls' : Array Slot} {locs : List Loc} {cells slots : Nat} {v w : Value} (hl : lv_has ls' nL ((i, w) :: mv_keep i (mv_l ad lo))) (I : mv_inv base ad dA D cl nL R s (pc, lo, st, hp, cb, sb) H ls locs cells slots) (hw : w = mv_v ad v := by rfl) : mv_inv base ad dA D cl nL R s (pc', (i, v) :: mv_keep i lo, st', hp, cb, sb) H ls' locs cells slots := by
  refine ⟨?_, I.2⟩
  show lv_has ls' nL ((i, mv_v ad v) :: mv_l ad (mv_keep i lo))
  rw [mv_keep_l, ← hw]
  exact hl
section MVR
variable {base : Nat} {ad dA : Nat → Nat} {D : va_G} {cl : List vw_C} {nL : Nat} {p : Program} {l : Launch} {e : Env} {R : Room} {s : State} {m : MethodId} {args : Array Value} {below : List Frame} {meth : Method} {c : Code} {Q : State → Prop} {cc : ByteArray} {G : mv_G} {y pc : Nat} {lo : List (Nat × Value)} {st : List Value} {hp : List va_E} {cb sb : Nat} {S : mv_S}
theorem mr_iload (hx : p.tables.exec = Jvm.exec) (hb : c.code = cc) {i : Nat} (hdg : decode cc pc = .ok (.iload i, 2)) (h : mv_load pc lo st hp cb sb i 2 mv_int = some (.inl S)) (k : mv_K base ad dA D cl nL p l e R s m args below meth c Q S) : mv_K base ad dA D cl nL p l e R s m args below meth c Q (pc, lo, st, hp, cb, sb) := by
  intro H ls locs cells slots I
  unfold mv_load at h
  split at h
  · rename_i j v hf
    split at h
    · rename_i hv
      cases h
      cases v <;> simp [mv_int] at hv
      obtain ⟨-, h2⟩ := mv_find_at _ _ _ _ hf
      exact lv_iload hx hb hdg (lv_at I.1 _ (mv_l_at h2)) (k H ls locs cells slots I)
    · cases h
  · cases h
theorem mr_iload_n (hx : p.tables.exec = Jvm.exec) (hb : c.code = cc) {i : Fin 4} (hdg : decode cc pc = .ok (.iload_n i, 1)) (h : mv_load pc lo st hp cb sb i 1 mv_int = some (.inl S)) (k : mv_K base ad dA D cl nL p l e R s m args below meth c Q S) : mv_K base ad dA D cl nL p l e R s m args below meth c Q (pc, lo, st, hp, cb, sb) := by
  intro H ls locs cells slots I
  unfold mv_load at h
  split at h
  · rename_i j v hf
    split at h
    · rename_i hv
      cases h
      cases v <;> simp [mv_int] at hv
      obtain ⟨-, h2⟩ := mv_find_at _ _ _ _ hf
      exact lv_iload_n hx hb hdg rfl (lv_at I.1 _ (mv_l_at h2)) (k H ls locs cells slots I)
    · cases h
  · cases h
theorem mr_aload (hx : p.tables.exec = Jvm.exec) (hb : c.code = cc) {i : Nat} (hdg : decode cc pc = .ok (.aload i, 2)) (h : mv_load pc lo st hp cb sb i 2 mv_rfv = some (.inl S)) (k : mv_K base ad dA D cl nL p l e R s m args below meth c Q S) : mv_K base ad dA D cl nL p l e R s m args below meth c Q (pc, lo, st, hp, cb, sb) := by
  intro H ls locs cells slots I
  unfold mv_load at h
  split at h
  · rename_i j v hf
    split at h
    · rename_i hv
      cases h
      obtain ⟨-, h2⟩ := mv_find_at _ _ _ _ hf
      cases v <;> simp [mv_rfv] at hv
      · exact lv_aloadN hx hb hdg (lv_at I.1 _ (mv_l_at h2)) (k H ls locs cells slots I)
      · exact lv_aload hx hb hdg (lv_at I.1 _ (mv_l_at h2)) (k H ls locs cells slots I)
    · cases h
  · cases h
theorem mr_aload_n (hx : p.tables.exec = Jvm.exec) (hb : c.code = cc) {i : Fin 4} (hdg : decode cc pc = .ok (.aload_n i, 1)) (h : mv_load pc lo st hp cb sb i 1 mv_rfv = some (.inl S)) (k : mv_K base ad dA D cl nL p l e R s m args below meth c Q S) : mv_K base ad dA D cl nL p l e R s m args below meth c Q (pc, lo, st, hp, cb, sb) := by
  intro H ls locs cells slots I
  unfold mv_load at h
  split at h
  · rename_i j v hf
    split at h
    · rename_i hv
      cases h
      obtain ⟨-, h2⟩ := mv_find_at _ _ _ _ hf
      cases v <;> simp [mv_rfv] at hv
      · exact lv_aload_nN hx hb hdg rfl (lv_at I.1 _ (mv_l_at h2)) (k H ls locs cells slots I)
      · exact lv_aload_n hx hb hdg rfl (lv_at I.1 _ (mv_l_at h2)) (k H ls locs cells slots I)
    · cases h
  · cases h
theorem mr_istore (hx : p.tables.exec = Jvm.exec) (hb : c.code = cc) (hn : mv_gL G y = nL) {i : Nat} (hdg : decode cc pc = .ok (.istore i, 2)) (h : mv_store G y pc lo st hp cb sb i 2 mv_int = some (.inl S)) (k : mv_K base ad dA D cl nL p l e R s m args below meth c Q S) : mv_K base ad dA D cl nL p l e R s m args below meth c Q (pc, lo, st, hp, cb, sb) := by
  intro H ls locs cells slots I
  unfold mv_store at h
  split at h
  · rename_i v r
    split at h
    · rename_i hv
      cases h
      cases v <;> simp [mv_int] at hv
      exact lv_istore hx hb hdg I.1 (by omega) rfl (fun ls' hl' => k H ls' locs cells slots (mv_inv_st hl' I))
    · cases h
  · cases h
theorem mr_istore_n (hx : p.tables.exec = Jvm.exec) (hb : c.code = cc) (hn : mv_gL G y = nL) {i : Fin 4} (hdg : decode cc pc = .ok (.istore_n i, 1)) (h : mv_store G y pc lo st hp cb sb i 1 mv_int = some (.inl S)) (k : mv_K base ad dA D cl nL p l e R s m args below meth c Q S) : mv_K base ad dA D cl nL p l e R s m args below meth c Q (pc, lo, st, hp, cb, sb) := by
  intro H ls locs cells slots I
  unfold mv_store at h
  split at h
  · rename_i v r
    split at h
    · rename_i hv
      cases h
      cases v <;> simp [mv_int] at hv
      exact lv_istore_n hx hb hdg rfl I.1 (by omega) rfl (fun ls' hl' => k H ls' locs cells slots (mv_inv_st hl' I))
    · cases h
  · cases h
theorem mr_astore (hx : p.tables.exec = Jvm.exec) (hb : c.code = cc) (hn : mv_gL G y = nL) {i : Nat} (hdg : decode cc pc = .ok (.astore i, 2)) (h : mv_store G y pc lo st hp cb sb i 2 mv_rfv = some (.inl S)) (k : mv_K base ad dA D cl nL p l e R s m args below meth c Q S) : mv_K base ad dA D cl nL p l e R s m args below meth c Q (pc, lo, st, hp, cb, sb) := by
  intro H ls locs cells slots I
  unfold mv_store at h
  split at h
  · rename_i v r
    split at h
    · rename_i hv
      cases h
      cases v <;> simp [mv_rfv] at hv
      · exact lv_astoreN hx hb hdg I.1 (by omega) rfl (fun ls' hl' => k H ls' locs cells slots (mv_inv_st hl' I))
      · exact lv_astore hx hb hdg I.1 (by omega) rfl (fun ls' hl' => k H ls' locs cells slots (mv_inv_st hl' I))
    · cases h
  · cases h
theorem mr_astore_n (hx : p.tables.exec = Jvm.exec) (hb : c.code = cc) (hn : mv_gL G y = nL) {i : Fin 4} (hdg : decode cc pc = .ok (.astore_n i, 1)) (h : mv_store G y pc lo st hp cb sb i 1 mv_rfv = some (.inl S)) (k : mv_K base ad dA D cl nL p l e R s m args below meth c Q S) : mv_K base ad dA D cl nL p l e R s m args below meth c Q (pc, lo, st, hp, cb, sb) := by
  intro H ls locs cells slots I
  unfold mv_store at h
  split at h
  · rename_i v r
    split at h
    · rename_i hv
      cases h
      cases v <;> simp [mv_rfv] at hv
      · exact lv_astore_nN hx hb hdg rfl I.1 (by omega) rfl (fun ls' hl' => k H ls' locs cells slots (mv_inv_st hl' I))
      · exact lv_astore_n hx hb hdg rfl I.1 (by omega) rfl (fun ls' hl' => k H ls' locs cells slots (mv_inv_st hl' I))
    · cases h
  · cases h
theorem mr_inc (hx : p.tables.exec = Jvm.exec) (hb : c.code = cc) (hn : mv_gL G y = nL) {i : Nat} {n : Int} (hdg : decode cc pc = .ok (.iinc i n, 3)) (h : mv_inc G y pc lo st hp cb sb i n 3 = some (.inl S)) (k : mv_K base ad dA D cl nL p l e R s m args below meth c Q S) : mv_K base ad dA D cl nL p l e R s m args below meth c Q (pc, lo, st, hp, cb, sb) := by
  intro H ls locs cells slots I
  unfold mv_inc at h
  split at h
  · rename_i j x hf
    split at h
    · rename_i hv
      cases h
      obtain ⟨-, h2⟩ := mv_find_at _ _ _ _ hf
      exact lv_iinc hx hb hdg I.1 (mv_l_at h2) rfl (by omega) rfl (fun ls' hl' => k H ls' locs cells slots (mv_inv_st hl' I))
    · cases h
  · cases h
theorem mr_incW (hx : p.tables.exec = Jvm.exec) (hb : c.code = cc) (hn : mv_gL G y = nL) {i : Nat} {n : Int} (hdg : decode cc pc = .ok (.iinc i n, 6)) (h : mv_inc G y pc lo st hp cb sb i n 6 = some (.inl S)) (k : mv_K base ad dA D cl nL p l e R s m args below meth c Q S) : mv_K base ad dA D cl nL p l e R s m args below meth c Q (pc, lo, st, hp, cb, sb) := by
  intro H ls locs cells slots I
  unfold mv_inc at h
  split at h
  · rename_i j x hf
    split at h
    · rename_i hv
      cases h
      obtain ⟨-, h2⟩ := mv_find_at _ _ _ _ hf
      exact lv_iincW hx hb hdg I.1 (mv_l_at h2) rfl (by omega) rfl (fun ls' hl' => k H ls' locs cells slots (mv_inv_st hl' I))
    · cases h
  · cases h
end MVR
end
section
/-! rows of the small machine: numbers, the stack, jumps -/
section MVN
variable {base : Nat} {ad dA : Nat → Nat} {D : va_G} {cl : List vw_C} {nL : Nat} {p : Program} {l : Launch} {e : Env} {R : Room} {s : State} {m : MethodId} {args : Array Value} {below : List Frame} {meth : Method} {c : Code} {Q : State → Prop} {cc : ByteArray} {G : mv_G} {y pc : Nat} {lo : List (Nat × Value)} {st : List Value} {hp : List va_E} {cb sb : Nat} {S : mv_S}
theorem mr_iadd (hx : p.tables.exec = Jvm.exec) (hb : c.code = cc) (hdg : decode cc pc = .ok (.iadd, 1)) (h : mv_bin pc lo st hp cb sb mv_f_iadd = some (.inl S)) (k : mv_K base ad dA D cl nL p l e R s m args below meth c Q S) : mv_K base ad dA D cl nL p l e R s m args below meth c Q (pc, lo, st, hp, cb, sb) := by
  intro H ls locs cells slots I
  unfold mv_bin at h
  split at h
  · cases h
    exact lv_iadd hx hb hdg (k H ls locs cells slots I)
  · cases h
theorem mr_isub (hx : p.tables.exec = Jvm.exec) (hb : c.code = cc) (hdg : decode cc pc = .ok (.isub, 1)) (h : mv_bin pc lo st hp cb sb mv_f_isub = some (.inl S)) (k : mv_K base ad dA D cl nL p l e R s m args below meth c Q S) : mv_K base ad dA D cl nL p l e R s m args below meth c Q (pc, lo, st, hp, cb, sb) := by
  intro H ls locs cells slots I
  unfold mv_bin at h
  split at h
  · cases h
    exact lv_isub hx hb hdg (k H ls locs cells slots I)
  · cases h
theorem mr_imul (hx : p.tables.exec = Jvm.exec) (hb : c.code = cc) (hdg : decode cc pc = .ok (.imul, 1)) (h : mv_bin pc lo st hp cb sb mv_f_imul = some (.inl S)) (k : mv_K base ad dA D cl nL p l e R s m args below meth c Q S) : mv_K base ad dA D cl nL p l e R s m args below meth c Q (pc, lo, st, hp, cb, sb) := by
  intro H ls locs cells slots I
  unfold mv_bin at h
  split at h
  · cases h
    exact lv_imul hx hb hdg (k H ls locs cells slots I)
  · cases h
theorem mr_iand (hx : p.tables.exec = Jvm.exec) (hb : c.code = cc) (hdg : decode cc pc = .ok (.iand, 1)) (h : mv_bin pc lo st hp cb sb mv_f_iand = some (.inl S)) (k : mv_K base ad dA D cl nL p l e R s m args below meth c Q S) : mv_K base ad dA D cl nL p l e R s m args below meth c Q (pc, lo, st, hp, cb, sb) := by
  intro H ls locs cells slots I
  unfold mv_bin at h
  split at h
  · cases h
    exact lv_iand hx hb hdg (k H ls locs cells slots I)
  · cases h
theorem mr_ior (hx : p.tables.exec = Jvm.exec) (hb : c.code = cc) (hdg : decode cc pc = .ok (.ior, 1)) (h : mv_bin pc lo st hp cb sb mv_f_ior = some (.inl S)) (k : mv_K base ad dA D cl nL p l e R s m args below meth c Q S) : mv_K base ad dA D cl nL p l e R s m args below meth c Q (pc, lo, st, hp, cb, sb) := by
  intro H ls locs cells slots I
  unfold mv_bin at h
  split at h
  · cases h
    exact lv_ior hx hb hdg (k H ls locs cells slots I)
  · cases h
theorem mr_ixor (hx : p.tables.exec = Jvm.exec) (hb : c.code = cc) (hdg : decode cc pc = .ok (.ixor, 1)) (h : mv_bin pc lo st hp cb sb mv_f_ixor = some (.inl S)) (k : mv_K base ad dA D cl nL p l e R s m args below meth c Q S) : mv_K base ad dA D cl nL p l e R s m args below meth c Q (pc, lo, st, hp, cb, sb) := by
  intro H ls locs cells slots I
  unfold mv_bin at h
  split at h
  · cases h
    exact lv_ixor hx hb hdg (k H ls locs cells slots I)
  · cases h
theorem mr_ishl (hx : p.tables.exec = Jvm.exec) (hb : c.code = cc) (hdg : decode cc pc = .ok (.ishl, 1)) (h : mv_bin pc lo st hp cb sb mv_f_ishl = some (.inl S)) (k : mv_K base ad dA D cl nL p l e R s m args below meth c Q S) : mv_K base ad dA D cl nL p l e R s m args below meth c Q (pc, lo, st, hp, cb, sb) := by
  intro H ls locs cells slots I
  unfold mv_bin at h
  split at h
  · cases h
    exact lv_ishl hx hb hdg (k H ls locs cells slots I)
  · cases h
theorem mr_ishr (hx : p.tables.exec = Jvm.exec) (hb : c.code = cc) (hdg : decode cc pc = .ok (.ishr, 1)) (h : mv_bin pc lo st hp cb sb mv_f_ishr = some (.inl S)) (k : mv_K base ad dA D cl nL p l e R s m args below meth c Q S) : mv_K base ad dA D cl nL p l e R s m args below meth c Q (pc, lo, st, hp, cb, sb) := by
  intro H ls locs cells slots I
  unfold mv_bin at h
  split at h
  · cases h
    exact lv_ishr hx hb hdg (k H ls locs cells slots I)
  · cases h
theorem mr_iushr (hx : p.tables.exec = Jvm.exec) (hb : c.code = cc) (hdg : decode cc pc = .ok (.iushr, 1)) (h : mv_bin pc lo st hp cb sb mv_f_iushr = some (.inl S)) (k : mv_K base ad dA D cl nL p l e R s m args below meth c Q S) : mv_K base ad dA D cl nL p l e R s m args below meth c Q (pc, lo, st, hp, cb, sb) := by
  intro H ls locs cells slots I
  unfold mv_bin at h
  split at h
  · cases h
    exact lv_iushr hx hb hdg rfl (k H ls locs cells slots I)
  · cases h
theorem mr_idiv (hx : p.tables.exec = Jvm.exec) (hb : c.code = cc) (hdg : decode cc pc = .ok (.idiv, 1)) (h : mv_dvd pc lo st hp cb sb mv_f_idiv = some (.inl S)) (k : mv_K base ad dA D cl nL p l e R s m args below meth c Q S) : mv_K base ad dA D cl nL p l e R s m args below meth c Q (pc, lo, st, hp, cb, sb) := by
  intro H ls locs cells slots I
  unfold mv_dvd at h
  split at h
  · split at h
    · cases h
    · rename_i hne
      cases h
      exact lv_idiv hx hb hdg hne (k H ls locs cells slots I)
  · cases h
theorem mr_irem (hx : p.tables.exec = Jvm.exec) (hb : c.code = cc) (hdg : decode cc pc = .ok (.irem, 1)) (h : mv_dvd pc lo st hp cb sb mv_f_irem = some (.inl S)) (k : mv_K base ad dA D cl nL p l e R s m args below meth c Q S) : mv_K base ad dA D cl nL p l e R s m args below meth c Q (pc, lo, st, hp, cb, sb) := by
  intro H ls locs cells slots I
  unfold mv_dvd at h
  split at h
  · split at h
    · cases h
    · rename_i hne
      cases h
      exact lv_irem hx hb hdg hne (k H ls locs cells slots I)
  · cases h
theorem mr_ineg (hx : p.tables.exec = Jvm.exec) (hb : c.code = cc) (hdg : decode cc pc = .ok (.ineg, 1)) (h : mv_un pc lo st hp cb sb mv_f_ineg = some (.inl S)) (k : mv_K base ad dA D cl nL p l e R s m args below meth c Q S) : mv_K base ad dA D cl nL p l e R s m args below meth c Q (pc, lo, st, hp, cb, sb) := by
  intro H ls locs cells slots I
  unfold mv_un at h
  split at h
  · cases h
    exact lv_ineg hx hb hdg (k H ls locs cells slots I)
  · cases h
theorem mr_i2b (hx : p.tables.exec = Jvm.exec) (hb : c.code = cc) (hdg : decode cc pc = .ok (.i2b, 1)) (h : mv_un pc lo st hp cb sb mv_f_i2b = some (.inl S)) (k : mv_K base ad dA D cl nL p l e R s m args below meth c Q S) : mv_K base ad dA D cl nL p l e R s m args below meth c Q (pc, lo, st, hp, cb, sb) := by
  intro H ls locs cells slots I
  unfold mv_un at h
  split at h
  · cases h
    exact lv_i2b hx hb hdg rfl (k H ls locs cells slots I)
  · cases h
theorem mr_i2c (hx : p.tables.exec = Jvm.exec) (hb : c.code = cc) (hdg : decode cc pc = .ok (.i2c, 1)) (h : mv_un pc lo st hp cb sb mv_f_i2c = some (.inl S)) (k : mv_K base ad dA D cl nL p l e R s m args below meth c Q S) : mv_K base ad dA D cl nL p l e R s m args below meth c Q (pc, lo, st, hp, cb, sb) := by
  intro H ls locs cells slots I
  unfold mv_un at h
  split at h
  · cases h
    exact lv_i2c hx hb hdg rfl (k H ls locs cells slots I)
  · cases h
theorem mr_iconst (hx : p.tables.exec = Jvm.exec) (hb : c.code = cc) {n : Int} (hdg : decode cc pc = .ok (.iconst n, 1)) (h : mv_push pc lo st hp cb sb 1 (.int (Int32.ofInt n)) = some (.inl S)) (k : mv_K base ad dA D cl nL p l e R s m args below meth c Q S) : mv_K base ad dA D cl nL p l e R s m args below meth c Q (pc, lo, st, hp, cb, sb) := by
  intro H ls locs cells slots I
  cases h
  exact lv_iconst hx hb hdg rfl (k H ls locs cells slots I)
theorem mr_bipush (hx : p.tables.exec = Jvm.exec) (hb : c.code = cc) {n : Int} (hdg : decode cc pc = .ok (.bipush n, 2)) (h : mv_push pc lo st hp cb sb 2 (.int ((Int8.ofInt n).toInt32)) = some (.inl S)) (k : mv_K base ad dA D cl nL p l e R s m args below meth c Q S) : mv_K base ad dA D cl nL p l e R s m args below meth c Q (pc, lo, st, hp, cb, sb) := by
  intro H ls locs cells slots I
  cases h
  exact lv_bipush hx hb hdg rfl (k H ls locs cells slots I)
theorem mr_sipush (hx : p.tables.exec = Jvm.exec) (hb : c.code = cc) {n : Int} (hdg : decode cc pc = .ok (.sipush n, 3)) (h : mv_push pc lo st hp cb sb 3 (.int ((Int16.ofInt n).toInt32)) = some (.inl S)) (k : mv_K base ad dA D cl nL p l e R s m args below meth c Q S) : mv_K base ad dA D cl nL p l e R s m args below meth c Q (pc, lo, st, hp, cb, sb) := by
  intro H ls locs cells slots I
  cases h
  exact lv_sipush hx hb hdg rfl (k H ls locs cells slots I)
theorem mr_null (hx : p.tables.exec = Jvm.exec) (hb : c.code = cc) (hdg : decode cc pc = .ok (.aconst_null, 1)) (h : mv_push pc lo st hp cb sb 1 .null = some (.inl S)) (k : mv_K base ad dA D cl nL p l e R s m args below meth c Q S) : mv_K base ad dA D cl nL p l e R s m args below meth c Q (pc, lo, st, hp, cb, sb) := by
  intro H ls locs cells slots I
  cases h
  exact lv_null hx hb hdg (k H ls locs cells slots I)
theorem mr_dup (hx : p.tables.exec = Jvm.exec) (hb : c.code = cc) (hdg : decode cc pc = .ok (.dup, 1)) (h : mv_dup pc lo st hp cb sb = some (.inl S)) (k : mv_K base ad dA D cl nL p l e R s m args below meth c Q S) : mv_K base ad dA D cl nL p l e R s m args below meth c Q (pc, lo, st, hp, cb, sb) := by
  intro H ls locs cells slots I
  unfold mv_dup at h
  split at h
  · split at h
    · rename_i hv
      cases h
      exact lv_dup hx hb hdg (by rw [mv_v_cat]; exact hv) (k H ls locs cells slots I)
    · cases h
  · cases h
theorem mr_pop (hx : p.tables.exec = Jvm.exec) (hb : c.code = cc) (hdg : decode cc pc = .ok (.pop, 1)) (h : mv_pop pc lo st hp cb sb = some (.inl S)) (k : mv_K base ad dA D cl nL p l e R s m args below meth c Q S) : mv_K base ad dA D cl nL p l e R s m args below meth c Q (pc, lo, st, hp, cb, sb) := by
  intro H ls locs cells slots I
  unfold mv_pop at h
  split at h
  · split at h
    · rename_i hv
      cases h
      exact lv_pop hx hb hdg (by rw [mv_v_cat]; exact hv) (k H ls locs cells slots I)
    · cases h
  · cases h
theorem mr_dup_x1 (hx : p.tables.exec = Jvm.exec) (hb : c.code = cc) (hdg : decode cc pc = .ok (.dup_x1, 1)) (h : mv_dupx pc lo st hp cb sb = some (.inl S)) (k : mv_K base ad dA D cl nL p l e R s m args below meth c Q S) : mv_K base ad dA D cl nL p l e R s m args below meth c Q (pc, lo, st, hp, cb, sb) := by
  intro H ls locs cells slots I
  unfold mv_dupx at h
  split at h
  · split at h
    · rename_i hv
      cases h
      exact lv_dup_x1 hx hb hdg (by rw [mv_v_cat]; exact hv.1) (by rw [mv_v_cat]; exact hv.2) (k H ls locs cells slots I)
    · cases h
  · cases h
theorem mr_dup2 (hx : p.tables.exec = Jvm.exec) (hb : c.code = cc) (hdg : decode cc pc = .ok (.dup2, 1)) (h : mv_dup2 pc lo st hp cb sb = some (.inl S)) (k : mv_K base ad dA D cl nL p l e R s m args below meth c Q S) : mv_K base ad dA D cl nL p l e R s m args below meth c Q (pc, lo, st, hp, cb, sb) := by
  intro H ls locs cells slots I
  unfold mv_dup2 at h
  split at h
  · split at h
    · rename_i hv
      cases h
      exact lv_dup2_11 hx hb hdg (by rw [mv_v_cat]; exact hv.1) (by rw [mv_v_cat]; exact hv.2) (k H ls locs cells slots I)
    · cases h
  · cases h
theorem mv_jump_s {off : Int} {r : List Value} {b : Bool} (h : mv_jump pc lo hp cb sb off b r = some (.inl S)) : ∃ t : Nat, (pc : Int) + off = (t : Int) ∧ (b = true → S = (t, lo, r, hp, cb, sb)) ∧ (b = false → S = (pc + 3, lo, r, hp, cb, sb)) := by
  unfold mv_jump at h
  split at h
  · rename_i t ht
    cases h
    exact ⟨t, mv_tgt_eq ht, fun e => by rw [e]; rfl, fun e => by rw [e]; rfl⟩
  · cases h
theorem mr_goto (hx : p.tables.exec = Jvm.exec) (hb : c.code = cc) {off : Int} (hdg : decode cc pc = .ok (.goto off, 3)) (h : mv_jump pc lo hp cb sb off true st = some (.inl S)) (k : mv_K base ad dA D cl nL p l e R s m args below meth c Q S) : mv_K base ad dA D cl nL p l e R s m args below meth c Q (pc, lo, st, hp, cb, sb) := by
  intro H ls locs cells slots I
  obtain ⟨t, ht, h1, -⟩ := mv_jump_s h
  obtain rfl := h1 rfl
  exact lv_goto hx hb hdg ht (k H ls locs cells slots I)
theorem mr_if_eq (hx : p.tables.exec = Jvm.exec) (hb : c.code = cc) {off : Int} (hdg : decode cc pc = .ok (.ifCond .eq off, 3)) (h : mv_if pc lo st hp cb sb .eq off = some (.inl S)) (k : mv_K base ad dA D cl nL p l e R s m args below meth c Q S) : mv_K base ad dA D cl nL p l e R s m args below meth c Q (pc, lo, st, hp, cb, sb) := by
  intro H ls locs cells slots I
  unfold mv_if at h
  split at h
  · rename_i a r
    obtain ⟨t, ht, h1, h2⟩ := mv_jump_s h
    exact lv_if_eq hx hb hdg ht (fun hP => by obtain rfl := h1 (by simp [mv_cond, hP]); exact k H ls locs cells slots I) (fun hP => by obtain rfl := h2 (by simp [mv_cond, hP]); exact k H ls locs cells slots I)
  · cases h
theorem mr_icmp_eq (hx : p.tables.exec = Jvm.exec) (hb : c.code = cc) {off : Int} (hdg : decode cc pc = .ok (.if_icmp .eq off, 3)) (h : mv_icmp pc lo st hp cb sb .eq off = some (.inl S)) (k : mv_K base ad dA D cl nL p l e R s m args below meth c Q S) : mv_K base ad dA D cl nL p l e R s m args below meth c Q (pc, lo, st, hp, cb, sb) := by
  intro H ls locs cells slots I
  unfold mv_icmp at h
  split at h
  · rename_i b a r
    obtain ⟨t, ht, h1, h2⟩ := mv_jump_s h
    exact lv_icmp_eq hx hb hdg ht (fun hP => by obtain rfl := h1 (by simp [mv_cond, hP]); exact k H ls locs cells slots I) (fun hP => by obtain rfl := h2 (by simp [mv_cond, hP]); exact k H ls locs cells slots I)
  · cases h
theorem mr_if_ne (hx : p.tables.exec = Jvm.exec) (hb : c.code = cc) {off : Int} (hdg : decode cc pc = .ok (.ifCond .ne off, 3)) (h : mv_if pc lo st hp cb sb .ne off = some (.inl S)) (k : mv_K base ad dA D cl nL p l e R s m args below meth c Q S) : mv_K base ad dA D cl nL p l e R s m args below meth c Q (pc, lo, st, hp, cb, sb) := by
  intro H ls locs cells slots I
  unfold mv_if at h
  split at h
  · rename_i a r
    obtain ⟨t, ht, h1, h2⟩ := mv_jump_s h
    exact lv_if_ne hx hb hdg ht (fun hP => by obtain rfl := h1 (by simp [mv_cond, hP]); exact k H ls locs cells slots I) (fun hP => by obtain rfl := h2 (by simp [mv_cond, hP]); exact k H ls locs cells slots I)
  · cases h
theorem mr_icmp_ne (hx : p.tables.exec = Jvm.exec) (hb : c.code = cc) {off : Int} (hdg : decode cc pc = .ok (.if_icmp .ne off, 3)) (h : mv_icmp pc lo st hp cb sb .ne off = some (.inl S)) (k : mv_K base ad dA D cl nL p l e R s m args below meth c Q S) : mv_K base ad dA D cl nL p l e R s m args below meth c Q (pc, lo, st, hp, cb, sb) := by
  intro H ls locs cells slots I
  unfold mv_icmp at h
  split at h
  · rename_i b a r
    obtain ⟨t, ht, h1, h2⟩ := mv_jump_s h
    exact lv_icmp_ne hx hb hdg ht (fun hP => by obtain rfl := h1 (by simp [mv_cond, hP]); exact k H ls locs cells slots I) (fun hP => by obtain rfl := h2 (by simp [mv_cond, hP]); exact k H ls locs cells slots I)
  · cases h
theorem mr_if_lt (hx : p.tables.exec = Jvm.exec) (hb : c.code = cc) {off : Int} (hdg : decode cc pc = .ok (.ifCond .lt off, 3)) (h : mv_if pc lo st hp cb sb .lt off = some (.inl S)) (k : mv_K base ad dA D cl nL p l e R s m args below meth c Q S) : mv_K base ad dA D cl nL p l e R s m args below meth c Q (pc, lo, st, hp, cb, sb) := by
  intro H ls locs cells slots I
  unfold mv_if at h
  split at h
  · rename_i a r
    obtain ⟨t, ht, h1, h2⟩ := mv_jump_s h
    exact lv_if_lt hx hb hdg ht (fun hP => by obtain rfl := h1 (by simp [mv_cond, hP]); exact k H ls locs cells slots I) (fun hP => by obtain rfl := h2 (by simp [mv_cond, hP]); exact k H ls locs cells slots I)
  · cases h
theorem mr_icmp_lt (hx : p.tables.exec = Jvm.exec) (hb : c.code = cc) {off : Int} (hdg : decode cc pc = .ok (.if_icmp .lt off, 3)) (h : mv_icmp pc lo st hp cb sb .lt off = some (.inl S)) (k : mv_K base ad dA D cl nL p l e R s m args below meth c Q S) : mv_K base ad dA D cl nL p l e R s m args below meth c Q (pc, lo, st, hp, cb, sb) := by
  intro H ls locs cells slots I
  unfold mv_icmp at h
  split at h
  · rename_i b a r
    obtain ⟨t, ht, h1, h2⟩ := mv_jump_s h
    exact lv_icmp_lt hx hb hdg ht (fun hP => by obtain rfl := h1 (by simp [mv_cond, hP]); exact k H ls locs cells slots I) (fun hP => by obtain rfl := h2 (by simp [mv_cond, hP]); exact k H ls locs cells slots I)
  · cases h
theorem mr_if_ge (hx : p.tables.exec = Jvm.exec) (hb : c.code = cc) {off : Int} (hdg : decode cc pc = .ok (.ifCond .ge off, 3)) (h : mv_if pc lo st hp cb sb .ge off = some (.inl S)) (k : mv_K base ad dA D cl nL p l e R s m args below meth c Q S) : mv_K base ad dA D cl nL p l e R s m args below meth c Q (pc, lo, st, hp, cb, sb) := by
  intro H ls locs cells slots I
  unfold mv_if at h
  split at h
  · rename_i a r
    obtain ⟨t, ht, h1, h2⟩ := mv_jump_s h
    exact lv_if_ge hx hb hdg ht (fun hP => by obtain rfl := h1 (by simp [mv_cond, hP]); exact k H ls locs cells slots I) (fun hP => by obtain rfl := h2 (by simp [mv_cond, hP]); exact k H ls locs cells slots I)
  · cases h
theorem mr_icmp_ge (hx : p.tables.exec = Jvm.exec) (hb : c.code = cc) {off : Int} (hdg : decode cc pc = .ok (.if_icmp .ge off, 3)) (h : mv_icmp pc lo st hp cb sb .ge off = some (.inl S)) (k : mv_K base ad dA D cl nL p l e R s m args below meth c Q S) : mv_K base ad dA D cl nL p l e R s m args below meth c Q (pc, lo, st, hp, cb, sb) := by
  intro H ls locs cells slots I
  unfold mv_icmp at h
  split at h
  · rename_i b a r
    obtain ⟨t, ht, h1, h2⟩ := mv_jump_s h
    exact lv_icmp_ge hx hb hdg ht (fun hP => by obtain rfl := h1 (by simp [mv_cond, hP]); exact k H ls locs cells slots I) (fun hP => by obtain rfl := h2 (by simp [mv_cond, hP]); exact k H ls locs cells slots I)
  · cases h
theorem mr_if_gt (hx : p.tables.exec = Jvm.exec) (hb : c.code = cc) {off : Int} (hdg : decode cc pc = .ok (.ifCond .gt off, 3)) (h : mv_if pc lo st hp cb sb .gt off = some (.inl S)) (k : mv_K base ad dA D cl nL p l e R s m args below meth c Q S) : mv_K base ad dA D cl nL p l e R s m args below meth c Q (pc, lo, st, hp, cb, sb) := by
  intro H ls locs cells slots I
  unfold mv_if at h
  split at h
  · rename_i a r
    obtain ⟨t, ht, h1, h2⟩ := mv_jump_s h
    exact lv_if_gt hx hb hdg ht (fun hP => by obtain rfl := h1 (by simp [mv_cond, hP]); exact k H ls locs cells slots I) (fun hP => by obtain rfl := h2 (by simp [mv_cond, hP]); exact k H ls locs cells slots I)
  · cases h
theorem mr_icmp_gt (hx : p.tables.exec = Jvm.exec) (hb : c.code = cc) {off : Int} (hdg : decode cc pc = .ok (.if_icmp .gt off, 3)) (h : mv_icmp pc lo st hp cb sb .gt off = some (.inl S)) (k : mv_K base ad dA D cl nL p l e R s m args below meth c Q S) : mv_K base ad dA D cl nL p l e R s m args below meth c Q (pc, lo, st, hp, cb, sb) := by
  intro H ls locs cells slots I
  unfold mv_icmp at h
  split at h
  · rename_i b a r
    obtain ⟨t, ht, h1, h2⟩ := mv_jump_s h
    exact lv_icmp_gt hx hb hdg ht (fun hP => by obtain rfl := h1 (by simp [mv_cond, hP]); exact k H ls locs cells slots I) (fun hP => by obtain rfl := h2 (by simp [mv_cond, hP]); exact k H ls locs cells slots I)
  · cases h
theorem mr_if_le (hx : p.tables.exec = Jvm.exec) (hb : c.code = cc) {off : Int} (hdg : decode cc pc = .ok (.ifCond .le off, 3)) (h : mv_if pc lo st hp cb sb .le off = some (.inl S)) (k : mv_K base ad dA D cl nL p l e R s m args below meth c Q S) : mv_K base ad dA D cl nL p l e R s m args below meth c Q (pc, lo, st, hp, cb, sb) := by
  intro H ls locs cells slots I
  unfold mv_if at h
  split at h
  · rename_i a r
    obtain ⟨t, ht, h1, h2⟩ := mv_jump_s h
    exact lv_if_le hx hb hdg ht (fun hP => by obtain rfl := h1 (by simp [mv_cond, hP]); exact k H ls locs cells slots I) (fun hP => by obtain rfl := h2 (by simp [mv_cond, hP]); exact k H ls locs cells slots I)
  · cases h
theorem mr_icmp_le (hx : p.tables.exec = Jvm.exec) (hb : c.code = cc) {off : Int} (hdg : decode cc pc = .ok (.if_icmp .le off, 3)) (h : mv_icmp pc lo st hp cb sb .le off = some (.inl S)) (k : mv_K base ad dA D cl nL p l e R s m args below meth c Q S) : mv_K base ad dA D cl nL p l e R s m args below meth c Q (pc, lo, st, hp, cb, sb) := by
  intro H ls locs cells slots I
  unfold mv_icmp at h
  split at h
  · rename_i b a r
    obtain ⟨t, ht, h1, h2⟩ := mv_jump_s h
    exact lv_icmp_le hx hb hdg ht (fun hP => by obtain rfl := h1 (by simp [mv_cond, hP]); exact k H ls locs cells slots I) (fun hP => by obtain rfl := h2 (by simp [mv_cond, hP]); exact k H ls locs cells slots I)
  · cases h
theorem mv_ptr_rf {v : Value} {o : Option Nat} (h : mv_ptr v = some o) : mv_v ad v = va_rf (o.map ad) ∧ ∀ a, o = some a → a < mv_big := by
  unfold mv_ptr at h
  split at h
  · cases h
    exact ⟨rfl, fun a q => by cases q⟩
  · split at h
    · rename_i hlt
      cases h
      exact ⟨rfl, fun a q => by cases q; exact hlt⟩
    · cases h
  · cases h
theorem mv_ptr_eq {x z : Option Nat} (hi : ∀ i j, i < mv_big → j < mv_big → ad i = ad j → i = j) (h1 : ∀ a, x = some a → a < mv_big) (h2 : ∀ a, z = some a → a < mv_big) : x.map ad = z.map ad ↔ x = z := by
  constructor
  · intro q
    cases x with
    | none => cases z with
      | none => rfl
      | some b => cases q
    | some a => cases z with
      | none => cases q
      | some b =>
        have := hi a b (h1 a rfl) (h2 b rfl) (Option.some.inj q)
        rw [this]
  · intro q
    rw [q]
theorem mr_acmp_eq (hx : p.tables.exec = Jvm.exec) (hb : c.code = cc) (hi : ∀ i j, i < mv_big → j < mv_big → ad i = ad j → i = j) {off : Int} (hdg : decode cc pc = .ok (.if_acmp .eq off, 3)) (h : mv_acmp pc lo st hp cb sb .eq off = some (.inl S)) (k : mv_K base ad dA D cl nL p l e R s m args below meth c Q S) : mv_K base ad dA D cl nL p l e R s m args below meth c Q (pc, lo, st, hp, cb, sb) := by
  intro H ls locs cells slots I
  unfold mv_acmp at h
  split at h
  · rename_i b a r
    split at h
    · rename_i x z e1 e2
      obtain ⟨t, ht, h1, h2⟩ := mv_jump_s h
      obtain ⟨f1, g1⟩ := mv_ptr_rf (ad := ad) e1
      obtain ⟨f2, g2⟩ := mv_ptr_rf (ad := ad) e2
      have hq := mv_ptr_eq hi g1 g2
      show W p l e R s m args below meth c H locs cells slots Q (F0 m pc ls (mv_v ad b :: mv_v ad a :: r.map (mv_v ad)))
      rw [f1, f2]
      exact lv_acmp_eq hx hb hdg ht (fun hP => by rw [hq] at hP; obtain rfl := h1 (by simp [hP]); exact k H ls locs cells slots I) (fun hP => by rw [hq] at hP; obtain rfl := h2 (by simp [hP]); exact k H ls locs cells slots I)
    · cases h
  · cases h
theorem mr_acmp_ne (hx : p.tables.exec = Jvm.exec) (hb : c.code = cc) (hi : ∀ i j, i < mv_big → j < mv_big → ad i = ad j → i = j) {off : Int} (hdg : decode cc pc = .ok (.if_acmp .ne off, 3)) (h : mv_acmp pc lo st hp cb sb .ne off = some (.inl S)) (k : mv_K base ad dA D cl nL p l e R s m args below meth c Q S) : mv_K base ad dA D cl nL p l e R s m args below meth c Q (pc, lo, st, hp, cb, sb) := by
  intro H ls locs cells slots I
  unfold mv_acmp at h
  split at h
  · rename_i b a r
    split at h
    · rename_i x z e1 e2
      obtain ⟨t, ht, h1, h2⟩ := mv_jump_s h
      obtain ⟨f1, g1⟩ := mv_ptr_rf (ad := ad) e1
      obtain ⟨f2, g2⟩ := mv_ptr_rf (ad := ad) e2
      have hq := mv_ptr_eq hi g1 g2
      show W p l e R s m args below meth c H locs cells slots Q (F0 m pc ls (mv_v ad b :: mv_v ad a :: r.map (mv_v ad)))
      rw [f1, f2]
      exact lv_acmp_ne hx hb hdg ht (fun hP => by rw [hq] at hP; obtain rfl := h1 (by simp [hP]); exact k H ls locs cells slots I) (fun hP => by rw [hq] at hP; obtain rfl := h2 (by simp [hP]); exact k H ls locs cells slots I)
    · cases h
  · cases h
theorem mr_ifnull (hx : p.tables.exec = Jvm.exec) (hb : c.code = cc) {off : Int} (hdg : decode cc pc = .ok (.ifnull off, 3)) (h : mv_ifn pc lo st hp cb sb true off = some (.inl S)) (k : mv_K base ad dA D cl nL p l e R s m args below meth c Q S) : mv_K base ad dA D cl nL p l e R s m args below meth c Q (pc, lo, st, hp, cb, sb) := by
  intro H ls locs cells slots I
  unfold mv_ifn at h
  split at h
  · obtain ⟨t, ht, h1, -⟩ := mv_jump_s h
    obtain rfl := h1 rfl
    exact lv_ifnullN hx hb hdg ht (k H ls locs cells slots I)
  · obtain ⟨t, ht, -, h2⟩ := mv_jump_s h
    obtain rfl := h2 rfl
    exact lv_ifnull hx hb hdg (k H ls locs cells slots I)
  · cases h
theorem mr_ifnonnull (hx : p.tables.exec = Jvm.exec) (hb : c.code = cc) {off : Int} (hdg : decode cc pc = .ok (.ifnonnull off, 3)) (h : mv_ifn pc lo st hp cb sb false off = some (.inl S)) (k : mv_K base ad dA D cl nL p l e R s m args below meth c Q S) : mv_K base ad dA D cl nL p l e R s m args below meth c Q (pc, lo, st, hp, cb, sb) := by
  intro H ls locs cells slots I
  unfold mv_ifn at h
  split at h
  · obtain ⟨t, ht, -, h2⟩ := mv_jump_s h
    obtain rfl := h2 rfl
    exact lv_ifnonnullN hx hb hdg (k H ls locs cells slots I)
  · obtain ⟨t, ht, h1, -⟩ := mv_jump_s h
    obtain rfl := h1 rfl
    exact lv_ifnonnull hx hb hdg ht (k H ls locs cells slots I)
  · cases h
theorem mr_tsw (hx : p.tables.exec = Jvm.exec) (hb : c.code = cc) {d lw hg : Int} {offs : Array Int} {len : Nat} (hdg : decode cc pc = .ok (.tableswitch d lw hg offs, len)) (h : mv_tsw pc lo st hp cb sb d lw hg offs = some (.inl S)) (k : mv_K base ad dA D cl nL p l e R s m args below meth c Q S) : mv_K base ad dA D cl nL p l e R s m args below meth c Q (pc, lo, st, hp, cb, sb) := by
  intro H ls locs cells slots I
  unfold mv_tsw at h
  split at h
  · rename_i x r
    split at h
    · rename_i hq
      split at h
      · rename_i t ht
        cases h
        exact lv_tableOut hx hb hdg hq (mv_tgt_eq ht) (k H ls locs cells slots I)
      · cases h
    · rename_i hq
      split at h
      · rename_i off ho
        split at h
        · rename_i t ht
          cases h
          exact lv_tableIn hx hb hdg (fun q => hq (Or.inl q)) (fun q => hq (Or.inr q)) ho (mv_tgt_eq ht) (k H ls locs cells slots I)
        · cases h
      · cases h
  · cases h
theorem mr_lsw (hx : p.tables.exec = Jvm.exec) (hb : c.code = cc) {d : Int} {ps : Array (Int × Int)} {len : Nat} (hdg : decode cc pc = .ok (.lookupswitch d ps, len)) (h : mv_lsw pc lo st hp cb sb d ps = some (.inl S)) (k : mv_K base ad dA D cl nL p l e R s m args below meth c Q S) : mv_K base ad dA D cl nL p l e R s m args below meth c Q (pc, lo, st, hp, cb, sb) := by
  intro H ls locs cells slots I
  unfold mv_lsw at h
  split at h
  · rename_i x r
    split at h
    · rename_i hq
      split at h
      · rename_i t ht
        cases h
        exact lv_lookup hx hb hdg hq rfl (mv_tgt_eq ht) (k H ls locs cells slots I)
      · cases h
    · cases h
  · cases h
end MVN
end
section
/-! the small machine: fields and arrays -/
section
variable (G : mv_G) (y pc : Nat) (l : List (Nat × Value)) (st : List Value) (hp : List va_E) (cb sb : Nat)
def mv_get (idx : Nat) : Option mv_R := match st with
  | .ref a :: r => match hp[a]?, mv_gF G y idx with
    | some (.inr (ci, fs)), some (cj, k) => if ci = cj then match fs[k]? with
        | some v => some (.inl (pc + 3, l, v :: r, hp, cb, sb))
        | none => none
      else none
    | _, _ => none
  | _ => none
def mv_put (idx : Nat) : Option mv_R := match st with
  | v :: .ref a :: r => match hp[a]?, mv_gF G y idx with
    | some (.inr (ci, fs)), some (cj, k) => match mv_gT G cj k with
      | some ty => if ci = cj ∧ narrow ty v = v ∧ fits ty v = true ∧ k < fs.length ∧ (mv_gP G cj k = true → mv_gQ G y cj = true) then some (.inl (pc + 3, l, r, hp.set a (.inr (ci, fs.set k v)), cb, sb)) else none
      | none => none
    | _, _ => none
  | _ => none
def mv_new (idx : Nat) : Option mv_R := match mv_gN G y idx with
  | some ci => if 1 ≤ cb ∧ mv_gZ G ci ≤ sb then some (.inl (pc + 3, l, .ref hp.length :: st, hp ++ [.inr (ci, mv_gD G ci)], cb - 1, sb - mv_gZ G ci)) else none
  | none => none
def mv_prim : ArrayType → Option Nat
  | .int => some 0
  | .byte => some 1
  | .boolean => some 2
  | _ => none
def mv_newa (at_ : ArrayType) : Option mv_R := match st with
  | .int n :: r => match mv_prim at_ with
    | some t => if ¬ n < 0 ∧ n.toNatClampNeg ≤ 134217728 ∧ 1 ≤ cb ∧ n.toNatClampNeg ≤ sb then some (.inl (pc + 2, l, .ref hp.length :: r, hp ++ [.inl (t, n.toNatClampNeg, .inl (fun _ => 0))], cb - 1, sb - n.toNatClampNeg)) else none
    | none => none
  | _ => none
def mv_anew (idx : Nat) : Option mv_R := match st with
  | .int n :: r => match mv_gA G y idx with
    | some t => if ¬ n < 0 ∧ n.toNatClampNeg ≤ 134217728 ∧ 1 ≤ cb ∧ n.toNatClampNeg ≤ sb then some (.inl (pc + 3, l, .ref hp.length :: r, hp ++ [.inl (t, n.toNatClampNeg, .inr (.inr (.inr (.inr (fun _ => none)))))], cb - 1, sb - n.toNatClampNeg)) else none
    | none => none
  | _ => none
def mv_out (i : Int32) (n : Nat) : Bool := decide (i < 0 ∨ n ≤ i.toNatClampNeg)
def mv_iald : Option mv_R := match st with
  | .int i :: .ref a :: r => match hp[a]? with
    | some (.inl (0, n, .inl f)) => if mv_out i n = true then none else some (.inl (pc + 1, l, .int (f i.toNatClampNeg) :: r, hp, cb, sb))
    | _ => none
  | _ => none
def mv_bald : Option mv_R := match st with
  | .int i :: .ref a :: r => match hp[a]? with
    | some (.inl (t, n, .inl f)) => if (t = 1 ∨ t = 2) ∧ mv_out i n = false then some (.inl (pc + 1, l, .int (f i.toNatClampNeg) :: r, hp, cb, sb)) else none
    | _ => none
  | _ => none
def mv_aald : Option mv_R := match st with
  | .int i :: .ref a :: r => match hp[a]? with
    | some (.inl (t, n, .inr (.inr (.inr (.inr g))))) => match mv_gY G t with
      | some ty => if ty.isReference = true ∧ mv_out i n = false then some (.inl (pc + 1, l, va_rf (g i.toNatClampNeg) :: r, hp, cb, sb)) else none
      | none => none
    | _ => none
  | _ => none
def mv_iast : Option mv_R := match st with
  | .int x :: .int i :: .ref a :: r => match hp[a]? with
    | some (.inl (0, n, .inl f)) => if mv_out i n = true then none else some (.inl (pc + 1, l, r, hp.set a (.inl (0, n, .inl (upd f i.toNatClampNeg x))), cb, sb))
    | _ => none
  | _ => none
def mv_bast : Option mv_R := match st with
  | .int x :: .int i :: .ref a :: r => match hp[a]? with
    | some (.inl (t, n, .inl f)) => if mv_out i n = false then
        if t = 1 then some (.inl (pc + 1, l, r, hp.set a (.inl (t, n, .inl (upd f i.toNatClampNeg (vp_nar .byte x)))), cb, sb))
        else if t = 2 then some (.inl (pc + 1, l, r, hp.set a (.inl (t, n, .inl (upd f i.toNatClampNeg (vp_nar .boolean x)))), cb, sb)) else none
      else none
    | _ => none
  | _ => none
def mv_alen : Option mv_R := match st with
  | .ref a :: r => match hp[a]? with
    | some (.inl (t, n, _)) => match mv_gY G t with
      | some _ => some (.inl (pc + 1, l, .int (Int32.ofNat n) :: r, hp, cb, sb))
      | none => none
    | _ => none
  | _ => none
end
/-! rows of it -/
def mv_tys (dA : Nat → Nat) (L : List FieldType) : List (ClassId × FieldType) := (List.range L.length).filterMap (fun t => (L[t]?).map (fun ty => (dA t, ty)))
theorem mv_tys_mem {dA : Nat → Nat} {L : List FieldType} {t : Nat} {ty : FieldType} (h : L[t]? = some ty) : ∃ k : Nat, (mv_tys dA L)[k]? = some (dA t, ty) := by
  have : (dA t, ty) ∈ mv_tys dA L := List.mem_filterMap.mpr ⟨t, List.mem_range.mpr (List.getElem?_eq_some_iff.mp h).1, by rw [h]; rfl⟩
  exact List.mem_iff_getElem?.mp this
theorem mv_D {base : Nat} {kt dA : Nat → Nat} {hp : List va_E} (h : hp.length ≤ mv_big) : va_D (fun q => base ≤ q) (mv_w (mv_ad base kt) dA 0 hp) := by
  have key : ∀ (i : Nat) (q : Nat × va_E), (mv_w (mv_ad base kt) dA 0 hp)[i]? = some q → q.1 = base + i := by
    intro i q hq
    obtain ⟨e, he, rfl⟩ := mv_w_of hq
    have hi : i < hp.length := (List.getElem?_eq_some_iff.mp he).1
    show mv_ad base kt (0 + i) = base + i
    rw [Nat.zero_add, mv_ad, if_pos (by omega)]
  refine ⟨fun i j a b hi hj hab => ?_, fun k q hk => ?_⟩
  · have h1 := key i a hi
    have h2 := key j b hj
    omega
  · have h1 := key k q hk
    show base ≤ q.1
    omega
section MVH
variable {base : Nat} {kt dA : Nat → Nat} {D : va_G} {cl : List vw_C} {nL : Nat} {p : Program} {l : Launch} {e : Env} {R : Room} {s : State} {m : MethodId} {args : Array Value} {below : List Frame} {meth : Method} {c : Code} {Q : State → Prop} {cc : ByteArray} {G : mv_G} {y pc : Nat} {lo : List (Nat × Value)} {st : List Value} {hp : List va_E} {cb sb : Nat} {S : mv_S}
theorem mv_inv_at {H : Heap} {ls : Array Slot} {locs : List Loc} {cells slots : Nat} (I : mv_inv base (mv_ad base kt) dA D cl nL R s (pc, lo, st, hp, cb, sb) H ls locs cells slots) {a : Nat} {e0 : va_E} (h : hp[a]? = some e0) : va_at D cl (mv_ad base kt a, mv_e (mv_ad base kt) dA e0) H ∧ mv_ad base kt a = base + a ∧ a < hp.length := by
  have h1 := I.2.1 a _ (mv_w_at (ad := mv_ad base kt) (dA := dA) hp 0 a e0 h)
  rw [Nat.zero_add] at h1
  have hl : a < hp.length := (List.getElem?_eq_some_iff.mp h).1
  have h7 : hp.length + cb ≤ mv_big := I.2.2.2.2.2.2
  refine ⟨h1, ?_, hl⟩
  rw [mv_ad, if_pos (by omega)]
theorem mv_inv_put {H H1 : Heap} {ls : Array Slot} {locs : List Loc} {cells slots pc' : Nat} {st' : List Value} (I : mv_inv base (mv_ad base kt) dA D cl nL R s (pc, lo, st, hp, cb, sb) H ls locs cells slots) {a k : Nat} {e0 e1 : va_E} (h : hp[a]? = some e0)
    (he : va_at D cl (mv_ad base kt a, mv_e (mv_ad base kt) dA e1) H1) (z : H1.size = H.size) (oq : ∀ q : Nat, q ≠ mv_ad base kt a → H1[q]? = H[q]?) : mv_inv base (mv_ad base kt) dA D cl nL R s (pc', lo, st', hp.set a e1, cb, sb) H1 ls (locs ++ [⟨mv_ad base kt a, k⟩]) cells slots := by
  obtain ⟨-, ha, hal⟩ := mv_inv_at I h
  obtain ⟨i1, i2, i3, i4, i5, i6, i7⟩ := I
  dsimp only at i1 i2 i3 i4 i5 i6 i7
  have hD := mv_D (base := base) (kt := kt) (dA := dA) (hp := hp) (by omega)
  have hw := mv_w_at (ad := mv_ad base kt) (dA := dA) hp 0 a e0 h
  refine ⟨i1, ?_, ?_, ?_, i5, i6, ?_⟩
  · show va_P D cl (mv_w (mv_ad base kt) dA 0 (hp.set a e1)) H1
    rw [← mv_w_set]
    rw [Nat.zero_add] at hw ⊢
    exact i2.set hD hw he oq
  · show H1.size = base + (hp.set a e1).length
    rw [List.length_set, z, i3]
  · exact i4.put z oq (by show base ≤ _; rw [ha]; omega)
  · show (hp.set a e1).length + cb ≤ mv_big
    rw [List.length_set]
    exact i7
theorem mv_inv_new {H H1 : Heap} {ls : Array Slot} {locs : List Loc} {cells slots pc' n : Nat} {st' : List Value} (I : mv_inv base (mv_ad base kt) dA D cl nL R s (pc, lo, st, hp, cb, sb) H ls locs cells slots) {e1 : va_E} (hc : 1 ≤ cb) (hs : n ≤ sb)
    (he : va_at D cl (H.size, mv_e (mv_ad base kt) dA e1) H1) (z : H1.size = H.size + 1) (oq : ∀ q : Nat, q < H.size → H1[q]? = H[q]?) : mv_inv base (mv_ad base kt) dA D cl nL R s (pc', lo, st', hp ++ [e1], cb - 1, sb - n) H1 ls locs (cells + 1) (slots + n) ∧ mv_ad base kt hp.length = H.size := by
  obtain ⟨i1, i2, i3, i4, i5, i6, i7⟩ := I
  dsimp only at i1 i2 i3 i4 i5 i6 i7
  have hz : mv_ad base kt hp.length = H.size := by
    rw [mv_ad, if_pos (by omega), i3]
  refine ⟨⟨i1, ?_, ?_, ⟨?_, ?_, i4.2.2⟩, ?_, ?_, ?_⟩, hz⟩
  · show va_P D cl (mv_w (mv_ad base kt) dA 0 (hp ++ [e1])) H1
    rw [mv_w_app]
    refine (i2.kept (fun k q hk => oq q.1 ((i2 k q hk).lt))).app (fun k q hk => ?_)
    have hz0 : k < 1 := (List.getElem?_eq_some_iff.mp hk).1
    rw [show k = 0 by omega] at hk
    cases hk
    show va_at D cl (mv_ad base kt (0 + hp.length), _) H1
    rw [Nat.zero_add, hz]
    exact he
  · show H1.size = base + (hp ++ [e1]).length
    rw [z, i3, List.length_append]
    rfl
  · have := i4.1
    omega
  · intro q h1 h2
    exact (oq q (Nat.lt_of_lt_of_le h1 i4.1)).trans (i4.2.1 q h1 h2)
  · show cells + 1 + (cb - 1) ≤ R.cells
    omega
  · show slots + n + (sb - n) ≤ R.slots
    omega
  · show (hp ++ [e1]).length + (cb - 1) ≤ mv_big
    rw [List.length_append]
    show hp.length + 1 + _ ≤ _
    omega
/-- what a field's constant pool number means -/
def mv_okF (cl : List vw_C) (Ts : List Cond) (own : String) (idx ci k : Nat) : Prop := ∃ (C : String) (T : u_T) (N : Nat), cl[ci]? = some (C, T, N) ∧ k < N ∧ (∀ w ∈ u_ws C T N, w ∈ Ts) ∧ (Cond.fieldLink own idx (T k).1 (T k).2.1 (T k).2.2.1 ∈ Ts ∨ ∃ host : String, Cond.fieldLinkNest own idx (T k).1 (T k).2.1 (T k).2.2.1 host ∈ Ts)
theorem mr_get (hx : p.tables.exec = Jvm.exec) (hb : c.code = cc) {Ts : List Cond} (hts : ∀ w ∈ Ts, w.before args s = true) {own : String} (hown : s.vm.findClass own = some m.cls) {tys : List (ClassId × FieldType)} (hK : va_K D cl tys s) {idx : Nat} (hdg : decode cc pc = .ok (.getfield idx, 3)) (hok : ∀ ci k, mv_gF G y idx = some (ci, k) → mv_okF cl Ts own idx ci k)
    (h : mv_get G y pc lo st hp cb sb idx = some (.inl S)) (k : mv_K base (mv_ad base kt) dA D cl nL p l e R s m args below meth c Q S) : mv_K base (mv_ad base kt) dA D cl nL p l e R s m args below meth c Q (pc, lo, st, hp, cb, sb) := by
  intro H ls locs cells slots I
  unfold mv_get at h
  split at h
  · rename_i a r
    split at h
    · rename_i ci fs cj k0 he hf
      split at h
      · rename_i hc
        subst hc
        split at h
        · rename_i v hv
          cases h
          obtain ⟨C, T, N, h1, h2, h3, h4⟩ := hok _ _ hf
          have hw := mv_w_at (ad := mv_ad base kt) (dA := dA) hp 0 a _ he
          rw [Nat.zero_add] at hw
          have hv' : (fs.map (mv_v (mv_ad base kt)))[k0]? = some (mv_v (mv_ad base kt) v) := by rw [List.getElem?_map, hv]; rfl
          rcases h4 with h4 | ⟨host, h4⟩
          · exact va_get hx hb hts h3 hown hK I.2.1 a hw h1 k0 h2 (hts _ h4) (fun _ h => h) hv' hdg (k H ls locs cells slots I)
          · exact va_getN hx hb hts h3 hown hK I.2.1 a hw h1 k0 h2 (hts _ h4) (fun _ h => h) hv' hdg (k H ls locs cells slots I)
        · cases h
      · cases h
    · cases h
  · cases h
theorem mr_iald (hx : p.tables.exec = Jvm.exec) (hb : c.code = cc) {L : List FieldType} (hK : va_K D cl (mv_tys dA L) s) (h0 : L[0]? = some .int) (hdg : decode cc pc = .ok (.iaload, 1))
    (h : mv_iald pc lo st hp cb sb = some (.inl S)) (k : mv_K base (mv_ad base kt) dA D cl nL p l e R s m args below meth c Q S) : mv_K base (mv_ad base kt) dA D cl nL p l e R s m args below meth c Q (pc, lo, st, hp, cb, sb) := by
  intro H ls locs cells slots I
  unfold mv_iald at h
  split at h
  · rename_i i a r
    split at h
    · rename_i n f he
      split at h
      · cases h
      · rename_i ho
        cases h
        have hw := mv_w_at (ad := mv_ad base kt) (dA := dA) hp 0 a _ he
        rw [Nat.zero_add] at hw
        obtain ⟨t0, ht0⟩ := mv_tys_mem (dA := dA) h0
        exact va_iald hx hb hK I.2.1 a t0 hw ht0 (fun q => ho (decide_eq_true q)) hdg (k H ls locs cells slots I)
    · cases h
  · cases h
theorem mr_bald (hx : p.tables.exec = Jvm.exec) (hb : c.code = cc) {L : List FieldType} (hK : va_K D cl (mv_tys dA L) s) (h1 : L[1]? = some .byte) (h2 : L[2]? = some .boolean) (hdg : decode cc pc = .ok (.baload, 1))
    (h : mv_bald pc lo st hp cb sb = some (.inl S)) (k : mv_K base (mv_ad base kt) dA D cl nL p l e R s m args below meth c Q S) : mv_K base (mv_ad base kt) dA D cl nL p l e R s m args below meth c Q (pc, lo, st, hp, cb, sb) := by
  intro H ls locs cells slots I
  unfold mv_bald at h
  split at h
  · rename_i i a r
    split at h
    · rename_i t n f he
      split at h
      · rename_i ho
        cases h
        have hw := mv_w_at (ad := mv_ad base kt) (dA := dA) hp 0 a _ he
        rw [Nat.zero_add] at hw
        obtain ⟨hq, ho⟩ := ho
        rcases hq with rfl | rfl
        · obtain ⟨t0, ht0⟩ := mv_tys_mem (dA := dA) h1
          exact va_bald hx hb hK I.2.1 a t0 hw ht0 (fun q => of_decide_eq_false ho q) hdg (k H ls locs cells slots I)
        · obtain ⟨t0, ht0⟩ := mv_tys_mem (dA := dA) h2
          exact va_zald hx hb hK I.2.1 a t0 hw ht0 (fun q => of_decide_eq_false ho q) hdg (k H ls locs cells slots I)
      · cases h
    · cases h
  · cases h
theorem mv_v_rf (ad : Nat → Nat) (o : Option Nat) : mv_v ad (va_rf o) = va_rf (o.map ad) := by cases o <;> rfl
theorem mr_aald (hx : p.tables.exec = Jvm.exec) (hb : c.code = cc) {L : List FieldType} (hK : va_K D cl (mv_tys dA L) s) (hY : ∀ t ty, mv_gY G t = some ty → L[t]? = some ty) (hdg : decode cc pc = .ok (.aaload, 1))
    (h : mv_aald G pc lo st hp cb sb = some (.inl S)) (k : mv_K base (mv_ad base kt) dA D cl nL p l e R s m args below meth c Q S) : mv_K base (mv_ad base kt) dA D cl nL p l e R s m args below meth c Q (pc, lo, st, hp, cb, sb) := by
  intro H ls locs cells slots I
  unfold mv_aald at h
  split at h
  · rename_i i a r
    split at h
    · rename_i t n g he
      split at h
      · rename_i ty hty
        split at h
        · rename_i ho
          cases h
          obtain ⟨hr, ho⟩ := ho
          have hin := of_decide_eq_false ho
          obtain ⟨t0, ht0⟩ := mv_tys_mem (dA := dA) (hY _ _ hty)
          obtain ⟨hat, -, -⟩ := mv_inv_at I he
          have hlt : i.toNatClampNeg < n := Nat.not_le.mp fun q => hin (Or.inr q)
          have hk := k H ls locs cells slots I
          refine W.aald (v := va_rf ((g i.toNatClampNeg).map (mv_ad base kt))) (ty := ty) hx hb hat ((hK.2 t0 _ ht0).1 n (fun j => va_rf ((g j).map (mv_ad base kt)))) hr (fun q => by cases q) (by show ¬ (i < 0 ∨ (arrV _ _ _).slots.size ≤ _); rw [arrV_size]; exact hin) (by show (arrV _ _ _).slots[_]? = _; rw [arrV_read _ _ hlt]) rfl rfl hdg ?_
          have e1 : (va_rf (g i.toNatClampNeg) :: r).map (mv_v (mv_ad base kt)) = va_rf ((g i.toNatClampNeg).map (mv_ad base kt)) :: r.map (mv_v (mv_ad base kt)) := by rw [List.map_cons, mv_v_rf]
          dsimp only at hk
          rw [e1] at hk
          exact hk
        · cases h
      · cases h
    · cases h
  · cases h
theorem mr_alen (hx : p.tables.exec = Jvm.exec) (hb : c.code = cc) {L : List FieldType} (hK : va_K D cl (mv_tys dA L) s) (hY : ∀ t ty, mv_gY G t = some ty → L[t]? = some ty) (hdg : decode cc pc = .ok (.arraylength, 1))
    (h : mv_alen G pc lo st hp cb sb = some (.inl S)) (k : mv_K base (mv_ad base kt) dA D cl nL p l e R s m args below meth c Q S) : mv_K base (mv_ad base kt) dA D cl nL p l e R s m args below meth c Q (pc, lo, st, hp, cb, sb) := by
  intro H ls locs cells slots I
  unfold mv_alen at h
  split at h
  · rename_i a r
    split at h
    · rename_i t n z he
      split at h
      · rename_i ty hty
        cases h
        obtain ⟨t0, ht0⟩ := mv_tys_mem (dA := dA) (hY _ _ hty)
        have hw := mv_w_at (ad := mv_ad base kt) (dA := dA) hp 0 a _ he
        rw [Nat.zero_add] at hw
        rcases z with z | z | z | z | z <;> exact va_alen hx hb hK I.2.1 a t0 hw ht0 rfl hdg (k H ls locs cells slots I)
      · cases h
    · cases h
  · cases h
end MVH
end
section
/-! the small machine: stores, and what makes cells -/
theorem mv_nar {ad : Nat → Nat} {ty : FieldType} {v : Value} (h : narrow ty v = v) : narrow ty (mv_v ad v) = mv_v ad v := by
  cases v with
  | ref a => cases ty <;> rfl
  | _ => exact h
theorem mv_fit {ad : Nat → Nat} {ty : FieldType} {v : Value} (h : fits ty v = true) : fits ty (mv_v ad v) = true := by
  cases v with
  | ref a => cases ty <;> first | rfl | cases h
  | _ => exact h
/-- what is to be known of a class -/
def mv_okC (cl : List vw_C) (Ts : List Cond) (G : mv_G) (ci : Nat) : Prop := ∃ (C : String) (T : u_T) (N : Nat) (ty0 : Nat → FieldType), cl[ci]? = some (C, T, N) ∧ (∀ w ∈ u_ws C T N, w ∈ Ts) ∧ (∀ k, k < N → parseFieldDescriptor (T k).2.2.1 = some (ty0 k)) ∧ (∀ a, a < N → ∀ b, b < N → a ≠ b → (T a).2.1 ≠ (T b).2.1) ∧ (∀ k, k < N → mv_gT G ci k = some (ty0 k)) ∧ (∀ k, k < N → mv_gP G ci k = (T k).2.2.2) ∧ (∀ j, j < N → defaultValue (ty0 j) = vp_V (mv_gD G ci) j) ∧ ∀ ad : Nat → Nat, (mv_gD G ci).map (mv_v ad) = mv_gD G ci
/-- a final field's put, in a constructor of its own class -/
def mv_okP (cl : List vw_C) (Ts : List Cond) (meth : Method) (own : String) (idx ci k : Nat) : Prop := ∃ (C : String) (T : u_T) (N : Nat), cl[ci]? = some (C, T, N) ∧ (T k).1 = own ∧ Cond.fieldLink own idx (T k).1 (T k).2.1 (T k).2.2.1 ∈ Ts ∧ meth.name = "<init>"
section MVH2
variable {base : Nat} {kt dA : Nat → Nat} {D : va_G} {cl : List vw_C} {nL : Nat} {p : Program} {l : Launch} {e : Env} {R : Room} {s : State} {m : MethodId} {args : Array Value} {below : List Frame} {meth : Method} {c : Code} {Q : State → Prop} {cc : ByteArray} {G : mv_G} {y pc : Nat} {lo : List (Nat × Value)} {st : List Value} {hp : List va_E} {cb sb : Nat} {S : mv_S}
theorem mr_put (hx : p.tables.exec = Jvm.exec) (hb : c.code = cc) {Ts : List Cond} (hts : ∀ w ∈ Ts, w.before args s = true) {own : String} (hown : s.vm.findClass own = some m.cls) {tys : List (ClassId × FieldType)} (hK : va_K D cl tys s) {idx : Nat} (hdg : decode cc pc = .ok (.putfield idx, 3)) (hok : ∀ ci k, mv_gF G y idx = some (ci, k) → mv_okF cl Ts own idx ci k) (hokC : ∀ ci k, mv_gF G y idx = some (ci, k) → mv_okC cl Ts G ci) (hokP : ∀ ci k, mv_gF G y idx = some (ci, k) → mv_gP G ci k = true → mv_gQ G y ci = true → mv_okP cl Ts meth own idx ci k)
    (h : mv_put G y pc lo st hp cb sb idx = some (.inl S)) (k : mv_K base (mv_ad base kt) dA D cl nL p l e R s m args below meth c Q S) : mv_K base (mv_ad base kt) dA D cl nL p l e R s m args below meth c Q (pc, lo, st, hp, cb, sb) := by
  intro H ls locs cells slots I
  unfold mv_put at h
  split at h
  · rename_i v a r
    split at h
    · rename_i ci fs cj k0 he hf
      split at h
      · rename_i ty hty
        split at h
        · rename_i hc
          obtain ⟨rfl, hnar, hfit, hlen, hfinal⟩ := hc
          cases h
          obtain ⟨C, T, N, h1, h2, h3, h4⟩ := hok _ _ hf
          obtain ⟨C', T', N', ty0, g1, -, g3, g4, g5, g6, -, -⟩ := hokC _ _ hf
          cases h1.symm.trans g1
          have hty0 : ty = ty0 k0 := by
            have := g5 k0 h2
            rw [hty] at this
            exact Option.some.inj this
          obtain ⟨hat, -, -⟩ := mv_inv_at I he
          have hap := va_apart (own := own) hts h3 ty0 g3 g4 hK h1
          obtain ⟨rr, r1, cell, q1, q2, q3, q4⟩ := hat
          have hr : rr = (C, T, N) := Option.some.inj (r1.symm.trans h1)
          subst hr
          obtain ⟨hS, hfc, kC, hkC, hkind⟩ := hK.1 ci _ h1
          obtain ⟨cf, kf, fi, f, hi, hsl⟩ := hS k0 h2
          have hst := (u_facts hfc hkC (u_lays hts h3 h2) hi).1
          have hd : parseFieldDescriptor (T k0).2.2.1 = some ty := by rw [hty0]; exact g3 k0 h2
          have hlen' : k0 < (fs.map (mv_v (mv_ad base kt))).length := by rw [List.length_map]; exact hlen
          have fin : ∀ (H1 : Heap) (x : Cell), H1[mv_ad base kt a]? = some (cell.setSlot (D.2 ci k0) (mv_v (mv_ad base kt) v)) → H1.size = H.size → (∀ q : Nat, q ≠ mv_ad base kt a → H1[q]? = H[q]?) → ∀ i9 : Nat, mv_inv base (mv_ad base kt) dA D cl nL R s (pc + 3, lo, r, hp.set a (.inr (ci, fs.set k0 v)), cb, sb) H1 ls (locs ++ [⟨mv_ad base kt a, i9⟩]) cells slots := by
            intro H1 x e1 z oq i9
            refine mv_inv_put I he ?_ z oq
            show va_at D cl (mv_ad base kt a, .inr (ci, (fs.set k0 v).map (mv_v (mv_ad base kt)))) H1
            rw [List.map_set]
            exact ⟨_, h1, t_OB.to (V := updV (vp_V (fs.map (mv_v (mv_ad base kt)))) k0 (mv_v (mv_ad base kt) v)) ⟨_, e1, q2, q3, t_set q4 hap h2 _⟩ (fun j _ => vp_updV_set hlen' _ j)⟩
          have hlay := hts _ (h3 _ (u_in_lay h2))
          unfold u_lay at hlay
          by_cases hfin : (T k0).2.2.2 = true
          · obtain ⟨C2, T2, N2, p1, p2, p3, p4⟩ := hokP _ _ hf (by rw [g6 k0 h2]; exact hfin) (hfinal (by rw [g6 k0 h2]; exact hfin))
            cases h1.symm.trans p1
            rw [if_pos hfin] at hlay
            have hcf : m.cls = cf := by
              obtain ⟨_, _, c', _, _, _, -, -, hf', -, -, -, hown2, -⟩ := Cond.laysFinal_spec hlay
              have e1 : c' = cf := by have := hi.symm.trans hf'; simp at this; exact this.1.symm
              rw [p2] at hown2
              rw [← e1]; exact Option.some.inj (hown.symm.trans hown2)
            have h6 := u_fits hfc hkC hkind (Or.inr hlay) hi hd (mv_nar hnar) (mv_fit (ad := mv_ad base kt) hfit)
            refine W.putFinK hx hb hown (hts _ p3) hi hst hcf p4 (by rw [q2]; exact h6) q1 q3 (by rw [hsl]; exact k2_hasslot (q4 k0 h2)) rfl rfl hdg fun H' e1 e2 e3 => ?_
            rw [hsl] at e1 ⊢
            exact k H' ls _ cells slots (fin H' cell e1 e2 e3 _)
          · rw [if_neg hfin] at hlay
            have h6 := u_store hfc hkC hkind hlay hi hd (mv_nar hnar) (mv_fit (ad := mv_ad base kt) hfit)
            rcases h4 with h4 | ⟨host, h4⟩
            · refine W.putK hx hb (f := f) ⟨hown, hts _ h4, ⟨_, _, _, hi⟩, hst⟩ (by rw [q2]; exact h6) q1 q3 (by rw [hsl]; exact k2_hasslot (q4 k0 h2)) rfl rfl hdg fun H' e1 e2 e3 => ?_
              rw [hsl] at e1 ⊢
              exact k H' ls _ cells slots (fin H' cell e1 e2 e3 _)
            · refine va_WputK hx hb (f := f) hown (hts _ h4) hi hst (by rw [q2]; exact h6) q1 q3 (by rw [hsl]; exact k2_hasslot (q4 k0 h2)) rfl rfl hdg fun H' e1 e2 e3 => ?_
              rw [hsl] at e1 ⊢
              exact k H' ls _ cells slots (fin H' cell e1 e2 e3 _)
        · cases h
      · cases h
    · cases h
  · cases h
theorem mr_iast (hx : p.tables.exec = Jvm.exec) (hb : c.code = cc) {L : List FieldType} (hK : va_K D cl (mv_tys dA L) s) (h0 : L[0]? = some .int) (hdg : decode cc pc = .ok (.iastore, 1))
    (h : mv_iast pc lo st hp cb sb = some (.inl S)) (k : mv_K base (mv_ad base kt) dA D cl nL p l e R s m args below meth c Q S) : mv_K base (mv_ad base kt) dA D cl nL p l e R s m args below meth c Q (pc, lo, st, hp, cb, sb) := by
  intro H ls locs cells slots I
  unfold mv_iast at h
  split at h
  · rename_i x i a r
    split at h
    · rename_i n f he
      split at h
      · cases h
      · rename_i ho
        cases h
        obtain ⟨t0, ht0⟩ := mv_tys_mem (dA := dA) h0
        obtain ⟨hat, -, -⟩ := mv_inv_at I he
        have hin : vp_in i n := fun q => ho (decide_eq_true q)
        refine W.iast hx hb hat ((hK.2 t0 _ ht0).1 n (fun j => .int (f j))) (fun q => by cases q) (by show ¬ (i < 0 ∨ (arrV _ _ _).slots.size ≤ _); rw [arrV_size]; exact hin) rfl rfl hdg fun H1 e1 z oq => k H1 ls _ cells slots (mv_inv_put I he ?_ z oq)
        show H1[mv_ad base kt a]? = some (vp_cell (dA 0) (n, .inl (upd f i.toNatClampNeg x)))
        rw [e1]
        show some ((vp_cell (dA 0) (n, .inl f)).setSlot _ _) = _
        rw [vp_cell_i, vp_cell_i, arrV_store]
        congr 2
        funext q
        by_cases hq : q = i.toNatClampNeg
        · subst hq
          simp [updV, upd]
        · simp [updV, upd, hq]
    · cases h
  · cases h
theorem mr_bast (hx : p.tables.exec = Jvm.exec) (hb : c.code = cc) {L : List FieldType} (hK : va_K D cl (mv_tys dA L) s) (h1 : L[1]? = some .byte) (h2 : L[2]? = some .boolean) (hdg : decode cc pc = .ok (.bastore, 1))
    (h : mv_bast pc lo st hp cb sb = some (.inl S)) (k : mv_K base (mv_ad base kt) dA D cl nL p l e R s m args below meth c Q S) : mv_K base (mv_ad base kt) dA D cl nL p l e R s m args below meth c Q (pc, lo, st, hp, cb, sb) := by
  intro H ls locs cells slots I
  unfold mv_bast at h
  split at h
  · rename_i x i a r
    split at h
    · rename_i t n f he
      split at h
      · rename_i ho
        have hin : vp_in i n := fun q => of_decide_eq_false ho q
        obtain ⟨hat, -, -⟩ := mv_inv_at I he
        split at h
        · rename_i hq
          subst hq
          cases h
          obtain ⟨t0, ht0⟩ := mv_tys_mem (dA := dA) h1
          refine W.bast hx hb hat ((hK.2 t0 _ ht0).1 n (fun j => .int (f j))) (fun q => by cases q) (by show ¬ (i < 0 ∨ (arrV _ _ _).slots.size ≤ _); rw [arrV_size]; exact hin) rfl rfl hdg fun H1 e1 z oq => k H1 ls _ cells slots (mv_inv_put I he ?_ z oq)
          show H1[mv_ad base kt a]? = some (vp_cell (dA 1) (n, .inl (upd f i.toNatClampNeg (vp_nar .byte x))))
          rw [e1]
          show some ((vp_cell (dA 1) (n, .inl f)).setSlot _ _) = _
          rw [vp_cell_i, vp_cell_i, arrV_store]
          congr 2
          funext q
          by_cases hq : q = i.toNatClampNeg
          · subst hq
            simp [updV, upd, vp_nar]
            try rfl
          · simp [updV, upd, hq]
        · split at h
          · rename_i hq
            subst hq
            cases h
            obtain ⟨t0, ht0⟩ := mv_tys_mem (dA := dA) h2
            refine W.zast hx hb hat ((hK.2 t0 _ ht0).1 n (fun j => .int (f j))) (fun q => by cases q) (by show ¬ (i < 0 ∨ (arrV _ _ _).slots.size ≤ _); rw [arrV_size]; exact hin) rfl rfl hdg fun H1 e1 z oq => k H1 ls _ cells slots (mv_inv_put I he ?_ z oq)
            show H1[mv_ad base kt a]? = some (vp_cell (dA 2) (n, .inl (upd f i.toNatClampNeg (vp_nar .boolean x))))
            rw [e1]
            show some ((vp_cell (dA 2) (n, .inl f)).setSlot _ _) = _
            rw [vp_cell_i, vp_cell_i, arrV_store]
            congr 2
            funext q
            by_cases hq : q = i.toNatClampNeg
            · subst hq
              simp [updV, upd, vp_nar]
              try rfl
            · simp [updV, upd, hq]
          · cases h
      · cases h
    · cases h
  · cases h
theorem mv_new_eq {H : Heap} {ls : Array Slot} {locs : List Loc} {cells slots : Nat} {r : List Value} (hz : mv_ad base kt hp.length = H.size) {pc' cb' sb' : Nat} {hp' : List va_E} {H1 : Heap} (k : mv_K base (mv_ad base kt) dA D cl nL p l e R s m args below meth c Q (pc', lo, .ref hp.length :: r, hp', cb', sb')) (I : mv_inv base (mv_ad base kt) dA D cl nL R s (pc', lo, .ref hp.length :: r, hp', cb', sb') H1 ls locs cells slots) : W p l e R s m args below meth c H1 locs cells slots Q (F0 m pc' ls (.ref H.size :: r.map (mv_v (mv_ad base kt)))) := by
  have h := k H1 ls locs cells slots I
  have e1 : (Value.ref hp.length :: r).map (mv_v (mv_ad base kt)) = .ref H.size :: r.map (mv_v (mv_ad base kt)) := by
    rw [List.map_cons]
    show Value.ref (mv_ad base kt hp.length) :: _ = _
    rw [hz]
  dsimp only at h
  rw [e1] at h
  exact h
theorem mr_new (hx : p.tables.exec = Jvm.exec) (hb : c.code = cc) {Ts : List Cond} (hts : ∀ w ∈ Ts, w.before args s = true) {own : String} (hown : s.vm.findClass own = some m.cls) {tys : List (ClassId × FieldType)} (hK : va_K D cl tys s) {idx : Nat} (hdg : decode cc pc = .ok (.new idx, 3)) (hokC : ∀ ci, mv_gN G y idx = some ci → mv_okC cl Ts G ci) (hokN : ∀ ci C T N, mv_gN G y idx = some ci → cl[ci]? = some (C, T, N) → Cond.classLink own idx C ∈ Ts ∧ Cond.instantiable C (mv_gZ G ci) ∈ Ts ∧ Cond.initialized C ∈ Ts)
    (h : mv_new G y pc lo st hp cb sb idx = some (.inl S)) (k : mv_K base (mv_ad base kt) dA D cl nL p l e R s m args below meth c Q S) : mv_K base (mv_ad base kt) dA D cl nL p l e R s m args below meth c Q (pc, lo, st, hp, cb, sb) := by
  intro H ls locs cells slots I
  unfold mv_new at h
  split at h
  · rename_i ci hci
    split at h
    · rename_i hc
      cases h
      obtain ⟨C, T, N, ty0, g1, g2, g3, g4, g5, g6, g7, g8⟩ := hokC _ hci
      obtain ⟨n1, n2, n3⟩ := hokN _ _ _ _ hci g1
      have hKn := hK.1 ci _ g1
      have I5 : cells + cb ≤ R.cells := I.2.2.2.2.1
      have I6 : slots + sb ≤ R.slots := I.2.2.2.2.2.1
      refine W.newcK hx hb hown (hts _ n1) (hts _ n2) (hts _ n3) rfl hdg (by omega) (by omega) hKn.2.1 rfl fun H1 kC hkC e1 z1 o1 => ?_
      obtain ⟨I', hz⟩ := mv_inv_new (pc' := pc + 3) (st' := .ref hp.length :: st) (H1 := H1) I (e1 := .inr (ci, mv_gD G ci)) hc.1 hc.2 (by
        show va_at D cl (H.size, .inr (ci, (mv_gD G ci).map (mv_v (mv_ad base kt)))) H1
        rw [g8]
        exact ⟨_, g1, (u_born ty0 hts g2 hKn hkC e1 g3).to g7⟩) z1 o1
      exact mv_new_eq hz k I'
    · cases h
  · cases h
theorem mv_RAof {ty : FieldType} {cA cB : ClassId} (h : va_RA s cA ty) (h2 : s.vm.findClass ("[" ++ ty.toString) = some cB) : cB = cA := by
  cases ty with
  | object C =>
    obtain ⟨_, _, _, _, _, h4⟩ := h
    exact Option.some.inj (h2.symm.trans h4)
  | _ => exact Option.some.inj (h2.symm.trans h)
theorem mr_newa (hx : p.tables.exec = Jvm.exec) (hb : c.code = cc) {Ts : List Cond} (hts : ∀ w ∈ Ts, w.before args s = true) {L : List FieldType} (hK : va_K D cl (mv_tys dA L) s) (h0 : L[0]? = some .int) (h1 : L[1]? = some .byte) (h2 : L[2]? = some .boolean) (a0 : Cond.arrayClass .int ∈ Ts) (a1 : Cond.arrayClass .byte ∈ Ts) (a2 : Cond.arrayClass .boolean ∈ Ts) {at_ : ArrayType} (hdg : decode cc pc = .ok (.newarray at_, 2))
    (h : mv_newa pc lo st hp cb sb at_ = some (.inl S)) (k : mv_K base (mv_ad base kt) dA D cl nL p l e R s m args below meth c Q S) : mv_K base (mv_ad base kt) dA D cl nL p l e R s m args below meth c Q (pc, lo, st, hp, cb, sb) := by
  intro H ls locs cells slots I
  unfold mv_newa at h
  split at h
  · rename_i n r
    split at h
    · rename_i t ht
      split at h
      · rename_i hc
        obtain ⟨hn, hm, hc1, hc2⟩ := hc
        cases h
        have I5 : cells + cb ≤ R.cells := I.2.2.2.2.1
        have I6 : slots + sb ≤ R.slots := I.2.2.2.2.2.1
        have fin : ∀ (ty : FieldType), L[t]? = some ty → defaultValue ty = .int 0 → newarray.typeOf at_ = ty → (Cond.arrayClass ty).before args s = true → componentBytes ty ≤ 4 → W p l e R s m args below meth c H locs cells slots Q (F0 m pc ls (.int n :: r.map (mv_v (mv_ad base kt)))) := by
          intro ty hL hdef hty har hcb
          obtain ⟨t0, ht0⟩ := mv_tys_mem (dA := dA) hL
          have hbytes : n.toNatClampNeg * componentBytes ty ≤ 536870912 := Nat.le_trans (Nat.mul_le_mul hm hcb) (by decide)
          subst hty
          refine va_newaK hx hb har rfl hdg rfl hn rfl hbytes (by omega) (by omega) rfl fun H1 cA e1 z1 o1 _ hfc => ?_
          have hcA := mv_RAof (hK.2 t0 _ ht0).2 hfc
          subst hcA
          obtain ⟨I', hz⟩ := mv_inv_new (pc' := pc + 2) (st' := .ref hp.length :: r) (H1 := H1) I (e1 := .inl (t, n.toNatClampNeg, .inl (fun _ => 0))) hc1 hc2 (by
            show H1[H.size]? = some (vp_cell (dA t) (n.toNatClampNeg, .inl (fun _ => 0)))
            rw [e1, hdef, vp_cell_i]) z1 o1
          exact mv_new_eq hz k I'
        cases at_ <;> simp [mv_prim] at ht
        · subst ht
          exact fin .boolean h2 rfl rfl (hts _ a2) (by decide)
        · subst ht
          exact fin .byte h1 rfl rfl (hts _ a1) (by decide)
        · subst ht
          exact fin .int h0 rfl rfl (hts _ a0) (by decide)
      · cases h
    · cases h
  · cases h
theorem mr_anew (hx : p.tables.exec = Jvm.exec) (hb : c.code = cc) {Ts : List Cond} (hts : ∀ w ∈ Ts, w.before args s = true) {own : String} (hown : s.vm.findClass own = some m.cls) {L : List FieldType} (hK : va_K D cl (mv_tys dA L) s) {idx : Nat} (hdg : decode cc pc = .ok (.anewarray idx, 3)) (hokA : ∀ t, mv_gA G y idx = some t → (∃ C : String, L[t]? = some (.object C) ∧ Cond.classLink own idx C ∈ Ts ∧ Cond.arrayOver (.object C) ∈ Ts) ∨ ∃ ty : FieldType, L[t]? = some (.array ty) ∧ Cond.classLink own idx (FieldType.array ty).toString ∈ Ts ∧ Cond.arrayOver (.array ty) ∈ Ts)
    (h : mv_anew G y pc lo st hp cb sb idx = some (.inl S)) (k : mv_K base (mv_ad base kt) dA D cl nL p l e R s m args below meth c Q S) : mv_K base (mv_ad base kt) dA D cl nL p l e R s m args below meth c Q (pc, lo, st, hp, cb, sb) := by
  intro H ls locs cells slots I
  unfold mv_anew at h
  split at h
  · rename_i n r
    split at h
    · rename_i t ht
      split at h
      · rename_i hc
        obtain ⟨hn, hm, hc1, hc2⟩ := hc
        cases h
        have I5 : cells + cb ≤ R.cells := I.2.2.2.2.1
        have I6 : slots + sb ≤ R.slots := I.2.2.2.2.2.1
        have fin : ∀ (ty : FieldType) (cA : ClassId), L[t]? = some ty → s.vm.findClass ("[" ++ ty.toString) = some cA → W p l e R s m args below meth c (H.push ({ cls := cA, slots := Array.replicate n.toNatClampNeg .null, vm := .none } : Cell)) locs (cells + 1) (slots + n.toNatClampNeg) Q (F0 m (pc + 3) ls (.ref H.size :: r.map (mv_v (mv_ad base kt)))) := by
          intro ty cA hL hfc
          obtain ⟨t0, ht0⟩ := mv_tys_mem (dA := dA) hL
          have hcA := mv_RAof (hK.2 t0 _ ht0).2 hfc
          subst hcA
          generalize hH1 : H.push ({ cls := dA t, slots := Array.replicate n.toNatClampNeg .null, vm := .none } : Cell) = H1
          obtain ⟨I', hz⟩ := mv_inv_new (pc' := pc + 3) (st' := .ref hp.length :: r) (H1 := H1) I (e1 := .inl (t, n.toNatClampNeg, .inr (.inr (.inr (.inr (fun _ => none)))))) hc1 hc2 (by
            show H1[H.size]? = some (vp_cell (dA t) (n.toNatClampNeg, .inr (.inr (.inr (.inr (fun _ => none))))))
            rw [← hH1, Array.getElem?_push_size, arrV_new, vp_cell_q]
            rfl) (by rw [← hH1, Array.size_push]) (fun q hq => by rw [← hH1, Array.getElem?_push, if_neg (Nat.ne_of_lt hq)])
          exact mv_new_eq hz k I'
        rcases hokA _ ht with ⟨C, hL, k1, k2⟩ | ⟨ty, hL, k1, k2⟩
        · exact W.anew hx hb hown (hts _ k1) (hts _ k2) rfl hdg rfl hn (by omega) (by omega) (by omega) fun cA _ _ f1 _ _ _ => fin _ cA hL f1
        · exact W.anewA hx hb hown (hts _ k1) (hts _ k2) rfl hdg rfl hn (by omega) (by omega) (by omega) fun cA _ _ f1 _ _ _ => fin _ cA hL f1
      · cases h
    · cases h
  · cases h
end MVH2
end
section
/-! the small machine: how a call ends -/
section
variable (G : mv_G) (y pc : Nat) (st : List Value)
def mv_iret : Option mv_R := match st with
  | [.int v] => match mv_gR G y with
    | some ty => if narrow ty (.int v) = .int v then some (.inr (.inr (.inl (some (.int v))))) else none
    | none => none
  | _ => none
def mv_aret : Option mv_R := match st with
  | [v] => match mv_gR G y with
    | some ty => if ty.isReference = true ∧ mv_rfv v = true then some (.inr (.inr (.inl (some v)))) else none
    | none => none
  | _ => none
def mv_vret : Option mv_R := match st with
  | [] => match mv_gR G y with
    | none => some (.inr (.inr (.inl none)))
    | some _ => none
  | _ => none
def mv_throw : Option mv_R := match st with
  | .ref a :: _ => some (.inr (.inr (.inr a)))
  | _ => none
end
def mv_o (ad : Nat → Nat) : Nat ⊕ Option Value → Outcome
  | .inl a => .threw (ad a)
  | .inr v => .returned (v.map (mv_v ad))
/-- the end of a call, E, in the real machine: s behind its beginning, t at its end -/
def mv_end (base : Nat) (ad dA : Nat → Nat) (D : va_G) (cl : List vw_C) (R : Room) (s : State) (E : mv_E) (o : Outcome) (t : State) : Prop :=
  o = mv_o ad E.1 ∧ va_P D cl (mv_w ad dA 0 E.2.1) t.heap ∧ t.heap.size = base + E.2.1.length ∧ (∀ q : Nat, q < base → t.heap[q]? = s.heap[q]?) ∧ s.WarmedH t.vm ∧ (∃ (L : List Loc) (k n : Nat), k + E.2.2.1 ≤ R.cells ∧ n + E.2.2.2 ≤ R.slots ∧ s.sameButNew ({ t with vm := s.vm } : State) L k n ∧ ∀ q ∈ L, base ≤ q.base) ∧ E.2.1.length + E.2.2.1 ≤ mv_big
def mv_Z (base : Nat) (ad dA : Nat → Nat) (D : va_G) (cl : List vw_C) (R : Room) (s : State) (below : List Frame) (E : mv_E) : State → Prop := fun t => ∃ o, t.status = .running ∧ Ended t below o ∧ mv_end base ad dA D cl R s E o t
/-- the real machine goes on well where, standing at S, a has been thrown -/
def mv_KT (base : Nat) (ad dA : Nat → Nat) (D : va_G) (cl : List vw_C) (nL : Nat) (p : Program) (l : Launch) (e : Env) (R : Room) (s : State) (m : MethodId) (args : Array Value) (below : List Frame) (meth : Method) (c : Code) (Q : State → Prop) (S : mv_S) (a : Nat) : Prop :=
  ∀ (H : Heap) (ls : Array Slot) (locs : List Loc) (cells slots : Nat) (st : List Value), mv_inv base ad dA D cl nL R s S H ls locs cells slots → ∀ T : State, T.heap = H → Stand p l e R s m args below meth c T locs cells slots → ∃ t, Steps p.tables e below ((T.setTop (F0 m S.1 ls st)).pushFrame (.throwing (ad a))) t ∧ Q t
abbrev mv_MQ (base : Nat) (ad : Nat → Nat) (below : List Frame) (args : Array Value) (s : State) (cells slots : Nat) (H : Heap) (v : Option Value) : State → Prop := MQ below (fun _ _ o t => o = .returned (v.map (mv_v ad)) ∧ t.heap = H) args s cells slots (fun q => base ≤ q)
section MVE
variable {base : Nat} {kt dA : Nat → Nat} {D : va_G} {cl : List vw_C} {nL : Nat} {p : Program} {l : Launch} {e : Env} {R : Room} {s : State} {m : MethodId} {args : Array Value} {below : List Frame} {meth : Method} {c : Code} {Q : State → Prop} {cc : ByteArray} {G : mv_G} {y pc : Nat} {lo : List (Nat × Value)} {st : List Value} {hp : List va_E} {cb sb : Nat} {S : mv_S}
theorem mv_mono {H : Heap} {locs : List Loc} {cells slots : Nat} {Q' : State → Prop} {g : JFrame} (h : ∀ t, Q t → Q' t) (k : W p l e R s m args below meth c H locs cells slots Q g) : W p l e R s m args below meth c H locs cells slots Q' g := fun T hT X => by
  obtain ⟨t, a, b⟩ := k T hT X
  exact ⟨t, a, h t b⟩
theorem mv_end_ret {H : Heap} {ls : Array Slot} {locs : List Loc} {cells slots : Nat} {v : Option Value} (hbase : base ≤ s.heap.size) (I : mv_inv base (mv_ad base kt) dA D cl nL R s (pc, lo, st, hp, cb, sb) H ls locs cells slots) {t : State} (h : mv_MQ base (mv_ad base kt) below args s cells slots H v t) : mv_Z base (mv_ad base kt) dA D cl R s below (.inr v, hp, cb, sb) t := by
  obtain ⟨o, h1, h2, ⟨h3, h4⟩, L, ⟨h5, h6, h7⟩, h8⟩ := h
  obtain ⟨i1, i2, i3, i4, i5, i6, i7⟩ := I
  refine ⟨o, h1, h2, h3, by rw [h4]; exact i2, by rw [h4]; exact i3, fun q hq => ?_, h6, ⟨L, cells, slots, i5, i6, h7, h8⟩, i7⟩
  rw [h4]
  exact i4.2.1 q (by omega) (by omega)
theorem mr_iret (hx : p.tables.exec = Jvm.exec) (hb : c.code = cc) (hlocks : meth.locks = false) (hr : meth.sig.returnType = mv_gR G y) (hbase : base ≤ s.heap.size) (hdg : decode cc pc = .ok (.ireturn, 1)) {v : Option Value} (h : mv_iret G y st = some (.inr (.inr (.inl v)))) : mv_K base (mv_ad base kt) dA D cl nL p l e R s m args below meth c (mv_Z base (mv_ad base kt) dA D cl R s below (.inr v, hp, cb, sb)) (pc, lo, st, hp, cb, sb) := by
  intro H ls locs cells slots I
  unfold mv_iret at h
  split at h
  · rename_i x
    split at h
    · rename_i ty hty
      split at h
      · rename_i hn
        cases h
        refine mv_mono (Q := mv_MQ base (mv_ad base kt) below args s cells slots H _) (fun t => mv_end_ret hbase I) ?_
        exact W.zret (ty := ty) hx hb (hr.trans hty) hn (fun t ht _ => ⟨rfl, ht⟩) I.2.2.2.1.2.2 hdg
      · cases h
    · cases h
  · cases h
theorem mr_aret (hx : p.tables.exec = Jvm.exec) (hb : c.code = cc) (hlocks : meth.locks = false) (hr : meth.sig.returnType = mv_gR G y) (hbase : base ≤ s.heap.size) (hdg : decode cc pc = .ok (.areturn, 1)) {v : Option Value} (h : mv_aret G y st = some (.inr (.inr (.inl v)))) : mv_K base (mv_ad base kt) dA D cl nL p l e R s m args below meth c (mv_Z base (mv_ad base kt) dA D cl R s below (.inr v, hp, cb, sb)) (pc, lo, st, hp, cb, sb) := by
  intro H ls locs cells slots I
  unfold mv_aret at h
  split at h
  · rename_i x
    split at h
    · rename_i ty hty
      split at h
      · rename_i hn
        cases h
        refine mv_mono (Q := mv_MQ base (mv_ad base kt) below args s cells slots H _) (fun t => mv_end_ret hbase I) ?_
        have hrt : (∃ n, ty = .object n) ∨ ∃ t, ty = .array t := by
          cases ty <;> first | exact Or.inl ⟨_, rfl⟩ | exact Or.inr ⟨_, rfl⟩ | exact absurd hn.1 (by decide)
        have hv : mv_v (mv_ad base kt) x = .null ∨ ∃ a, mv_v (mv_ad base kt) x = .ref a := by
          cases x <;> first | exact Or.inl rfl | exact Or.inr ⟨_, rfl⟩ | exact absurd hn.2 (by simp [mv_rfv])
        exact W.aret (rt := ty) hx hb (hr.trans hty) hrt hv (fun t ht _ => ⟨rfl, ht⟩) I.2.2.2.1.2.2 hdg
      · cases h
    · cases h
  · cases h
theorem mr_vret (hx : p.tables.exec = Jvm.exec) (hb : c.code = cc) (hlocks : meth.locks = false) (hr : meth.sig.returnType = mv_gR G y) (hbase : base ≤ s.heap.size) (hdg : decode cc pc = .ok (.return_, 1)) {v : Option Value} (h : mv_vret G y st = some (.inr (.inr (.inl v)))) : mv_K base (mv_ad base kt) dA D cl nL p l e R s m args below meth c (mv_Z base (mv_ad base kt) dA D cl R s below (.inr v, hp, cb, sb)) (pc, lo, st, hp, cb, sb) := by
  intro H ls locs cells slots I
  unfold mv_vret at h
  split at h
  · split at h
    · rename_i hty
      cases h
      refine mv_mono (Q := mv_MQ base (mv_ad base kt) below args s cells slots H _) (fun t => mv_end_ret hbase I) ?_
      exact W.vret hx hb (hr.trans hty) (fun t ht _ => ⟨rfl, ht⟩) I.2.2.2.1.2.2 hdg
    · cases h
  · cases h
/-- an object is thrown by the instruction -/
theorem mr_throw (hx : p.tables.exec = Jvm.exec) (hb : c.code = cc) (hdg : decode cc pc = .ok (.athrow, 1)) {a : Nat} (h : mv_throw st = some (.inr (.inr (.inr a)))) (k : mv_KT base (mv_ad base kt) dA D cl nL p l e R s m args below meth c Q (pc, lo, st, hp, cb, sb) a) : mv_K base (mv_ad base kt) dA D cl nL p l e R s m args below meth c Q (pc, lo, st, hp, cb, sb) := by
  intro H ls locs cells slots I
  unfold mv_throw at h
  split at h
  · rename_i b r
    cases h
    intro T hT X
    obtain ⟨t, h1, h2⟩ := k H ls locs cells slots (r.map (mv_v (mv_ad base kt))) I T hT X
    refine ⟨t, ?_, h2⟩
    show Steps p.tables e below (T.setTop (F0 m pc ls (.ref (mv_ad base kt a) :: r.map (mv_v (mv_ad base kt))))) t
    jvm_step X.here [X.here.top, hx, hb, hdg, athrow.wp_sem]
    exact h1
  · cases h
/-- nothing in the method takes it -/
theorem mr_out (hlocks : meth.locks = false) (hbase : base ≤ s.heap.size) (hout : ∀ x ∈ c.exceptionTable.toList, covers x pc = false) (a : Nat) : mv_KT base (mv_ad base kt) dA D cl nL p l e R s m args below meth c (mv_Z base (mv_ad base kt) dA D cl R s below (.inl a, hp, cb, sb)) (pc, lo, st, hp, cb, sb) a := by
  intro H ls locs cells slots st9 I T hT X
  obtain ⟨h1, h2, h3, h4, h5⟩ := X.leaveThrown (mv_ad base kt a) (g := F0 m pc ls st9) rfl rfl rfl hout
  obtain ⟨i1, i2, i3, i4, i5, i6, i7⟩ := I
  have hh : (T.setFrames (.throwing (mv_ad base kt a) :: below)).heap = H := hT
  refine ⟨_, h1, _, h2, h3, rfl, by rw [hh]; exact i2, by rw [hh]; exact i3, fun q hq => ?_, h4, ⟨locs, cells, slots, i5, i6, h5, i4.2.2⟩, i7⟩
  rw [hh]
  exact i4.2.1 q (by omega) (by omega)
end MVE
/-! a handler, cold or warm -/
theorem mv_go_cold {Et : CtlPost} {e : Env} {d : Bool} {acts : List Action} {s : State} {f : JFrame} {a : Addr} {Q : Handler → Pre} {x : ExceptionTableEntry} {t : List ExceptionTableEntry} {c : ClassId} {vm' : Vm} {cell : Cell} (hx : covers x f.pc = true) (h0 : x.catchType ≠ 0)
    (hg : (Jvm.resolveClass f.method.cls x.catchType).Gives e.toSetting s.vm (.ok c) vm') (hsz : vm'.classes.size ≤ s.vm.classes.size) (hcell : s.heap[a]? = some cell) (hobj : ∀ k, cell.vm ≠ .statics k)
    (hk : ∃ k, vm'.classes[cell.cls]? = some k) (hc : ∃ k, vm'.classes[c]? = some k) (hfit : vm'.assignable cell.cls c = true) :
    wp (findHandler.go f a (x :: t)) Q Et e d acts s ↔ Q (.found x.handlerPc) d acts (s.setVm vm') := by
  simp only [covers] at hx
  obtain ⟨ha, ht⟩ := hg.op (op := VmOp.resolveClass f.method.cls x.catchType) rfl
  simp [findHandler.go, hx, h0, ha, ht, hsz, hcell, hobj, hk, hc, hfit, VmOp.dirties, VmOp.acts]
end
section
/-! the small machine: handlers -/
def mv_hand : List (Nat × Nat × Nat × Nat) → Nat → Option (Nat × Nat)
  | [], _ => none
  | (a, b, h, ct) :: r, pc => if a ≤ pc ∧ pc < b then some (h, ct) else mv_hand r pc
abbrev mv_proj (h : ExceptionTableEntry) : Nat × Nat × Nat × Nat := (h.startPc, h.endPc, h.handlerPc, h.catchType)
theorem mv_hand_none {pc : Nat} : ∀ (L : List ExceptionTableEntry), mv_hand (L.map mv_proj) pc = none → ∀ x ∈ L, covers x pc = false
  | [], _, x, hx => by cases hx
  | z :: r, h, x, hx => by
    rw [List.map_cons] at h
    unfold mv_hand at h
    split at h
    · cases h
    · rename_i hn
      rcases List.mem_cons.mp hx with rfl | hx
      · show (decide (x.startPc ≤ pc) && decide (pc < x.endPc)) = false
        simp only [Bool.and_eq_false_iff, decide_eq_false_iff_not]
        by_cases h1 : x.startPc ≤ pc
        · exact Or.inr (fun h2 => hn ⟨h1, h2⟩)
        · exact Or.inl h1
      · exact mv_hand_none r h x hx
theorem mv_hand_some {pc h ct : Nat} : ∀ (L : List ExceptionTableEntry), mv_hand (L.map mv_proj) pc = some (h, ct) → ∃ (pre : List ExceptionTableEntry) (x : ExceptionTableEntry) (rest : List ExceptionTableEntry), L = pre ++ x :: rest ∧ (∀ z ∈ pre, covers z pc = false) ∧ covers x pc = true ∧ x.handlerPc = h ∧ x.catchType = ct
  | [], q => by cases q
  | z :: r, q => by
    rw [List.map_cons] at q
    unfold mv_hand at q
    split at q
    · rename_i hc
      cases q
      refine ⟨[], z, r, rfl, (fun w hw => absurd hw List.not_mem_nil), ?_, rfl, rfl⟩
      show (decide (z.startPc ≤ pc) && decide (pc < z.endPc)) = true
      simp only [Bool.and_eq_true, decide_eq_true_eq]
      exact hc
    · rename_i hn
      obtain ⟨pre, x, rest, h1, h2, h3, h4, h5⟩ := mv_hand_some r q
      refine ⟨z :: pre, x, rest, by rw [h1]; rfl, fun w hw => ?_, h3, h4, h5⟩
      rcases List.mem_cons.mp hw with rfl | hw
      · show (decide (w.startPc ≤ pc) && decide (pc < w.endPc)) = false
        simp only [Bool.and_eq_false_iff, decide_eq_false_iff_not]
        by_cases g1 : w.startPc ≤ pc
        · exact Or.inr (fun g2 => hn ⟨g1, g2⟩)
        · exact Or.inl g1
      · exact h2 w hw
theorem mv_stepCatch {e : Env} {s : State} {a : Addr} {f : JFrame} {r : List Frame} {pc : Nat} {vm' : Vm} (hfind : ∀ (Q : Handler → Pre) (Et : CtlPost) (d : Bool) (acts : List Action), wp (findHandler f a) Q Et e d acts s ↔ Q (.found pc) d acts (s.setVm vm')) :
    (stepThrowing e s a (.java f :: r)).1 = (s.setVm vm').setFrames (.java { f with pc := pc, stack := [.ref a] } :: r) := by
  simp only [stepThrowing, searchFrame, vmDo]
  generalize hr : Sem.go _ e false [] s = res
  obtain ⟨as, rfl, ha⟩ := Sem.eq_ok_of hr (a := Handler.found pc) (s' := s.setVm vm') (acts' := []) (by simp [hfind _ _ _ _])
  rfl
theorem mv_stepsCatch {tb : Tables} {e : Env} {s target : State} {g : JFrame} {c : Code} {below : List Frame} {a : Addr} (h : At s g.method c below) {pc : Nat} {vm' : Vm} (hfind : ∀ (Q : Handler → Pre) (Et : CtlPost) (d : Bool) (acts : List Action), wp (findHandler g a) Q Et e d acts ((s.setTop g).pushFrame (.throwing a)) ↔ Q (.found pc) d acts (((s.setTop g).pushFrame (.throwing a)).setVm vm'))
    (hrest : Steps tb e below ((s.setVm vm').setTop { g with pc := pc, stack := [.ref a] }) target) : Steps tb e below ((s.setTop g).pushFrame (.throwing a)) target := by
  obtain ⟨hgo, hw⟩ := h.throwing a
  refine Steps.head hgo hw ?_
  rw [stepThread_throwing (frames_entered h.top _), mv_stepCatch (s := (s.setTop g).pushFrame (.throwing a)) hfind]
  obtain ⟨g₀, hg⟩ := Option.isSome_iff_exists.mp h.top
  obtain ⟨r, hr⟩ := State.topJava?_eq_some.mp hg
  have hr2 : (s.setVm vm').frames = .java g₀ :: r := hr
  rw [State.setTop_of_frames _ hr2] at hrest
  have e1 : (((s.setTop g).pushFrame (.throwing a)).setVm vm').setFrames (.java { g with pc := pc, stack := [.ref a] } :: s.frames.tail) = (s.setVm vm').setFrames (.java { g with pc := pc, stack := [.ref a] } :: r) := by
    rw [State.pushFrame, State.setTop_of_frames _ hr, hr]
    show (((s.setFrames _).setFrames _).setVm vm').setFrames _ = _
    rw [State.setFrames_setFrames]
    show ((s.setFrames _).setFrames _).setVm vm' = _
    rw [State.setFrames_setFrames]
    rfl
  rw [e1]
  exact hrest
section MVC
variable {base : Nat} {kt dA : Nat → Nat} {D : va_G} {cl : List vw_C} {nL : Nat} {p : Program} {l : Launch} {e : Env} {R : Room} {s : State} {m : MethodId} {args : Array Value} {below : List Frame} {meth : Method} {c : Code} {Q : State → Prop} {cc : ByteArray} {G : mv_G} {y pc : Nat} {lo : List (Nat × Value)} {st : List Value} {hp : List va_E} {cb sb : Nat} {S : mv_S}
/-- a handler of the method takes it -/
theorem mr_catch {Ts : List Cond} (hts : ∀ w ∈ Ts, w.before args s = true) {own : String} (hown : s.vm.findClass own = some m.cls) {tys : List (ClassId × FieldType)} (hK : va_K D cl tys s) {hh : List (Nat × Nat × Nat × Nat)} (hh1 : c.exceptionTable.toList.map mv_proj = hh) {h ct a ci : Nat} {fs : List Value} (hf : mv_hand hh pc = some (h, ct)) (ho : hp[a]? = some (.inr (ci, fs))) {C : String} {T0 : u_T} {N : Nat} (hC : cl[ci]? = some (C, T0, N)) (hct : ct ≠ 0) (hlink : Cond.classLink own ct C ∈ Ts)
    (k : mv_K base (mv_ad base kt) dA D cl nL p l e R s m args below meth c Q (h, lo, [.ref a], hp, cb, sb)) : mv_KT base (mv_ad base kt) dA D cl nL p l e R s m args below meth c Q (pc, lo, st, hp, cb, sb) a := by
  intro H ls locs cells slots st9 I T hT X
  rw [← hh1] at hf
  obtain ⟨pre, x, rest, h1, h2, h3, h4, h5⟩ := mv_hand_some _ hf
  have hpl : e.platform.magicAccessors = ({} : Platform).magicAccessors := by rw [X.admits.platform]
  obtain ⟨cc9, hfcc, hcl⟩ := Cond.classLink_spec hown (hts _ hlink) e.platform hpl
  obtain ⟨hg₁, hwarm₁, hready₁⟩ := State.classEntry (e := e) X.warmed hcl
  obtain ⟨hS, hfc, kC, hkC, hkind⟩ := hK.1 ci _ hC
  cases hfc.symm.trans hfcc
  obtain ⟨hat, -, -⟩ := mv_inv_at I ho
  obtain ⟨rr, r1, cell, q1, q2, q3, q4⟩ := hat
  have hsz : (T.vm.noted m.cls ct (.cls (D.1 ci))).classes.size ≤ T.vm.classes.size := Nat.le_of_eq (Vm.size_noted _ _ _ _)
  obtain ⟨k1, hk1, -⟩ := hwarm₁.alike.2.2 _ _ hkC
  generalize hvm : T.vm.noted m.cls ct (.cls (D.1 ci)) = vm₁ at hg₁ hwarm₁ hready₁ hsz hk1
  have hmt : T.vm.method? m = some meth := X.method'
  have X₁ := X.noted hwarm₁
  obtain ⟨t, a1, b1⟩ := k H ls locs cells slots I (T.setVm vm₁) hT X₁
  refine ⟨t, mv_stepsCatch (g := F0 m pc ls st9) X.here (pc := h) (vm' := vm₁) (fun Q9 Et d acts => ?_) a1, b1⟩
  have e1 : ((T.setTop (F0 m pc ls st9)).pushFrame (.throwing (mv_ad base kt a))).vm = T.vm := Stand.throwing_vm T _ _
  have e2 : ((T.setTop (F0 m pc ls st9)).pushFrame (.throwing (mv_ad base kt a))).heap = T.heap := Stand.throwing_heap T _ _
  rw [W.findHandler_eq (meth := meth) (code := c) (by rw [e1]; exact hmt) X.code, h1]
  clear h1
  induction pre with
  | nil =>
    subst h4
    rw [List.nil_append]
    exact mv_go_cold (c := D.1 ci) (cell := cell) h3 (by rw [h5]; exact hct) (by rw [h5, e1]; exact hg₁) (by rw [e1]; exact hsz) (by rw [e2, hT]; exact q1) (fun z => by rw [q3]; exact fun q => by cases q) ⟨k1, by rw [q2]; exact hk1⟩ ⟨k1, hk1⟩ (by rw [q2]; exact va_asg _ _)
  | cons z r ih =>
    rw [List.cons_append, W.findHandler_go_skip (h2 z List.mem_cons_self)]
    exact ih (fun w hw => h2 w (List.mem_cons_of_mem _ hw))
end MVC
end
section
/-! the small machine: calls -/
section
variable (G : mv_G) (y pc : Nat) (l : List (Nat × Value)) (st : List Value) (hp : List va_E) (cb sb : Nat)
def mv_callS (idx : Nat) : Option mv_R := match mv_gC G y idx with
  | some (kd, z, n) => if (kd = 0 ∨ kd = 1) ∧ n ≤ st.length then some (.inr (.inl (z, (st.take n).reverse, st.drop n, 3))) else none
  | none => none
def mv_callV (idx : Nat) : Option mv_R := match mv_gC G y idx with
  | some (kd, z, n) => match st.drop n with
    | .ref a :: r => match hp[a]? with
      | some (.inr (ci, _)) => if (kd = 2 ∨ kd = 3) ∧ ci = mv_gW G z then some (.inr (.inl (z, .ref a :: (st.take n).reverse, r, 3))) else none
      | _ => none
    | _ => none
  | none => none
def mv_callI (idx : Nat) : Option mv_R := match mv_gC G y idx with
  | some (kd, z, n) => match st.drop n with
    | .ref a :: r => if kd = 4 ∨ kd = 5 then some (.inr (.inl (z, .ref a :: (st.take n).reverse, r, 3))) else none
    | _ => none
  | none => none
end
/-- a method's code is in the tables -/
def mv_okM (Nm : Nat → MethodName) (Cd : Nat → ByteArray) (Ts : List Cond) (G : mv_G) (z : Nat) : Prop := ((Cond.code (Nm z) (Cd z) (mv_gL G z) (mv_gR G z) ∈ Ts ∧ mv_gH G z = []) ∨ Cond.codeWith (Nm z) (Cd z) (mv_gL G z) (mv_gR G z) (mv_gH G z) ∈ Ts) ∧ plainFor (Nm z) = true ∧ ((Nm z).cls ≠ "java/lang/invoke/MethodHandle" ∧ (Nm z).cls ≠ "java/lang/invoke/VarHandle")
def mv_okK (Ts : List Cond) (own : String) (idx : Nat) (x : MethodName) : Prop := Cond.methodLink own idx x ∈ Ts ∨ ∃ host : String, Cond.methodLinkNest own idx x host ∈ Ts
def mv_okN (x : MethodName) (n : Nat) : Prop := ∀ sig, parseMethodDescriptor x.desc = some sig → n = sig.parameters.length
def mv_okS (Nm : Nat → MethodName) (Ts : List Cond) (own : String) (idx z n : Nat) : Prop := mv_okK Ts own idx (Nm z) ∧ Cond.static (Nm z) ∈ Ts ∧ Cond.initialized (Nm z).cls ∈ Ts ∧ mv_okN (Nm z) n
def mv_okV (Nm : Nat → MethodName) (cl : List vw_C) (Ts : List Cond) (G : mv_G) (own : String) (idx z n : Nat) : Prop := mv_okK Ts own idx (Nm z) ∧ Cond.instanceMethod (Nm z) ∈ Ts ∧ Cond.selects (Nm z).cls (Nm z) (Nm z) ∈ Ts ∧ (∃ (T : u_T) (N : Nat), cl[mv_gW G z]? = some ((Nm z).cls, T, N)) ∧ mv_okN (Nm z) n
def mv_okI (Nm : Nat → MethodName) (Cd : Nat → ByteArray) (Ts : List Cond) (G : mv_G) (own : String) (idx z n : Nat) : Prop := mv_okK Ts own idx (Nm z) ∧ Cond.instanceMethod (Nm z) ∈ Ts ∧ (Nm z).name = "<init>" ∧ Cond.code (Nm z) (Cd z) (mv_gL G z) none ∈ Ts ∧ mv_okN (Nm z) n
/-- a method's code in a state whose tables hold its word -/
theorem mv_meth {Nm : Nat → MethodName} {Cd : Nat → ByteArray} {Ts : List Cond} {G : mv_G} {z : Nat} {s : State} {args : Array Value} (hok : mv_okM Nm Cd Ts G z) (hts : ∀ w ∈ Ts, w.before args s = true) : ∃ (mk : MethodId) (methk : Method) (ck : Code), s.methodNamed? (Nm z) = some mk ∧ s.vm.method? mk = some methk ∧ methk.code = some ck ∧ ck.code = Cd z ∧ ck.maxLocals = mv_gL G z ∧ methk.sig.returnType = mv_gR G z ∧ methk.locks = false ∧ ck.exceptionTable.toList.map mv_proj = mv_gH G z ∧ parseMethodDescriptor (Nm z).desc = some methk.sig := by
  obtain ⟨h | h, -⟩ := hok
  · obtain ⟨mk, hn⟩ := Cond.code_named (hts _ h.1)
    obtain ⟨methk, ck, h1, h2, h3, h4, h5, h6, h7, h8⟩ := Cond.code_spec hn (hts _ h.1)
    refine ⟨mk, methk, ck, hn, h1, h2, h3, h4, h5, h6, ?_, h8⟩
    have h0 : ck.exceptionTable.size = 0 := by simpa [Array.isEmpty] using h7
    have h9 : ck.exceptionTable.toList = [] := List.eq_nil_of_length_eq_zero (by simpa using h0)
    rw [h9, h.2]
    rfl
  · obtain ⟨mk, methk, ck, hn, h1, h2, h3, h4, h5, h6, h7, h8⟩ := Cond.codeWith_spec (hts _ h)
    exact ⟨mk, methk, ck, hn, h1, h2, h3, h4, h6, h7, h5, h8⟩
section MVA
variable {base : Nat} {ad dA : Nat → Nat} {D : va_G} {cl : List vw_C} {p : Program} {l : Launch} {e : Env} {R : Room} {s : State} {m : MethodId} {args : Array Value} {below : List Frame} {meth : Method} {c : Code} {cc : ByteArray} {G : mv_G} {y pc : Nat} {st : List Value} {T : State} {locs : List Loc} {cells slots : Nat} {ls : Array Slot} {Nm : Nat → MethodName} {Cd : Nat → ByteArray} {Ts : List Cond} {own : String} {idx z n : Nat}
/-- the real machine comes to the invocation of z with these arguments, r on the stack below them -/
def mv_Arr (p : Program) (l : Launch) (e : Env) (R : Room) (s : State) (m : MethodId) (args : Array Value) (below : List Frame) (meth : Method) (c : Code) (T : State) (locs : List Loc) (cells slots : Nat) (x : MethodName) (pc : Nat) (ls : Array Slot) (stk : List Value) (as r : List Value) : Prop :=
  ∃ (mk : MethodId) (vm₁ : Vm), Stand p l e R s m args below meth c (T.setVm vm₁) locs cells slots ∧ s.methodNamed? x = some mk ∧ ∀ target, Steps p.tables e below (doInvoke e ((T.setVm vm₁).setTop (F0 m pc ls r)) [] mk as.toArray).1 target → Steps p.tables e below (T.setTop (F0 m pc ls stk)) target
theorem mv_split (ad : Nat → Nat) (st : List Value) (n : Nat) : st.map (mv_v ad) = ((st.take n).reverse.map (mv_v ad)).reverse ++ (st.drop n).map (mv_v ad) := by
  rw [List.map_reverse, List.reverse_reverse, ← List.map_append, List.take_append_drop]
theorem mv_arrS (X : Stand p l e R s m args below meth c T locs cells slots) (hx : p.tables.exec = Jvm.exec) (hb : c.code = cc) (hown : s.vm.findClass own = some m.cls) (hts : ∀ w ∈ Ts, w.before args s = true) (hM : mv_okM Nm Cd Ts G z) (hok : mv_okS Nm Ts own idx z n) (hn : n ≤ st.length) (hdg : decode cc pc = .ok (.invokestatic idx, 3)) :
    mv_Arr p l e R s m args below meth c T locs cells slots (Nm z) pc ls (st.map (mv_v ad)) ((st.take n).reverse.map (mv_v ad)) ((st.drop n).map (mv_v ad)) := by
  obtain ⟨mk, methk, ck, hnm, h1, h2, h3, h4, h5, h6, h7, h8⟩ := mv_meth hM hts
  obtain ⟨hl, o1, o2, o3⟩ := hok
  have hstatic : methk.isStatic = true := Cond.static_spec hnm h1 (hts _ o1)
  obtain ⟨kP, hkP, -⟩ := className_of_methodNamed hnm
  have hinitP : kP.init = .initialized := Cond.initialized_spec (findClass_of_methodNamed hnm) hkP (hts _ o2)
  have hlen : ((st.take n).reverse.map (mv_v ad)).length = methk.sig.parameters.length := by
    rw [List.length_map, List.length_reverse, List.length_take, Nat.min_eq_left hn]
    exact o3 _ h8
  rcases hl with hl | ⟨host, hl⟩
  · obtain ⟨vm₁, X₁, st₁⟩ := X.invokestatic hx hown (hts _ hl) hnm h1 hstatic hkP hinitP hM.2.2 (g := F0 m pc ls (st.map (mv_v ad))) rfl hlen (mv_split ad st n) (by rw [hb]; exact hdg)
    exact ⟨mk, vm₁, X₁, hnm, fun target h => st₁ target fun acts => by rw [doInvoke_state]; exact h⟩
  · obtain ⟨vm₁, X₁, st₁⟩ := X.invokestaticNest hx hown (hts _ hl) hnm h1 hstatic hkP hinitP hM.2.2 (g := F0 m pc ls (st.map (mv_v ad))) rfl hlen (mv_split ad st n) (by rw [hb]; exact hdg)
    exact ⟨mk, vm₁, X₁, hnm, fun target h => st₁ target fun acts => by rw [doInvoke_state]; exact h⟩
theorem mv_split1 {ad : Nat → Nat} {st : List Value} {n a : Nat} {r : List Value} (h : st.drop n = .ref a :: r) : st.map (mv_v ad) = ((st.take n).reverse.map (mv_v ad)).reverse ++ .ref (ad a) :: r.map (mv_v ad) ∧ n ≤ st.length := by
  refine ⟨?_, ?_⟩
  · rw [mv_split ad st n, h]
    rfl
  · rcases Nat.le_total n st.length with q | q
    · exact q
    · rw [List.drop_eq_nil_of_le q] at h
      cases h
theorem mv_arrV (X : Stand p l e R s m args below meth c T locs cells slots) (hx : p.tables.exec = Jvm.exec) (hb : c.code = cc) (hown : s.vm.findClass own = some m.cls) (hts : ∀ w ∈ Ts, w.before args s = true) (hM : mv_okM Nm Cd Ts G z) (hok : mv_okV Nm cl Ts G own idx z n) {tys : List (ClassId × FieldType)} (hK : va_K D cl tys s) {a : Nat} {fs r : List Value} (hst : st.drop n = .ref a :: r) (hat : va_at D cl (ad a, .inr (mv_gW G z, fs)) T.heap) (hdg : decode cc pc = .ok (.invokevirtual idx, 3)) :
    mv_Arr p l e R s m args below meth c T locs cells slots (Nm z) pc ls (st.map (mv_v ad)) (.ref (ad a) :: (st.take n).reverse.map (mv_v ad)) (r.map (mv_v ad)) := by
  obtain ⟨mk, methk, ck, hnm, h1, h2, h3, h4, h5, h6, h7, h8⟩ := mv_meth hM hts
  obtain ⟨hl, o1, o2, ⟨T0, N0, o3⟩, o4⟩ := hok
  obtain ⟨mk', methM, hnamed, hmethM, hstM, habM⟩ := Cond.instanceMethod_spec (hts _ o1)
  cases hnm.symm.trans hnamed
  cases h1.symm.trans hmethM
  obtain ⟨hS, hfc, kC, hkC, hkind⟩ := hK.1 _ _ o3
  obtain ⟨rr, r1, cell, q1, q2, q3, q4⟩ := hat
  obtain ⟨c2, r2, m2, g1, g2, g3, g4, kP, hkP, hkPi⟩ := Cond.selects_spec (hts _ o2)
  cases hfc.symm.trans g1
  cases (State.methodFound?_of_named hnm hM.2.2).symm.trans g2
  cases hnm.symm.trans g3
  have hselP : selectMethod e.platform s.vm cell.cls mk = .method mk := by rw [Launch.admits_selectMethod X.admits, q2]; exact g4
  obtain ⟨hs1, hs2⟩ := mv_split1 (ad := ad) hst
  have hlen : ((st.take n).reverse.map (mv_v ad)).length = methk.sig.parameters.length := by
    rw [List.length_map, List.length_reverse, List.length_take, Nat.min_eq_left hs2]
    exact o4 _ h8
  rcases hl with hl | ⟨host, hl⟩
  · obtain ⟨vm₁, X₁, st₁⟩ := X.invokevirtual hx hown (hts _ hl) hnm h1 hstM hkP hkPi hM.2.2 (a := ad a) (cell := cell) q1 (fun q h => by rw [q3] at h; cases h) hselP h1 habM hkP hkPi (g := F0 m pc ls (st.map (mv_v ad))) rfl hlen hs1 (by rw [hb]; exact hdg)
    exact ⟨mk, vm₁, X₁, hnm, fun target h => st₁ target fun acts => by rw [doInvoke_state]; exact h⟩
  · obtain ⟨vm₁, X₁, st₁⟩ := X.invokevirtualNest hx hown (hts _ hl) hnm h1 hstM hkP hkPi hM.2.2 (a := ad a) (cell := cell) q1 (fun q h => by rw [q3] at h; cases h) hselP h1 habM hkP hkPi (g := F0 m pc ls (st.map (mv_v ad))) rfl hlen hs1 (by rw [hb]; exact hdg)
    exact ⟨mk, vm₁, X₁, hnm, fun target h => st₁ target fun acts => by rw [doInvoke_state]; exact h⟩
theorem mv_arrI (X : Stand p l e R s m args below meth c T locs cells slots) (hx : p.tables.exec = Jvm.exec) (hb : c.code = cc) (hown : s.vm.findClass own = some m.cls) (hts : ∀ w ∈ Ts, w.before args s = true) (hM : mv_okM Nm Cd Ts G z) (hok : mv_okI Nm Cd Ts G own idx z n) {a : Nat} {r : List Value} (hst : st.drop n = .ref a :: r) (hdg : decode cc pc = .ok (.invokespecial idx, 3)) :
    mv_Arr p l e R s m args below meth c T locs cells slots (Nm z) pc ls (st.map (mv_v ad)) (.ref (ad a) :: (st.take n).reverse.map (mv_v ad)) (r.map (mv_v ad)) := by
  obtain ⟨hl, o1, o2, o3, o4⟩ := hok
  obtain ⟨hs1, hs2⟩ := mv_split1 (ad := ad) hst
  have hlen : ∀ sig, parseMethodDescriptor (Nm z).desc = some sig → ((st.take n).reverse.map (mv_v ad)).length = sig.parameters.length := fun sig h => by
    rw [List.length_map, List.length_reverse, List.length_take, Nat.min_eq_left hs2]
    exact o4 _ h
  have hpl : e.platform.magicAccessors = ({} : Platform).magicAccessors := by rw [X.admits.platform]
  rcases hl with hl | ⟨host, hl⟩
  · obtain ⟨mk, methM, cM, kP, vm₁, hnamed, -, -, -, -, -, -, -, hW₁, st₁⟩ := Steps.initColdArgs (tb := p.tables) (e := e) X.here hx X.warmed hpl hown o2 hM.2.2 (hts _ hl) (hts _ o1) (hts _ o3) (f := F0 m pc ls (st.map (mv_v ad))) rfl hlen hs1 (by rw [hb]; exact hdg)
    exact ⟨mk, vm₁, X.noted hW₁, hnamed, fun target h => st₁ target fun acts => by rw [doInvoke_state]; exact h⟩
  · obtain ⟨mk, methM, cM, kP, vm₁, hnamed, -, -, -, -, -, -, -, hW₁, st₁⟩ := Steps.initColdArgsNest (tb := p.tables) (e := e) X.here hx X.warmed hpl hown o2 hM.2.2 (hts _ hl) (hts _ o1) (hts _ o3) (f := F0 m pc ls (st.map (mv_v ad))) rfl hlen hs1 (by rw [hb]; exact hdg)
    exact ⟨mk, vm₁, X.noted hW₁, hnamed, fun target h => st₁ target fun acts => by rw [doInvoke_state]; exact h⟩
end MVA
end
section
/-! the small machine: constants; stores of references; the premises on the tables -/
section
variable (G : mv_G) (y pc : Nat) (l : List (Nat × Value)) (st : List Value) (hp : List va_E) (cb sb : Nat)
def mv_ldc (idx len : Nat) : Option mv_R := match mv_gK G y idx with
  | some (.int v) => some (.inl (pc + len, l, .int v :: st, hp, cb, sb))
  | some (.ref a) => some (.inl (pc + len, l, .ref a :: st, hp, cb, sb))
  | _ => none
def mv_aast : Option mv_R := match st with
  | v :: .int i :: .ref a :: r => match hp[a]? with
    | some (.inl (t, n, .inr (.inr (.inr (.inr g))))) => match mv_gE G t with
      | some ci => if mv_out i n = false then match v with
          | .null => some (.inl (pc + 1, l, r, hp.set a (.inl (t, n, .inr (.inr (.inr (.inr (va_up g i.toNatClampNeg none)))))), cb, sb))
          | .ref b => match hp[b]? with
            | some (.inr (cj, _)) => if cj = ci then some (.inl (pc + 1, l, r, hp.set a (.inl (t, n, .inr (.inr (.inr (.inr (va_up g i.toNatClampNeg (some b))))))), cb, sb)) else none
            | _ => none
          | _ => none
        else none
      | none => none
    | _ => none
  | _ => none
end
/-- the types of arrays -/
def mv_okL (L : List FieldType) (Ts : List Cond) (G : mv_G) : Prop := L[0]? = some .int ∧ L[1]? = some .byte ∧ L[2]? = some .boolean ∧ Cond.arrayClass .int ∈ Ts ∧ Cond.arrayClass .byte ∈ Ts ∧ Cond.arrayClass .boolean ∈ Ts ∧ (∀ t ty, mv_gY G t = some ty → L[t]? = some ty) ∧ ∀ t t2, mv_gB G t = some t2 → ∃ ty : FieldType, (ty = .byte ∨ ty = .array .byte) ∧ L[t]? = some (.array ty) ∧ L[t2]? = some ty ∧ Cond.arrayOver (.array ty) ∈ Ts
/-- the class of the places of an array of objects -/
def mv_okE (cl : List vw_C) (L : List FieldType) (G : mv_G) : Prop := ∀ t ci, mv_gE G t = some ci → ∃ (C : String) (T : u_T) (N : Nat), cl[ci]? = some (C, T, N) ∧ L[t]? = some (.object C)
/-- constants of text, as a state has them -/
def mv_okT (Nm : Nat → MethodName) (G : mv_G) (kt : Nat → Nat) (s : State) (y : Nat) : Prop := ∀ idx a, mv_gK G y idx = some (.ref a) → mv_big ≤ a ∧ ∃ tx : String, vk_R (Nm y).cls idx tx (kt (a - mv_big)) s
def mv_okQ (Nm : Nat → MethodName) (cl : List vw_C) (Ts : List Cond) (y idx ci k : Nat) : Prop := ∃ (C : String) (T : u_T) (N : Nat), cl[ci]? = some (C, T, N) ∧ (T k).1 = (Nm y).cls ∧ Cond.fieldLink (Nm y).cls idx (T k).1 (T k).2.1 (T k).2.2.1 ∈ Ts ∧ (Nm y).name = "<init>"
theorem mv_okP_of {Nm : Nat → MethodName} {cl : List vw_C} {Ts : List Cond} {y idx ci k : Nat} {meth : Method} (hname : meth.name = (Nm y).name) (h : mv_okQ Nm cl Ts y idx ci k) : mv_okP cl Ts meth (Nm y).cls idx ci k := by
  obtain ⟨C, T, N, h1, h2, h3, h4⟩ := h
  exact ⟨C, T, N, h1, h2, h3, hname.trans h4⟩
/-- a constant pool number of arrays of arrays: of two dimensions (types t, t1), or of three -/
def mv_okGr (L : List FieldType) (Ts : List Cond) (own : String) (idx t t1 t2 : Nat) : Prop := ∃ ty : FieldType, (ty = .int ∨ ty = .byte) ∧ Cond.arrayClass ty ∈ Ts ∧ ((t2 = 0 ∧ L[t]? = some (.array ty) ∧ L[t1]? = some ty ∧ Cond.arrayOver (.array ty) ∈ Ts ∧ Cond.classLink own idx ("[" ++ (FieldType.array ty).toString) ∈ Ts) ∨ (0 < t2 ∧ L[t]? = some (.array (.array ty)) ∧ L[t1]? = some (.array ty) ∧ L[t2]? = some ty ∧ Cond.arrayOver (.array (.array ty)) ∈ Ts ∧ Cond.arrayOver (.array ty) ∈ Ts ∧ Cond.classLink own idx ("[" ++ (FieldType.array (.array ty)).toString) ∈ Ts))
/-- the tables are right: instructions; fields; new; new arrays; constants; arrays of arrays; calls; handlers -/
def mv_okG (Nm : Nat → MethodName) (Cd : Nat → ByteArray) (cl : List vw_C) (L : List FieldType) (Ts : List Cond) (G : mv_G) : Prop :=
  (∀ y pc i n, mv_gI G y pc = some (i, n) → decode (Cd y) pc = .ok (i, n)) ∧
  (∀ y idx ci k, mv_gF G y idx = some (ci, k) → mv_okF cl Ts (Nm y).cls idx ci k ∧ mv_okC cl Ts G ci ∧ (mv_gP G ci k = true → mv_gQ G y ci = true → mv_okQ Nm cl Ts y idx ci k)) ∧
  (∀ y idx ci, mv_gN G y idx = some ci → mv_okC cl Ts G ci ∧ ∀ (C : String) (T : u_T) (N : Nat), cl[ci]? = some (C, T, N) → Cond.classLink (Nm y).cls idx C ∈ Ts ∧ Cond.instantiable C (mv_gZ G ci) ∈ Ts ∧ Cond.initialized C ∈ Ts) ∧
  (∀ y idx t, mv_gA G y idx = some t → (∃ C : String, L[t]? = some (.object C) ∧ Cond.classLink (Nm y).cls idx C ∈ Ts ∧ Cond.arrayOver (.object C) ∈ Ts) ∨ ∃ ty : FieldType, L[t]? = some (.array ty) ∧ Cond.classLink (Nm y).cls idx (FieldType.array ty).toString ∈ Ts ∧ Cond.arrayOver (.array ty) ∈ Ts) ∧
  (∀ y idx v, mv_gK G y idx = some (.int v) → Cond.constant (Nm y).cls idx v ∈ Ts) ∧
  (∀ y idx t t1 t2, mv_gM G y idx = some (t, t1, t2) → mv_okGr L Ts (Nm y).cls idx t t1 t2) ∧
  (∀ y idx kd z n, mv_gC G y idx = some (kd, z, n) → (kd = 0 ∨ kd = 1 → mv_okM Nm Cd Ts G z ∧ mv_okS Nm Ts (Nm y).cls idx z n) ∧ (kd = 2 ∨ kd = 3 → mv_okM Nm Cd Ts G z ∧ mv_okV Nm cl Ts G (Nm y).cls idx z n) ∧ (kd = 4 ∨ kd = 5 → mv_okM Nm Cd Ts G z ∧ mv_okI Nm Cd Ts G (Nm y).cls idx z n)) ∧
  (∀ y pc h ct, mv_hand (mv_gH G y) pc = some (h, ct) → ct ≠ 0 ∧ ∃ (C : String) (T : u_T) (N : Nat), cl[mv_gX G]? = some (C, T, N) ∧ Cond.classLink (Nm y).cls ct C ∈ Ts)
section MVL
variable {base : Nat} {kt dA : Nat → Nat} {D : va_G} {cl : List vw_C} {nL : Nat} {p : Program} {l : Launch} {e : Env} {R : Room} {s : State} {m : MethodId} {args : Array Value} {below : List Frame} {meth : Method} {c : Code} {Q : State → Prop} {cc : ByteArray} {G : mv_G} {y pc : Nat} {lo : List (Nat × Value)} {st : List Value} {hp : List va_E} {cb sb : Nat} {S : mv_S} {Nm : Nat → MethodName} {Ts : List Cond} {L : List FieldType}
theorem mv_ldcwS {H : Heap} {locs : List Loc} {cells slots : Nat} {ls : Array Slot} {rest : List Value} (hx : p.tables.exec = Jvm.exec) (hb : c.code = cc) {own tx : String} {index q : Nat} (hown : s.vm.findClass own = some m.cls) (hZ : vk_R own index tx q s) (hdg : decode cc pc = .ok (.ldc_w index, 3))
    (k : W p l e R s m args below meth c H locs cells slots Q (F0 m (pc + 3) ls (.ref q :: rest))) : W p l e R s m args below meth c H locs cells slots Q (F0 m pc ls rest) := by
  intro T hT X
  obtain ⟨t, a1, b1⟩ := k T hT X
  obtain ⟨kk, cf, i, a', hk, hcf, hcp, -, hr, hev'⟩ := Cond.stringRef_spec hown hZ.1
  cases hZ.2.symm.trans hev'
  obtain ⟨k', hk', he⟩ := X.warmed.alike.2.2 _ _ hk
  have hr' : k'.resolved[index]? = some (some (.string q)) := by
    rcases X.warmed.entry hk hk' index with h | ⟨h, -⟩
    · rw [h]; exact hr
    · rw [hr] at h; cases h
  refine ⟨t, ?_, b1⟩
  jvm_step X.here [X.here.top, hx, hb, hdg, ldc_w.wp_string (e := e) (s := T) (f := F0 m pc ls rest) X.here.top hk' (by rw [he]; exact hcf) hcp hr']
  exact a1
theorem mv_ldc_v {idx len : Nat} (hok : ∀ v, mv_gK G y idx = some (.int v) → Cond.constant (Nm y).cls idx v ∈ Ts) (hT : ∀ a, mv_gK G y idx = some (.ref a) → mv_big ≤ a ∧ ∃ tx : String, vk_R (Nm y).cls idx tx (kt (a - mv_big)) s) (h : mv_ldc G y pc lo st hp cb sb idx len = some (.inl S)) : (∃ v, S = (pc + len, lo, .int v :: st, hp, cb, sb) ∧ Cond.constant (Nm y).cls idx v ∈ Ts) ∨ ∃ (a : Nat) (tx : String), S = (pc + len, lo, .ref a :: st, hp, cb, sb) ∧ mv_ad base kt a = kt (a - mv_big) ∧ vk_R (Nm y).cls idx tx (kt (a - mv_big)) s := by
  unfold mv_ldc at h
  split at h
  · rename_i v hv
    cases h
    exact Or.inl ⟨v, rfl, hok _ hv⟩
  · rename_i a hv
    cases h
    obtain ⟨h1, tx, h2⟩ := hT _ hv
    exact Or.inr ⟨a, tx, rfl, by rw [mv_ad, if_neg (by omega)], h2⟩
  · cases h
theorem mr_ldc (hx : p.tables.exec = Jvm.exec) (hb : c.code = cc) (hts : ∀ w ∈ Ts, w.before args s = true) (hown : s.vm.findClass (Nm y).cls = some m.cls) {idx : Nat} (hdg : decode cc pc = .ok (.ldc idx, 2)) (hok : ∀ v, mv_gK G y idx = some (.int v) → Cond.constant (Nm y).cls idx v ∈ Ts) (hT : ∀ a, mv_gK G y idx = some (.ref a) → mv_big ≤ a ∧ ∃ tx : String, vk_R (Nm y).cls idx tx (kt (a - mv_big)) s)
    (h : mv_ldc G y pc lo st hp cb sb idx 2 = some (.inl S)) (k : mv_K base (mv_ad base kt) dA D cl nL p l e R s m args below meth c Q S) : mv_K base (mv_ad base kt) dA D cl nL p l e R s m args below meth c Q (pc, lo, st, hp, cb, sb) := by
  intro H ls locs cells slots I
  rcases mv_ldc_v (base := base) hok hT h with ⟨v, rfl, hc⟩ | ⟨a, tx, rfl, ha, hc⟩
  · exact lv_ldc hx hb hown (hts _ hc) hdg (k H ls locs cells slots I)
  · have hk := k H ls locs cells slots I
    refine va_ldcS hx hb hown hc hdg ?_
    rw [← ha]
    exact hk
theorem mr_ldcw (hx : p.tables.exec = Jvm.exec) (hb : c.code = cc) (hts : ∀ w ∈ Ts, w.before args s = true) (hown : s.vm.findClass (Nm y).cls = some m.cls) {idx : Nat} (hdg : decode cc pc = .ok (.ldc_w idx, 3)) (hok : ∀ v, mv_gK G y idx = some (.int v) → Cond.constant (Nm y).cls idx v ∈ Ts) (hT : ∀ a, mv_gK G y idx = some (.ref a) → mv_big ≤ a ∧ ∃ tx : String, vk_R (Nm y).cls idx tx (kt (a - mv_big)) s)
    (h : mv_ldc G y pc lo st hp cb sb idx 3 = some (.inl S)) (k : mv_K base (mv_ad base kt) dA D cl nL p l e R s m args below meth c Q S) : mv_K base (mv_ad base kt) dA D cl nL p l e R s m args below meth c Q (pc, lo, st, hp, cb, sb) := by
  intro H ls locs cells slots I
  rcases mv_ldc_v (base := base) hok hT h with ⟨v, rfl, hc⟩ | ⟨a, tx, rfl, ha, hc⟩
  · exact lv_ldcw hx hb hown (hts _ hc) hdg (k H ls locs cells slots I)
  · have hk := k H ls locs cells slots I
    refine mv_ldcwS hx hb hown hc hdg ?_
    rw [← ha]
    exact hk
theorem mv_up_map (f : Nat → Option Nat) (k : Nat) (v : Option Nat) (ad : Nat → Nat) : (fun i => (va_up f k v i).map ad) = va_up (fun i => (f i).map ad) k (v.map ad) := by
  funext i
  unfold va_up
  split <;> rfl
theorem mr_aast (hx : p.tables.exec = Jvm.exec) (hb : c.code = cc) (hK : va_K D cl (mv_tys dA L) s) (hE : mv_okE cl L G) (hdg : decode cc pc = .ok (.aastore, 1))
    (h : mv_aast G pc lo st hp cb sb = some (.inl S)) (k : mv_K base (mv_ad base kt) dA D cl nL p l e R s m args below meth c Q S) : mv_K base (mv_ad base kt) dA D cl nL p l e R s m args below meth c Q (pc, lo, st, hp, cb, sb) := by
  intro H ls locs cells slots I
  unfold mv_aast at h
  split at h
  · rename_i v i a r
    split at h
    · rename_i t n g he
      split at h
      · rename_i ci hci
        split at h
        · rename_i ho
          have hin : vp_in i n := fun q => of_decide_eq_false ho q
          have hlt : i.toNatClampNeg < n := Nat.not_le.mp fun q => hin (Or.inr q)
          have h0 : ¬ i < 0 := fun q => hin (Or.inl q)
          obtain ⟨C, T0, N, hC, hLt⟩ := hE _ _ hci
          obtain ⟨t0, ht0⟩ := mv_tys_mem (dA := dA) hLt
          obtain ⟨hat, -, -⟩ := mv_inv_at I he
          have fin : ∀ (H1 : Heap) (o : Option Nat) (i9 : Nat), H1[mv_ad base kt a]? = some ((vp_cell (dA t) (n, .inr (.inr (.inr (.inr (fun i => (g i).map (mv_ad base kt))))))).setSlot i.toNatClampNeg (va_rf (o.map (mv_ad base kt)))) → H1.size = H.size → (∀ q : Nat, q ≠ mv_ad base kt a → H1[q]? = H[q]?) → mv_inv base (mv_ad base kt) dA D cl nL R s (pc + 1, lo, r, hp.set a (.inl (t, n, .inr (.inr (.inr (.inr (va_up g i.toNatClampNeg o)))))), cb, sb) H1 ls (locs ++ [⟨mv_ad base kt a, i9⟩]) cells slots := by
            intro H1 o i9 e1 z oq
            refine mv_inv_put I he ?_ z oq
            show H1[mv_ad base kt a]? = some (vp_cell (dA t) (n, .inr (.inr (.inr (.inr (fun j => (va_up g i.toNatClampNeg o j).map (mv_ad base kt)))))))
            rw [e1, mv_up_map, vp_cell_q, vp_cell_q, arrV_store]
            congr 2
            funext q
            by_cases hq : q = i.toNatClampNeg
            · subst hq
              simp [updV, va_up]
            · simp [updV, va_up, hq]
          split at h
          · cases h
            refine va_WaastN (C := C) hx hb hat ((hK.2 t0 _ ht0).1 n (fun j => va_rf ((g j).map (mv_ad base kt)))) (fun q => by cases q) (by show ¬ (i < 0 ∨ (arrV _ _ _).slots.size ≤ _); rw [arrV_size]; exact hin) rfl rfl hdg fun H1 e1 z oq => k H1 ls _ cells slots (fin H1 none _ e1 z oq)
          · rename_i b
            split at h
            · rename_i cj fs hb0
              split at h
              · rename_i hcj
                subst hcj
                cases h
                obtain ⟨hbt, -, -⟩ := mv_inv_at I hb0
                obtain ⟨rr, r1, cellV, g1, g2, g3, -⟩ := hbt
                have hcls := (hK.1 cj _ hC).2
                obtain ⟨kA, comp, k1, k2, k3, -⟩ := (hK.2 t0 _ ht0).2
                have hcomp : comp = D.1 cj := Option.some.inj (k3.symm.trans hcls.1)
                subst hcomp
                obtain ⟨kC, hkC, -⟩ := hcls.2
                refine W.aast hx hb hat (fun q h => by cases h) (fun h => by cases h) k1 k2 rfl hkC ⟨h0, by show _ < (arrV _ _ _).slots.size; rw [arrV_size]; exact hlt⟩ g1 (fun q h => by rw [g3] at h; cases h) (by rw [g2]; exact hkC) (by rw [g2]; exact va_assign hcls) rfl rfl hdg fun H1 e1 z oq => k H1 ls _ cells slots (fin H1 (some b) _ e1 z oq)
              · cases h
            · cases h
          · cases h
        · cases h
      · cases h
    · cases h
  · cases h
end MVL
end
section
/-! the small machine: arrays of arrays -/
/-- n rows of k numbers, behind the pointers below q -/
def mv_rows (t1 k : Nat) (n : Nat) : List va_E := List.replicate n (.inl (t1, k, .inl (fun _ => 0)))
def mv_outer (t n q w : Nat) : va_E := .inl (t, n, .inr (.inr (.inr (.inr (fun i => if i < n then some (q + i * w) else none)))))
def mv_grid2 (t t1 n k q : Nat) : List va_E := mv_outer t n (q + 1) 1 :: mv_rows t1 k n
def mv_blocks (t1 t2 k j q : Nat) : Nat → List va_E
  | 0 => []
  | i + 1 => mv_blocks t1 t2 k j q i ++ mv_grid2 t1 t2 k j (q + i * (k + 1))
def mv_grid3 (t t1 t2 n k j q : Nat) : List va_E := mv_outer t n (q + 1) (k + 1) :: mv_blocks t1 t2 k j (q + 1) n
def mv_multi (G : mv_G) (y pc : Nat) (l : List (Nat × Value)) (st : List Value) (hp : List va_E) (cb sb idx d : Nat) : Option mv_R := match mv_gM G y idx with
  | some (t, t1, t2) => match st with
    | .int k :: .int n :: r => if d = 2 then
        if t2 = 0 ∧ ¬ n < 0 ∧ ¬ k < 0 ∧ n.toNatClampNeg ≤ 65536 ∧ k.toNatClampNeg ≤ 65536 ∧ 1 + n.toNatClampNeg ≤ cb ∧ n.toNatClampNeg + n.toNatClampNeg * k.toNatClampNeg ≤ sb then
          some (.inl (pc + 4, l, .ref hp.length :: r, hp ++ mv_grid2 t t1 n.toNatClampNeg k.toNatClampNeg hp.length, cb - (1 + n.toNatClampNeg), sb - (n.toNatClampNeg + n.toNatClampNeg * k.toNatClampNeg)))
        else none
      else match r with
        | .int z :: r => if d = 3 ∧ 0 < t2 ∧ ¬ z < 0 ∧ ¬ n < 0 ∧ ¬ k < 0 ∧ z.toNatClampNeg ≤ 65536 ∧ n.toNatClampNeg ≤ 65536 ∧ k.toNatClampNeg ≤ 65536 ∧ 1 + z.toNatClampNeg * (n.toNatClampNeg + 1) ≤ cb ∧ z.toNatClampNeg + z.toNatClampNeg * (n.toNatClampNeg + n.toNatClampNeg * k.toNatClampNeg) ≤ sb then
            some (.inl (pc + 4, l, .ref hp.length :: r, hp ++ mv_grid3 t t1 t2 z.toNatClampNeg n.toNatClampNeg k.toNatClampNeg hp.length, cb - (1 + z.toNatClampNeg * (n.toNatClampNeg + 1)), sb - (z.toNatClampNeg + z.toNatClampNeg * (n.toNatClampNeg + n.toNatClampNeg * k.toNatClampNeg))))
          else none
        | _ => none
    | _ => none
  | none => none
theorem mv_grid2_len (t t1 n k q : Nat) : (mv_grid2 t t1 n k q).length = 1 + n := by
  unfold mv_grid2 mv_rows
  rw [List.length_cons, List.length_replicate]
  omega
theorem mv_blocks_len (t1 t2 k j q : Nat) : ∀ n, (mv_blocks t1 t2 k j q n).length = n * (k + 1)
  | 0 => by rw [Nat.zero_mul]; rfl
  | n + 1 => by
    unfold mv_blocks
    rw [List.length_append, mv_blocks_len t1 t2 k j q n, mv_grid2_len, Nat.succ_mul]
    omega
theorem mv_blocks_at (t1 t2 k j q : Nat) : ∀ (n x : Nat) (e : va_E), (mv_blocks t1 t2 k j q n)[x]? = some e → ∃ i r, i < n ∧ x = i * (k + 1) + r ∧ (mv_grid2 t1 t2 k j (q + i * (k + 1)))[r]? = some e
  | 0, x, e, h => by simp [mv_blocks] at h
  | n + 1, x, e, h => by
    unfold mv_blocks at h
    by_cases hx : x < n * (k + 1)
    · rw [List.getElem?_append_left (by rw [mv_blocks_len]; exact hx)] at h
      obtain ⟨i, r, h1, h2, h3⟩ := mv_blocks_at t1 t2 k j q n x e h
      exact ⟨i, r, by omega, h2, h3⟩
    · rw [List.getElem?_append_right (by rw [mv_blocks_len]; omega), mv_blocks_len] at h
      exact ⟨n, x - n * (k + 1), by omega, by omega, h⟩
theorem mv_grid2_at {t t1 n k q r : Nat} {e : va_E} (h : (mv_grid2 t t1 n k q)[r]? = some e) : (r = 0 ∧ e = mv_outer t n (q + 1) 1) ∨ ∃ x, x < n ∧ r = x + 1 ∧ e = .inl (t1, k, .inl (fun _ => 0)) := by
  unfold mv_grid2 mv_rows at h
  cases r with
  | zero =>
    cases h
    exact Or.inl ⟨rfl, rfl⟩
  | succ x =>
    rw [List.getElem?_cons_succ, List.getElem?_replicate] at h
    split at h
    · rename_i hx
      cases h
      exact Or.inr ⟨x, hx, rfl, rfl⟩
    · cases h
/-- the outer row of a grid, its first i places laid, w apart -/
def mv_oC (c : ClassId) (N h0 w : Nat) : Nat → Cell
  | 0 => { cls := c, slots := Array.replicate N .null, vm := .none }
  | i + 1 => (mv_oC c N h0 w i).setSlot i (.ref (h0 + 1 + i * w))
theorem mv_oC_eq (c : ClassId) (N h0 w : Nat) : ∀ i : Nat, mv_oC c N h0 w i = arrV c N (fun j => if j < i then .ref (h0 + 1 + j * w) else .null)
  | 0 => by
    show ({ cls := c, slots := Array.replicate N .null, vm := .none } : Cell) = _
    rw [arrV_new]
    refine congrArg (arrV c N) (funext fun j => ?_)
    simp
  | i + 1 => by
    show (mv_oC c N h0 w i).setSlot i (.ref (h0 + 1 + i * w)) = _
    rw [mv_oC_eq c N h0 w i, arrV_store]
    refine congrArg (arrV c N) (funext fun j => ?_)
    by_cases e : j = i
    · subst e
      simp [updV]
    · by_cases h : j < i
      · simp [updV, e, h, Nat.lt_succ_of_lt h]
      · simp [updV, e, h, show ¬ j < i + 1 by omega]
theorem mv_outer1 (c : ClassId) (N h0 : Nat) : ∀ i : Nat, Jvm.Free.Multi.outerC c N h0 i = mv_oC c N h0 1 i
  | 0 => rfl
  | i + 1 => by
    show (Jvm.Free.Multi.outerC c N h0 i).setSlot i (.ref (h0 + 1 + i)) = (mv_oC c N h0 1 i).setSlot i (.ref (h0 + 1 + i * 1))
    rw [mv_outer1 c N h0 i, Nat.mul_one]
theorem mv_oC_facts (c : ClassId) (N h0 w i : Nat) : (mv_oC c N h0 w i).cls = c ∧ (mv_oC c N h0 w i).vm = .none ∧ (mv_oC c N h0 w i).slots.size = N := by
  rw [mv_oC_eq]
  exact ⟨rfl, rfl, arrV_size _ _ _⟩
/-- an outer row in the small machine's words -/
theorem mv_outer_cell {base : Nat} {kt dA : Nat → Nat} {D : va_G} {cl : List vw_C} {H1 : Heap} {a t n q w h0 : Nat} (h : H1[a]? = some (mv_oC (dA t) n h0 w n)) (hq : ∀ i, i < n → mv_ad base kt (q + i * w) = h0 + 1 + i * w) : va_at D cl (a, mv_e (mv_ad base kt) dA (mv_outer t n q w)) H1 := by
  show H1[a]? = some (vp_cell (dA t) (n, .inr (.inr (.inr (.inr (fun i => (if i < n then some (q + i * w) else none).map (mv_ad base kt)))))))
  rw [h, mv_oC_eq, vp_cell_q]
  congr 2
  funext j
  by_cases hj : j < n
  · rw [if_pos hj, if_pos hj, Option.map_some, hq j hj]
    rfl
  · rw [if_neg hj, if_neg hj]
    rfl
theorem mv_inner_cell {base : Nat} {kt dA : Nat → Nat} {D : va_G} {cl : List vw_C} {H1 : Heap} {a t k : Nat} {dv : Value} (hd : dv = .int 0) (h : H1[a]? = some (Jvm.Free.Multi.innerC (dA t) k dv)) : va_at D cl (a, mv_e (mv_ad base kt) dA (.inl (t, k, .inl (fun _ => 0)))) H1 := by
  show H1[a]? = some (vp_cell (dA t) (k, .inl (fun _ => 0)))
  rw [h, vp_cell_i, hd]
  show some ({ cls := dA t, slots := Array.replicate k (.int 0), vm := .none } : Cell) = _
  rw [arrV_new]
/-! grids of three dimensions, in the real machine -/
def mv_f3 (s : State) (c c1 c2 : ClassId) (N K M : Nat) (dv : Value) : Nat → State
  | 0 => s.pushCell (mv_oC c N s.heap.size (K + 1) 0)
  | i + 1 => (Jvm.Free.Multi.fill (mv_f3 s c c1 c2 N K M dv i) c1 c2 K M dv K).setCell s.heap.size (mv_oC c N s.heap.size (K + 1) (i + 1))
theorem mv_f3_facts (s : State) (c c1 c2 : ClassId) (N K M : Nat) (dv : Value) : ∀ i, (mv_f3 s c c1 c2 N K M dv i).heap.size = s.heap.size + 1 + i * (K + 1) ∧ (mv_f3 s c c1 c2 N K M dv i).heap[s.heap.size]? = some (mv_oC c N s.heap.size (K + 1) i) ∧ (mv_f3 s c c1 c2 N K M dv i).vm = s.vm ∧ (mv_f3 s c c1 c2 N K M dv i).slotsUsed = s.slotsUsed + N + i * (K + K * M)
  | 0 => ⟨by simp [mv_f3], by simp [mv_f3], rfl, by simp [mv_f3, mv_oC]⟩
  | i + 1 => by
    obtain ⟨a, b, d, u⟩ := mv_f3_facts s c c1 c2 N K M dv i
    obtain ⟨f1, f2, f3, f4⟩ := Jvm.Free.Multi.fill_facts (mv_f3 s c c1 c2 N K M dv i) c1 c2 K M dv K
    have hlt : s.heap.size < (mv_f3 s c c1 c2 N K M dv i).heap.size := by omega
    have fo := Jvm.Free.Multi.fill_old (mv_f3 s c c1 c2 N K M dv i) c1 c2 K M dv hlt K
    have hb' : (Jvm.Free.Multi.fill (mv_f3 s c c1 c2 N K M dv i) c1 c2 K M dv K).heap[s.heap.size]? = some (mv_oC c N s.heap.size (K + 1) i) := fo.trans b
    refine ⟨?_, State.heap_setCell_self hb', ?_, ?_⟩
    · show ((Jvm.Free.Multi.fill (mv_f3 s c c1 c2 N K M dv i) c1 c2 K M dv K).setCell _ _).heap.size = _
      rw [size_setCell, f1, a, Nat.succ_mul]
      omega
    · show (Jvm.Free.Multi.fill (mv_f3 s c c1 c2 N K M dv i) c1 c2 K M dv K).vm = _
      rw [f3, d]
    · show (Jvm.Free.Multi.fill (mv_f3 s c c1 c2 N K M dv i) c1 c2 K M dv K).slotsUsed = _
      rw [f4, u, Nat.succ_mul]
      omega
theorem mv_f3_old (s : State) (c c1 c2 : ClassId) (N K M : Nat) (dv : Value) {a : Addr} (ha : a < s.heap.size) : ∀ i, (mv_f3 s c c1 c2 N K M dv i).heap[a]? = s.heap[a]?
  | 0 => State.heap_pushCell_of_lt _ _ ha
  | i + 1 => by
    have f1 := (mv_f3_facts s c c1 c2 N K M dv i).1
    show ((Jvm.Free.Multi.fill (mv_f3 s c c1 c2 N K M dv i) c1 c2 K M dv K).setCell s.heap.size _).heap[a]? = _
    have hlt : a < (mv_f3 s c c1 c2 N K M dv i).heap.size := Nat.lt_of_lt_of_le ha (by rw [f1]; omega)
    rw [State.heap_setCell_other (Nat.ne_of_gt ha), Jvm.Free.Multi.fill_old (mv_f3 s c c1 c2 N K M dv i) c1 c2 K M dv hlt K]
    exact mv_f3_old s c c1 c2 N K M dv ha i
theorem mv_f3_rows (s : State) (c c1 c2 : ClassId) (N K M : Nat) (dv : Value) : ∀ i j, j < i → (mv_f3 s c c1 c2 N K M dv i).heap[s.heap.size + 1 + j * (K + 1)]? = some (mv_oC c1 K (s.heap.size + 1 + j * (K + 1)) 1 K) ∧ ∀ x, x < K → (mv_f3 s c c1 c2 N K M dv i).heap[s.heap.size + 1 + j * (K + 1) + 1 + x]? = some (Jvm.Free.Multi.innerC c2 M dv)
  | 0, _, h => absurd h (Nat.not_lt_zero _)
  | i + 1, j, h => by
    have f1 := (mv_f3_facts s c c1 c2 N K M dv i).1
    obtain ⟨g1, g2, -, -⟩ := Jvm.Free.Multi.fill_facts (mv_f3 s c c1 c2 N K M dv i) c1 c2 K M dv K
    have goal : ∀ a, a ≠ s.heap.size → (mv_f3 s c c1 c2 N K M dv (i + 1)).heap[a]? = (Jvm.Free.Multi.fill (mv_f3 s c c1 c2 N K M dv i) c1 c2 K M dv K).heap[a]? := fun a ha => State.heap_setCell_other (Ne.symm ha)
    rcases Nat.lt_or_ge j i with hj | hj
    · obtain ⟨r1, r2⟩ := mv_f3_rows s c c1 c2 N K M dv i j hj
      have hm : (j + 1) * (K + 1) ≤ i * (K + 1) := Nat.mul_le_mul_right _ hj
      rw [Nat.succ_mul] at hm
      refine ⟨?_, fun x hx => ?_⟩
      · rw [goal (s.heap.size + 1 + j * (K + 1)) (by omega), Jvm.Free.Multi.fill_old (mv_f3 s c c1 c2 N K M dv i) c1 c2 K M dv (show s.heap.size + 1 + j * (K + 1) < (mv_f3 s c c1 c2 N K M dv i).heap.size by rw [f1]; omega) K]
        exact r1
      · rw [goal (s.heap.size + 1 + j * (K + 1) + 1 + x) (by omega), Jvm.Free.Multi.fill_old (mv_f3 s c c1 c2 N K M dv i) c1 c2 K M dv (show s.heap.size + 1 + j * (K + 1) + 1 + x < (mv_f3 s c c1 c2 N K M dv i).heap.size by rw [f1]; omega) K]
        exact r2 x hx
    · have e : j = i := by omega
      subst e
      refine ⟨?_, fun x hx => ?_⟩
      · rw [goal (s.heap.size + 1 + j * (K + 1)) (by omega), ← f1, g2, mv_outer1]
      · rw [goal (s.heap.size + 1 + j * (K + 1) + 1 + x) (by omega), ← f1]
        exact Jvm.Free.Multi.fill_inner (mv_f3 s c c1 c2 N K M dv j) c1 c2 K M dv K x hx
theorem mv_f3_setTop (s : State) (f : JFrame) (c c1 c2 : ClassId) (N K M : Nat) (dv : Value) : ∀ i, mv_f3 (s.setTop f) c c1 c2 N K M dv i = (mv_f3 s c c1 c2 N K M dv i).setTop f
  | 0 => rfl
  | i + 1 => by simp only [mv_f3, mv_f3_setTop s f c c1 c2 N K M dv i, Jvm.Free.Multi.fill_setTop, State.heap_setTop, State.setCell_setTop]
theorem mv_stand3 {p : Program} {l : Launch} {e : Env} {R : Room} {s : State} {m : MethodId} {args : Array Value} {below : List Frame} {meth : Method} {c : Code} {T : State} {locs : List Loc} {cells slots : Nat} (X : Stand p l e R s m args below meth c T locs cells slots) (cA c1 c2 : ClassId) (N K M : Nat) (dv : Value) :
    ∀ i, ∃ locs', (∀ q ∈ locs', q ∈ locs ∨ T.heap.size ≤ q.base) ∧ Stand p l e R s m args below meth c (mv_f3 T cA c1 c2 N K M dv i) locs' (cells + 1 + i * (K + 1)) (slots + N + i * (K + K * M))
  | 0 => by
    have h := X.pushed (mv_oC cA N T.heap.size (K + 1) 0)
    rw [(mv_oC_facts cA N T.heap.size (K + 1) 0).2.2] at h
    exact ⟨locs, fun q hq => Or.inl hq, by simpa [mv_f3] using h⟩
  | i + 1 => by
    obtain ⟨locs', hl, Xi⟩ := mv_stand3 X cA c1 c2 N K M dv i
    obtain ⟨f1, f2, f3, f4⟩ := mv_f3_facts T cA c1 c2 N K M dv i
    have hlt0 : T.heap.size < (mv_f3 T cA c1 c2 N K M dv i).heap.size := by rw [f1]; omega
    have h2 := Xi.filled c1 c2 K M dv K
    have hcell : (Jvm.Free.Multi.fill (mv_f3 T cA c1 c2 N K M dv i) c1 c2 K M dv K).heap[T.heap.size]? = some (mv_oC cA N T.heap.size (K + 1) i) := (Jvm.Free.Multi.fill_old (mv_f3 T cA c1 c2 N K M dv i) c1 c2 K M dv hlt0 K).trans f2
    have h3 := h2.stored hcell i (.ref (T.heap.size + 1 + i * (K + 1)))
    refine ⟨(locs' ++ (List.range K).map fun j => ⟨(mv_f3 T cA c1 c2 N K M dv i).heap.size, j⟩) ++ [⟨T.heap.size, i⟩], fun q hq => ?_, ?_⟩
    rotate_left
    · have e3 : cells + 1 + (i + 1) * (K + 1) = cells + 1 + i * (K + 1) + 1 + K := by rw [Nat.succ_mul]; omega
      have e4 : slots + N + (i + 1) * (K + K * M) = slots + N + i * (K + K * M) + K + K * M := by rw [Nat.succ_mul]; omega
      rw [e3, e4]
      exact h3
    · rcases List.mem_append.mp hq with hq | hq
      · rcases List.mem_append.mp hq with hq | hq
        · exact hl q hq
        · obtain ⟨j, -, rfl⟩ := List.mem_map.mp hq
          exact Or.inr (Nat.le_of_lt hlt0)
      · have := List.mem_singleton.mp hq
        subst this
        exact Or.inr (Nat.le_refl _)
theorem mv_make3 {Et : CtlPost} {e : Env} {d : Bool} {acts : List Action} {s : State} {c c1 c2 cc : ClassId} {k0 k1 k2 : Class} {t0 t1 type : FieldType} {n k m : Int32} (hk : s.vm.classes[c]? = some k0) (hkind : k0.kind = .array c1 t0) (href : t0.isReference = true)
    (hk1 : s.vm.classes[c1]? = some k1) (hkind1 : k1.kind = .array c2 t1) (href1 : t1.isReference = true) (hk2 : s.vm.classes[c2]? = some k2) (hkind2 : k2.kind = .array cc type) (hn : ¬ n < 0) (hkk : ¬ k < 0) (hm : ¬ m < 0)
    (hl0 : ¬ n.toNatClampNeg > e.platform.arrayLengthLimit) (hh0 : ¬ n.toNatClampNeg * componentBytes t0 > e.platform.maxHeapBytes)
    (hl1 : ¬ k.toNatClampNeg > e.platform.arrayLengthLimit) (hh1 : ¬ k.toNatClampNeg * componentBytes t1 > e.platform.maxHeapBytes)
    (hl2 : ¬ m.toNatClampNeg > e.platform.arrayLengthLimit) (hh2 : ¬ m.toNatClampNeg * componentBytes type > e.platform.maxHeapBytes)
    (hdf : fits type (defaultValue type) = true) (hdd : (defaultValue type).isDefault = true)
    (hc : s.heap.size + 1 + n.toNatClampNeg * (k.toNatClampNeg + 1) ≤ e.platform.maxCells) (hs : s.slotsUsed + n.toNatClampNeg + n.toNatClampNeg * (k.toNatClampNeg + k.toNatClampNeg * m.toNatClampNeg) ≤ e.platform.maxSlots)
    {Q : Addr → Pre} (hq : ∀ d' acts', Q s.heap.size d' acts' (mv_f3 s c c1 c2 n.toNatClampNeg k.toNatClampNeg m.toNatClampNeg (defaultValue type) n.toNatClampNeg)) :
    wp (multianewarray.make c [n, k, m]) Q Et e d acts s := by
  have hfind : ([k, m].find? (· < 0)) = none := by simp [hkk, hm]
  rw [multianewarray.make]
  simp only [wp_bind', W.ite, hn, if_false, wp_pure', W.theClass, hk, hkind, Option.some.injEq, exists_eq_left']
  refine Jvm.Free.Multi.wp_newArray hk hkind hl0 hh0 (Jvm.Free.Multi.refFits href _ (Or.inl rfl)) rfl (by omega) (by omega) ?_
  simp only [hfind]
  rw [ite_self, wp_bind', Std.Legacy.Range.forIn_eq_forIn_range']
  have hsz : ([:n.toNatClampNeg] : Std.Legacy.Range).size = n.toNatClampNeg := by simp [Std.Legacy.Range.size]
  rw [hsz]
  show wp (forIn (List.range' 0 n.toNatClampNeg 1) PUnit.unit _) _ Et e d acts _
  refine wp_forIn_inv (fun rest s' => ∃ i, i ≤ n.toNatClampNeg ∧ rest = List.range' i (n.toNatClampNeg - i) ∧ s' = mv_f3 s c c1 c2 n.toNatClampNeg k.toNatClampNeg m.toNatClampNeg (defaultValue type) i) _ _ ⟨0, Nat.zero_le _, rfl, rfl⟩ ?_ ?_
  · rintro x rest s' d' acts' Q' ⟨i, hi, hl, rfl⟩ hnext
    have hlt : i < n.toNatClampNeg := by
      rcases Nat.lt_or_ge i n.toNatClampNeg with h | h
      · exact h
      · rw [show n.toNatClampNeg - i = 0 from by omega] at hl; simp at hl
    obtain ⟨rfl, hrest⟩ : x = i ∧ rest = List.range' (i + 1) (n.toNatClampNeg - (i + 1)) := by
      rw [show n.toNatClampNeg - i = (n.toNatClampNeg - (i + 1)) + 1 from by omega, List.range'_succ] at hl
      exact ⟨(List.cons.inj hl).1, (List.cons.inj hl).2⟩
    obtain ⟨f1, f2, f3, f4⟩ := mv_f3_facts s c c1 c2 n.toNatClampNeg k.toNatClampNeg m.toNatClampNeg (defaultValue type) x
    obtain ⟨o1, o2, o3⟩ := mv_oC_facts c n.toNatClampNeg s.heap.size (k.toNatClampNeg + 1) x
    have hmul : x * (k.toNatClampNeg + 1) + (k.toNatClampNeg + 1) ≤ n.toNatClampNeg * (k.toNatClampNeg + 1) := by
      have := Nat.mul_le_mul_right (k.toNatClampNeg + 1) (show x + 1 ≤ n.toNatClampNeg from hlt)
      rw [Nat.succ_mul] at this; exact this
    have hmul2 : x * (k.toNatClampNeg + k.toNatClampNeg * m.toNatClampNeg) + (k.toNatClampNeg + k.toNatClampNeg * m.toNatClampNeg) ≤ n.toNatClampNeg * (k.toNatClampNeg + k.toNatClampNeg * m.toNatClampNeg) := by
      have := Nat.mul_le_mul_right (k.toNatClampNeg + k.toNatClampNeg * m.toNatClampNeg) (show x + 1 ≤ n.toNatClampNeg from hlt)
      rw [Nat.succ_mul] at this; exact this
    simp only [wp_bind']
    refine Jvm.Free.Multi.wp_make2 (by rw [f3]; exact hk1) hkind1 href1 (by rw [f3]; exact hk2) hkind2 hkk hm hl1 hh1 hl2 hh2 hdf hdd (by rw [f1]; omega) (by rw [f4]; omega) (fun d9 acts9 => ?_)
    have hlt0 : s.heap.size < (mv_f3 s c c1 c2 n.toNatClampNeg k.toNatClampNeg m.toNatClampNeg (defaultValue type) x).heap.size := by rw [f1]; omega
    have fvm := (Jvm.Free.Multi.fill_facts (mv_f3 s c c1 c2 n.toNatClampNeg k.toNatClampNeg m.toNatClampNeg (defaultValue type) x) c1 c2 k.toNatClampNeg m.toNatClampNeg (defaultValue type) k.toNatClampNeg).2.2.1
    simp only [wp_bind', W.writeLoc, wp_pure']
    refine ⟨mv_oC c n.toNatClampNeg s.heap.size (k.toNatClampNeg + 1) x, (Jvm.Free.Multi.fill_old _ c1 c2 _ _ _ hlt0 _).trans f2, by rw [o2]; simp, by rw [o3]; exact hlt, ?_, hnext _ _ _ ⟨x + 1, hlt, hrest, ?_⟩⟩
    · rw [o1, o2]
      simp [State.fitsSlot, State.slotType?, fvm, f3, hk, hkind, Jvm.Free.Multi.refFits href _ (Or.inr ⟨_, rfl⟩)]
    · rw [f1]; rfl
  · rintro s' d' acts' ⟨i, hi, hl, rfl⟩
    have hiN : i = n.toNatClampNeg := by
      rcases Nat.lt_or_ge i n.toNatClampNeg with h | h
      · rw [show n.toNatClampNeg - i = (n.toNatClampNeg - (i + 1)) + 1 from by omega, List.range'_succ] at hl; cases hl
      · omega
    subst hiN
    simp only [wp_pure']
    exact hq _ _
theorem mv_multianewarray3 {p : Program} {l : Launch} {e : Env} {R : Room} {s : State} {m : MethodId} {args : Array Value} {below : List Frame} {meth : Method} {c : Code} {T : State} {locs : List Loc} {cells slots : Nat} (X : Stand p l e R s m args below meth c T locs cells slots) (hexec : p.tables.exec = Jvm.exec) {own : String} {index : Nat} {ty : FieldType}
    (hown : s.vm.findClass own = some m.cls) (hclink : (Cond.classLink own index ("[" ++ (FieldType.array (.array ty)).toString)).before args s = true)
    (hover : (Cond.arrayOver (.array (.array ty))).before args s = true) (hover2 : (Cond.arrayOver (.array ty)).before args s = true) (harr : (Cond.arrayClass ty).before args s = true) (hstr : ("[" ++ (FieldType.array ty).toString) = (FieldType.array (.array ty)).toString)
    {g : JFrame} (hg : g.method = m) (hdg : decode c.code g.pc = .ok (.multianewarray index 3, 4)) {n k z : Int32} {rest : List Value} (hstack : g.stack = .int k :: .int n :: .int z :: rest)
    (hz : ¬ z < 0) (hn : ¬ n < 0) (hk : ¬ k < 0) (hb0 : z.toNatClampNeg * 4 ≤ 536870912) (hb1 : n.toNatClampNeg * 4 ≤ 536870912) (hb2 : k.toNatClampNeg * componentBytes ty ≤ 536870912) (hb3 : k.toNatClampNeg ≤ 536870912)
    (hdf : fits ty (defaultValue ty) = true) (hdd : (defaultValue ty).isDefault = true)
    (hcells : cells + (1 + z.toNatClampNeg * (n.toNatClampNeg + 1)) ≤ R.cells) (hslots : slots + (z.toNatClampNeg + z.toNatClampNeg * (n.toNatClampNeg + n.toNatClampNeg * k.toNatClampNeg)) ≤ R.slots) :
    ∃ (vm₁ : Vm) (cA c1 c2 : ClassId) (locs' : List Loc), (∀ q ∈ locs', q ∈ locs ∨ T.heap.size ≤ q.base) ∧ s.vm.findClass ("[" ++ (FieldType.array (.array ty)).toString) = some cA ∧ s.vm.findClass ("[" ++ (FieldType.array ty).toString) = some c1 ∧ s.vm.findClass (FieldType.array ty).toString = some c2 ∧
      Stand p l e R s m args below meth c (mv_f3 (T.setVm vm₁) cA c1 c2 z.toNatClampNeg n.toNatClampNeg k.toNatClampNeg (defaultValue ty) z.toNatClampNeg) locs' (cells + 1 + z.toNatClampNeg * (n.toNatClampNeg + 1)) (slots + z.toNatClampNeg + z.toNatClampNeg * (n.toNatClampNeg + n.toNatClampNeg * k.toNatClampNeg)) ∧
      ∀ target, Steps p.tables e below ((mv_f3 (T.setVm vm₁) cA c1 c2 z.toNatClampNeg n.toNatClampNeg k.toNatClampNeg (defaultValue ty) z.toNatClampNeg).setTop { g with pc := g.pc + 4, stack := .ref T.heap.size :: rest }) target →
        Steps p.tables e below (T.setTop g) target := by
  subst hg
  have hpl : e.platform.magicAccessors = ({} : Platform).magicAccessors := by rw [X.admits.platform]
  obtain ⟨c1, cA, kA, hc1, hkA, hkindA, hnameA⟩ := Cond.arrayOver_specA hover
  obtain ⟨c2, c1', kB, hc2, hkB, hkindB, hnameB⟩ := Cond.arrayOver_specA hover2
  have e1 : c1' = c1 := by
    rw [hstr] at hnameB
    exact Option.some.inj (hnameB.symm.trans hc1)
  subst e1
  obtain ⟨comp', kC, cc, hcomp', hkC, hkindC⟩ := Cond.arrayClass_spec harr
  have ecomp : comp' = c2 := Option.some.inj (hcomp'.symm.trans hc2)
  subst ecomp
  obtain ⟨c0, hfc0, hcl⟩ := Cond.classLink_spec hown hclink e.platform hpl
  cases hnameA.symm.trans hfc0
  obtain ⟨hg₁, hwarm₁, hready₁⟩ := State.classEntry (e := e) X.warmed hcl
  generalize T.vm.noted g.method.cls index (.cls cA) = vm₁ at hg₁ hwarm₁ hready₁
  have hal : s.vm.Alike vm₁ := hwarm₁.alike
  obtain ⟨kA₁, hkA₁, heA⟩ := hal.2.2 _ _ hkA
  obtain ⟨kB₁, hkB₁, heB⟩ := hal.2.2 _ _ hkB
  obtain ⟨kC₁, hkC₁, heC⟩ := hal.2.2 _ _ hkC
  have hkindA₁ : kA₁.kind = .array c1' (.array (.array ty)) := by rw [heA]; exact hkindA
  have hkindB₁ : kB₁.kind = .array comp' (.array ty) := by rw [heB]; exact hkindB
  have hkindC₁ : kC₁.kind = .array cc ty := by rw [heC]; exact hkindC
  have X₁ := X.noted hwarm₁
  obtain ⟨hr1, hr2⟩ := X.roomAbove hcells hslots
  obtain ⟨locs', hlocs, XF⟩ := mv_stand3 X₁ cA c1' comp' z.toNatClampNeg n.toNatClampNeg k.toNatClampNeg (defaultValue ty) z.toNatClampNeg
  refine ⟨vm₁, cA, c1', comp', locs', hlocs, hnameA, hnameB, hc2, XF, fun target hrest => ?_⟩
  have hl0 : ¬ z.toNatClampNeg > e.platform.arrayLengthLimit := by rw [Launch.admits_arrayLengthLimit X.admits]; omega
  have hh0 : ¬ z.toNatClampNeg * componentBytes (.array (.array ty)) > e.platform.maxHeapBytes := by
    rw [Launch.admits_maxHeapBytes X.admits]; show ¬ z.toNatClampNeg * 4 > 536870912; omega
  have hl1 : ¬ n.toNatClampNeg > e.platform.arrayLengthLimit := by rw [Launch.admits_arrayLengthLimit X.admits]; omega
  have hh1 : ¬ n.toNatClampNeg * componentBytes (.array ty) > e.platform.maxHeapBytes := by
    rw [Launch.admits_maxHeapBytes X.admits]; show ¬ n.toNatClampNeg * 4 > 536870912; omega
  have hl2 : ¬ k.toNatClampNeg > e.platform.arrayLengthLimit := by rw [Launch.admits_arrayLengthLimit X.admits]; omega
  have hh2 : ¬ k.toNatClampNeg * componentBytes ty > e.platform.maxHeapBytes := by rw [Launch.admits_maxHeapBytes X.admits]; omega
  jvm_step X.here [hexec, hdg]
  simp only [multianewarray.sem, wp_bind', W.resolveClassAt_links (State.method?_setTop g X.here.top) hg₁]
  rw [W.popN, if_neg (by decide)]
  refine ⟨g, State.topJava?_setTop' (s := T.setVm vm₁) g X.here.top, [.int z, .int n, .int k], rest, rfl, hstack, ?_⟩
  simp only [List.mapM_cons, List.mapM_nil, wp_bind', wp_pure']
  refine mv_make3 (k0 := kA₁) (k1 := kB₁) (k2 := kC₁) (c1 := c1') (c2 := comp') (cc := cc) (t0 := .array (.array ty)) (t1 := .array ty) (type := ty) hkA₁ hkindA₁ rfl hkB₁ hkindB₁ rfl hkC₁ hkindC₁ hz hn hk hl0 hh0 hl1 hh1 hl2 hh2 hdf hdd (by show T.heap.size + 1 + _ ≤ _; omega) (by show T.slotsUsed + _ + _ ≤ _; omega) (fun d' acts' => ?_)
  have eS : ((T.setTop g).setVm vm₁).setTop { g with stack := rest } = (T.setVm vm₁).setTop { g with stack := rest } := by
    show ((T.setVm vm₁).setTop g).setTop _ = _
    rw [State.setTop_setTop]
  rw [eS, mv_f3_setTop]
  simp only [wp_bind', W.mark, W.pushRef, State.topJava?_setTop' _ XF.here.top, Option.some.injEq, exists_eq_left', State.setTop_setTop, State.heap_setTop]
  intro acts
  simp [jvm, XF.here.top]
  exact hrest
section MVM
variable {base : Nat} {kt dA : Nat → Nat} {D : va_G} {cl : List vw_C} {nL : Nat} {p : Program} {l : Launch} {e : Env} {R : Room} {s : State} {m : MethodId} {args : Array Value} {below : List Frame} {meth : Method} {c : Code} {Q : State → Prop} {cc : ByteArray} {G : mv_G} {y pc : Nat} {lo : List (Nat × Value)} {st : List Value} {hp : List va_E} {cb sb : Nat} {S : mv_S} {Nm : Nat → MethodName} {Ts : List Cond} {L : List FieldType}
theorem mv_inv_news {H H1 : Heap} {ls : Array Slot} {locs locs' : List Loc} {cells slots pc' n : Nat} {st' : List Value} (I : mv_inv base (mv_ad base kt) dA D cl nL R s (pc, lo, st, hp, cb, sb) H ls locs cells slots) {es : List va_E} (hc : es.length ≤ cb) (hs : n ≤ sb) (he1 : 1 ≤ es.length)
    (he : ∀ (j : Nat) (e1 : va_E), es[j]? = some e1 → va_at D cl (H.size + j, mv_e (mv_ad base kt) dA e1) H1) (z : H1.size = H.size + es.length) (oq : ∀ q : Nat, q < H.size → H1[q]? = H[q]?) (hl : ∀ q ∈ locs', base ≤ q.base) : mv_inv base (mv_ad base kt) dA D cl nL R s (pc', lo, st', hp ++ es, cb - es.length, sb - n) H1 ls locs' (cells + es.length) (slots + n) ∧ mv_ad base kt hp.length = H.size := by
  obtain ⟨i1, i2, i3, i4, i5, i6, i7⟩ := I
  dsimp only at i1 i2 i3 i4 i5 i6 i7
  have hz : mv_ad base kt hp.length = H.size := by
    rw [mv_ad, if_pos (by omega), i3]
  refine ⟨⟨i1, ?_, ?_, ⟨?_, ?_, hl⟩, ?_, ?_, ?_⟩, hz⟩
  · show va_P D cl (mv_w (mv_ad base kt) dA 0 (hp ++ es)) H1
    rw [mv_w_app]
    refine (i2.kept (fun k q hk => oq q.1 ((i2 k q hk).lt))).app (fun k q hk => ?_)
    obtain ⟨e1, h1, rfl⟩ := mv_w_of hk
    have hk2 : k < es.length := (List.getElem?_eq_some_iff.mp h1).1
    have h2 := he k e1 h1
    have h3 : mv_ad base kt (0 + hp.length + k) = H.size + k := by
      rw [mv_ad, if_pos (by omega), i3]
      omega
    rw [h3]
    exact h2
  · show H1.size = base + (hp ++ es).length
    rw [z, i3, List.length_append]
    omega
  · have := i4.1
    omega
  · intro q h1 h2
    exact (oq q (Nat.lt_of_lt_of_le h1 i4.1)).trans (i4.2.1 q h1 h2)
  · show cells + es.length + (cb - es.length) ≤ R.cells
    omega
  · show slots + n + (sb - n) ≤ R.slots
    omega
  · show (hp ++ es).length + (cb - es.length) ≤ mv_big
    rw [List.length_append]
    omega
theorem mr_multi2 (hx : p.tables.exec = Jvm.exec) (hb : c.code = cc) {own : String} (hown : s.vm.findClass own = some m.cls) (hK : va_K D cl (mv_tys dA L) s) {idx t t1 : Nat} (hdg : decode cc pc = .ok (.multianewarray idx 2, 4)) {ty : FieldType} (hty : ty = .int ∨ ty = .byte) (har : (Cond.arrayClass ty).before args s = true) (hL0 : L[t]? = some (.array ty)) (hL1 : L[t1]? = some ty) (hov : (Cond.arrayOver (.array ty)).before args s = true) (hlk : (Cond.classLink own idx ("[" ++ (FieldType.array ty).toString)).before args s = true) {k n : Int32} {r : List Value}
    (hc : ¬ n < 0 ∧ ¬ k < 0 ∧ n.toNatClampNeg ≤ 65536 ∧ k.toNatClampNeg ≤ 65536 ∧ 1 + n.toNatClampNeg ≤ cb ∧ n.toNatClampNeg + n.toNatClampNeg * k.toNatClampNeg ≤ sb)
    (kk : mv_K base (mv_ad base kt) dA D cl nL p l e R s m args below meth c Q (pc + 4, lo, .ref hp.length :: r, hp ++ mv_grid2 t t1 n.toNatClampNeg k.toNatClampNeg hp.length, cb - (1 + n.toNatClampNeg), sb - (n.toNatClampNeg + n.toNatClampNeg * k.toNatClampNeg))) : mv_K base (mv_ad base kt) dA D cl nL p l e R s m args below meth c Q (pc, lo, .int k :: .int n :: r, hp, cb, sb) := by
  intro H ls locs cells slots I T hT X
  subst hT
  obtain ⟨hn, hk, hn2, hk2, hc1, hc2⟩ := hc
  have I5 : cells + cb ≤ R.cells := I.2.2.2.2.1
  have I6 : slots + sb ≤ R.slots := I.2.2.2.2.2.1
  have hcb : componentBytes ty ≤ 4 := by rcases hty with rfl | rfl <;> decide
  have hd0 : defaultValue ty = .int 0 := by rcases hty with rfl | rfl <;> rfl
  have hb2 : k.toNatClampNeg * componentBytes ty ≤ 536870912 := Nat.le_trans (Nat.mul_le_mul hk2 hcb) (by decide)
  obtain ⟨vm₁, cA, comp, hW, hfA, hfC, -, -, X', step⟩ := X.multianewarray2F hx hown hlk hov har (g := F0 m pc ls (.int k :: .int n :: r.map (mv_v (mv_ad base kt)))) rfl (by rw [hb]; exact hdg) rfl hn hk (by omega) hb2 (by omega) (by rw [hd0]; rcases hty with rfl | rfl <;> rfl) (by rw [hd0]; rfl) (by omega) (by omega)
  obtain ⟨z0, hz0⟩ := mv_tys_mem (dA := dA) hL0
  obtain ⟨z1, hz1⟩ := mv_tys_mem (dA := dA) hL1
  have e0 := mv_RAof (hK.2 z0 _ hz0).2 hfA
  have e1 : comp = dA t1 := mv_RAof (hK.2 z1 _ hz1).2 (by rcases hty with rfl | rfl <;> exact hfC)
  subst e0
  subst e1
  obtain ⟨f1, f2, -, -⟩ := Jvm.Free.Multi.fill_facts (T.setVm vm₁) (dA t) (dA t1) n.toNatClampNeg k.toNatClampNeg (defaultValue ty) n.toNatClampNeg
  have fo := fun x (hx9 : x < T.heap.size) => Jvm.Free.Multi.fill_old (T.setVm vm₁) (dA t) (dA t1) n.toNatClampNeg k.toNatClampNeg (defaultValue ty) (a := x) hx9 n.toNatClampNeg
  have fi := Jvm.Free.Multi.fill_inner (T.setVm vm₁) (dA t) (dA t1) n.toNatClampNeg k.toNatClampNeg (defaultValue ty) n.toNatClampNeg
  generalize Jvm.Free.Multi.fill (T.setVm vm₁) (dA t) (dA t1) n.toNatClampNeg k.toNatClampNeg (defaultValue ty) n.toNatClampNeg = F at X' step f1 f2 fo fi
  have hTh : (T.setVm vm₁).heap = T.heap := rfl
  rw [hTh] at f1 f2 fi fo
  have hlen := mv_grid2_len t t1 n.toNatClampNeg k.toNatClampNeg hp.length
  have hadr : ∀ x, x < 1 + n.toNatClampNeg → mv_ad base kt (hp.length + x) = T.heap.size + x := fun x hx9 => by
    have h7 : hp.length + cb ≤ mv_big := I.2.2.2.2.2.2
    have h3 : T.heap.size = base + hp.length := I.2.2.1
    rw [mv_ad, if_pos (by omega), h3]
    omega
  obtain ⟨I', hz⟩ := mv_inv_news (pc' := pc + 4) (st' := .ref hp.length :: r) (H1 := F.heap) (locs' := locs) (n := n.toNatClampNeg + n.toNatClampNeg * k.toNatClampNeg) I (es := mv_grid2 t t1 n.toNatClampNeg k.toNatClampNeg hp.length) (by rw [hlen]; exact hc1) hc2 (by rw [hlen]; omega) (fun j e2 hj => by
      rcases mv_grid2_at hj with ⟨rfl, rfl⟩ | ⟨x, hx9, rfl, rfl⟩
      · refine mv_outer_cell (h0 := T.heap.size) ?_ (fun i hi => ?_)
        · rw [Nat.add_zero, f2, mv_outer1]
        · rw [show hp.length + 1 + i * 1 = hp.length + (1 + i) by omega, hadr (1 + i) (by omega)]
          omega
      · refine mv_inner_cell hd0 ?_
        rw [show T.heap.size + (x + 1) = T.heap.size + 1 + x by omega]
        exact fi x hx9) (by rw [f1, hlen]; omega) (fun q hq => fo q hq) I.2.2.2.1.2.2
  rw [hlen] at I'
  have hk9 := kk F.heap ls locs (cells + (1 + n.toNatClampNeg)) (slots + (n.toNatClampNeg + n.toNatClampNeg * k.toNatClampNeg)) I'
  rw [← Nat.add_assoc, ← Nat.add_assoc] at hk9
  obtain ⟨t9, a1, b1⟩ := hk9 F rfl X'
  refine ⟨t9, step t9 ?_, b1⟩
  have e3 : (Value.ref hp.length :: r).map (mv_v (mv_ad base kt)) = .ref T.heap.size :: r.map (mv_v (mv_ad base kt)) := by
    rw [List.map_cons]
    show Value.ref (mv_ad base kt hp.length) :: _ = _
    rw [hz]
  dsimp only at a1
  rw [e3] at a1
  exact a1
theorem mr_multi3 (hx : p.tables.exec = Jvm.exec) (hb : c.code = cc) {own : String} (hown : s.vm.findClass own = some m.cls) (hK : va_K D cl (mv_tys dA L) s) {idx t t1 t2 : Nat} (hdg : decode cc pc = .ok (.multianewarray idx 3, 4)) {ty : FieldType} (hty : ty = .int ∨ ty = .byte) (har : (Cond.arrayClass ty).before args s = true) (hL0 : L[t]? = some (.array (.array ty))) (hL1 : L[t1]? = some (.array ty)) (hL2 : L[t2]? = some ty) (hov : (Cond.arrayOver (.array (.array ty))).before args s = true) (hov2 : (Cond.arrayOver (.array ty)).before args s = true) (hlk : (Cond.classLink own idx ("[" ++ (FieldType.array (.array ty)).toString)).before args s = true) {k n z : Int32} {r : List Value}
    (hc : ¬ z < 0 ∧ ¬ n < 0 ∧ ¬ k < 0 ∧ z.toNatClampNeg ≤ 65536 ∧ n.toNatClampNeg ≤ 65536 ∧ k.toNatClampNeg ≤ 65536 ∧ 1 + z.toNatClampNeg * (n.toNatClampNeg + 1) ≤ cb ∧ z.toNatClampNeg + z.toNatClampNeg * (n.toNatClampNeg + n.toNatClampNeg * k.toNatClampNeg) ≤ sb)
    (kk : mv_K base (mv_ad base kt) dA D cl nL p l e R s m args below meth c Q (pc + 4, lo, .ref hp.length :: r, hp ++ mv_grid3 t t1 t2 z.toNatClampNeg n.toNatClampNeg k.toNatClampNeg hp.length, cb - (1 + z.toNatClampNeg * (n.toNatClampNeg + 1)), sb - (z.toNatClampNeg + z.toNatClampNeg * (n.toNatClampNeg + n.toNatClampNeg * k.toNatClampNeg)))) : mv_K base (mv_ad base kt) dA D cl nL p l e R s m args below meth c Q (pc, lo, .int k :: .int n :: .int z :: r, hp, cb, sb) := by
  intro H ls locs cells slots I T hT X
  subst hT
  obtain ⟨hz, hn, hk, hz2, hn2, hk2, hc1, hc2⟩ := hc
  have I5 : cells + cb ≤ R.cells := I.2.2.2.2.1
  have I6 : slots + sb ≤ R.slots := I.2.2.2.2.2.1
  have hcb : componentBytes ty ≤ 4 := by rcases hty with rfl | rfl <;> decide
  have hd0 : defaultValue ty = .int 0 := by rcases hty with rfl | rfl <;> rfl
  have hb2 : k.toNatClampNeg * componentBytes ty ≤ 536870912 := Nat.le_trans (Nat.mul_le_mul hk2 hcb) (by decide)
  obtain ⟨vm₁, cA, c1, c2, locs', hlocs, hfA, hfB, hfC, X', step⟩ := mv_multianewarray3 X hx hown hlk hov hov2 har (by rcases hty with rfl | rfl <;> rfl) (g := F0 m pc ls (.int k :: .int n :: .int z :: r.map (mv_v (mv_ad base kt)))) rfl (by rw [hb]; exact hdg) rfl hz hn hk (by omega) (by omega) hb2 (by omega) (by rw [hd0]; rcases hty with rfl | rfl <;> rfl) (by rw [hd0]; rfl) (by omega) (by omega)
  obtain ⟨z0, hz0⟩ := mv_tys_mem (dA := dA) hL0
  obtain ⟨z1, hz1⟩ := mv_tys_mem (dA := dA) hL1
  obtain ⟨z3, hz3⟩ := mv_tys_mem (dA := dA) hL2
  have e0 := mv_RAof (hK.2 z0 _ hz0).2 hfA
  have e1 := mv_RAof (hK.2 z1 _ hz1).2 hfB
  have e2 : c2 = dA t2 := mv_RAof (hK.2 z3 _ hz3).2 (by rcases hty with rfl | rfl <;> exact hfC)
  subst e0
  subst e1
  subst e2
  have ff := (mv_f3_facts (T.setVm vm₁) (dA t) (dA t1) (dA t2) z.toNatClampNeg n.toNatClampNeg k.toNatClampNeg (defaultValue ty) z.toNatClampNeg)
  have fo := fun x (hx9 : x < T.heap.size) => mv_f3_old (T.setVm vm₁) (dA t) (dA t1) (dA t2) z.toNatClampNeg n.toNatClampNeg k.toNatClampNeg (defaultValue ty) (a := x) hx9 z.toNatClampNeg
  have fi := mv_f3_rows (T.setVm vm₁) (dA t) (dA t1) (dA t2) z.toNatClampNeg n.toNatClampNeg k.toNatClampNeg (defaultValue ty) z.toNatClampNeg
  obtain ⟨f1, f2, -, -⟩ := ff
  generalize mv_f3 (T.setVm vm₁) (dA t) (dA t1) (dA t2) z.toNatClampNeg n.toNatClampNeg k.toNatClampNeg (defaultValue ty) z.toNatClampNeg = F at X' step f1 f2 fo fi
  have hTh : (T.setVm vm₁).heap = T.heap := rfl
  rw [hTh] at f1 f2 fi fo
  have hlen : (mv_grid3 t t1 t2 z.toNatClampNeg n.toNatClampNeg k.toNatClampNeg hp.length).length = 1 + z.toNatClampNeg * (n.toNatClampNeg + 1) := by
    unfold mv_grid3
    rw [List.length_cons, mv_blocks_len]
    omega
  have hadr : ∀ x, x < 1 + z.toNatClampNeg * (n.toNatClampNeg + 1) → mv_ad base kt (hp.length + x) = T.heap.size + x := fun x hx9 => by
    have h7 : hp.length + cb ≤ mv_big := I.2.2.2.2.2.2
    have h3 : T.heap.size = base + hp.length := I.2.2.1
    rw [mv_ad, if_pos (by omega), h3]
    omega
  have hmul : ∀ i, i < z.toNatClampNeg → i * (n.toNatClampNeg + 1) + (n.toNatClampNeg + 1) ≤ z.toNatClampNeg * (n.toNatClampNeg + 1) := fun i hi => by
    have := Nat.mul_le_mul_right (n.toNatClampNeg + 1) (show i + 1 ≤ z.toNatClampNeg from hi)
    rw [Nat.succ_mul] at this
    exact this
  obtain ⟨I', hz⟩ := mv_inv_news (pc' := pc + 4) (st' := .ref hp.length :: r) (H1 := F.heap) (locs' := locs') (n := z.toNatClampNeg + z.toNatClampNeg * (n.toNatClampNeg + n.toNatClampNeg * k.toNatClampNeg)) I (es := mv_grid3 t t1 t2 z.toNatClampNeg n.toNatClampNeg k.toNatClampNeg hp.length) (by rw [hlen]; exact hc1) hc2 (by rw [hlen]; omega) (fun j e2 hj => by
      cases j with
      | zero =>
        cases hj
        refine mv_outer_cell (h0 := T.heap.size) ?_ (fun i hi => ?_)
        · rw [Nat.add_zero, f2]
        · have := hmul i hi
          rw [show hp.length + 1 + i * (n.toNatClampNeg + 1) = hp.length + (1 + i * (n.toNatClampNeg + 1)) by omega, hadr _ (by omega)]
          omega
      | succ x =>
        have hj2 : (mv_blocks t1 t2 n.toNatClampNeg k.toNatClampNeg (hp.length + 1) z.toNatClampNeg)[x]? = some e2 := by
          unfold mv_grid3 at hj
          rw [List.getElem?_cons_succ] at hj
          exact hj
        obtain ⟨i, r9, hi, rfl, h9⟩ := mv_blocks_at _ _ _ _ _ _ _ _ hj2
        have hmi := hmul i hi
        obtain ⟨g1, g2⟩ := fi i hi
        rcases mv_grid2_at h9 with ⟨rfl, rfl⟩ | ⟨x, hx9, rfl, rfl⟩
        · refine mv_outer_cell (h0 := T.heap.size + 1 + i * (n.toNatClampNeg + 1)) ?_ (fun i9 hi9 => ?_)
          · rw [show T.heap.size + (i * (n.toNatClampNeg + 1) + 0 + 1) = T.heap.size + 1 + i * (n.toNatClampNeg + 1) by omega]
            exact g1
          · rw [show hp.length + 1 + i * (n.toNatClampNeg + 1) + 1 + i9 * 1 = hp.length + (1 + i * (n.toNatClampNeg + 1) + 1 + i9) by omega, hadr _ (by omega)]
            omega
        · refine mv_inner_cell hd0 ?_
          rw [show T.heap.size + (i * (n.toNatClampNeg + 1) + (x + 1) + 1) = T.heap.size + 1 + i * (n.toNatClampNeg + 1) + 1 + x by omega]
          exact g2 x hx9) (by rw [f1, hlen]; omega) (fun q hq => fo q hq) (fun q hq => by
      rcases hlocs q hq with h9 | h9
      · exact I.2.2.2.1.2.2 q h9
      · have h3 : T.heap.size = base + hp.length := I.2.2.1
        show base ≤ q.base
        have h8 : T.heap.size ≤ q.base := h9
        omega)
  rw [hlen] at I'
  have hk9 := kk F.heap ls locs' (cells + (1 + z.toNatClampNeg * (n.toNatClampNeg + 1))) (slots + (z.toNatClampNeg + z.toNatClampNeg * (n.toNatClampNeg + n.toNatClampNeg * k.toNatClampNeg))) I'
  rw [← Nat.add_assoc, ← Nat.add_assoc] at hk9
  obtain ⟨t9, a1, b1⟩ := hk9 F rfl X'
  refine ⟨t9, step t9 ?_, b1⟩
  have e3 : (Value.ref hp.length :: r).map (mv_v (mv_ad base kt)) = .ref T.heap.size :: r.map (mv_v (mv_ad base kt)) := by
    rw [List.map_cons]
    show Value.ref (mv_ad base kt hp.length) :: _ = _
    rw [hz]
  dsimp only at a1
  rw [e3] at a1
  exact a1
theorem mr_multi (hx : p.tables.exec = Jvm.exec) (hb : c.code = cc) (hts : ∀ w ∈ Ts, w.before args s = true) {own : String} (hown : s.vm.findClass own = some m.cls) (hK : va_K D cl (mv_tys dA L) s) {idx d : Nat} (hdg : decode cc pc = .ok (.multianewarray idx d, 4)) (hok : ∀ t t1 t2, mv_gM G y idx = some (t, t1, t2) → mv_okGr L Ts own idx t t1 t2)
    (h : mv_multi G y pc lo st hp cb sb idx d = some (.inl S)) (k : mv_K base (mv_ad base kt) dA D cl nL p l e R s m args below meth c Q S) : mv_K base (mv_ad base kt) dA D cl nL p l e R s m args below meth c Q (pc, lo, st, hp, cb, sb) := by
  unfold mv_multi at h
  split at h
  · rename_i t t1 t2 hM
    obtain ⟨ty, hty, har, hg⟩ := hok _ _ _ hM
    split at h
    · rename_i k0 n r
      split at h
      · rename_i hd
        subst hd
        split at h
        · rename_i hc
          cases h
          rcases hg with ⟨-, g1, g2, g3, g4⟩ | ⟨g0, -⟩
          · exact mr_multi2 hx hb hown hK hdg hty (hts _ har) g1 g2 (hts _ g3) (hts _ g4) hc.2 k
          · omega
        · cases h
      · split at h
        · rename_i z r0
          split at h
          · rename_i hc
            obtain ⟨rfl, hc⟩ := hc
            cases h
            rcases hg with ⟨g0, -⟩ | ⟨-, g1, g2, g3, g4, g5, g6⟩
            · omega
            · exact mr_multi3 hx hb hown hK hdg hty (hts _ har) g1 g2 g3 (hts _ g4) (hts _ g5) (hts _ g6) hc.2 k
          · cases h
        · cases h
    · cases h
  · cases h
end MVM
end
section
/-! constants of text: String.length and String.charAt, by contract -/
abbrev st_C : String := "java/lang/String"
abbrev st_L : String := "java/lang/StringLatin1"
abbrev st_P : String := "jdk/internal/util/Preconditions"
abbrev st_F : String := "Ljava/util/function/BiFunction;"
abbrev st_b0 : ByteArray := prog_21_method_154_code
def st_y0 : MethodName := ⟨st_C, "isLatin1", "()Z"⟩
abbrev st_b1 : ByteArray := prog_27_method_11_code
def st_y1 : MethodName := ⟨st_P, "checkIndex", "(IILjava/util/function/BiFunction;)I"⟩
abbrev st_b2 : ByteArray := prog_21_method_155_code
def st_y2 : MethodName := ⟨st_C, "checkIndex", "(II)V"⟩
abbrev st_b3 : ByteArray := prog_22_method_2_code
def st_y3 : MethodName := ⟨st_L, "charAt", "([BI)C"⟩
abbrev st_b4 : ByteArray := prog_21_method_56_code
def st_y4 : MethodName := ⟨st_C, "charAt", "(I)C"⟩
abbrev st_b5 : ByteArray := prog_21_method_152_code
def st_y5 : MethodName := ⟨st_C, "coder", "()B"⟩
abbrev st_b6 : ByteArray := prog_21_method_54_code
def st_y6 : MethodName := ⟨st_C, "length", "()I"⟩
def st_w0 : List Cond := .code st_y0 st_b0 1 (some .boolean) :: [.fieldLink st_C 38 st_C "COMPACT_STRINGS" "Z", .fieldLink st_C 15 st_C "coder" "B"]
def st_w1 : List Cond := .code st_y1 st_b1 3 (some .int) :: []
def st_w2 : List Cond := .code st_y2 st_b2 2 none :: ([.fieldLink st_C 1053 st_P "SIOOBE_FORMATTER" st_F, .methodLink st_C 1059 st_y1, .static st_y1, .initialized st_P] ++ st_w1)
def st_w3 : List Cond := .code st_y3 st_b3 2 (some .char) :: ([.methodLink st_L 9 st_y2, .static st_y2, .initialized st_C] ++ st_w2)
def st_w4 : List Cond := .code st_y4 st_b4 2 (some .char) :: ([.methodLink st_C 492 st_y0, .instanceMethod st_y0, .selects st_C st_y0 st_y0, .initialized st_C, .fieldLink st_C 9 st_C "value" "[B", .methodLink st_C 495 st_y3, .static st_y3, .initialized st_L] ++ st_w0 ++ st_w3)
def st_w5 : List Cond := .code st_y5 st_b5 1 (some .byte) :: [.fieldLink st_C 38 st_C "COMPACT_STRINGS" "Z", .fieldLink st_C 15 st_C "coder" "B"]
def st_w6 : List Cond := .code st_y6 st_b6 1 (some .int) :: ([.fieldLink st_C 9 st_C "value" "[B", .methodLink st_C 335 st_y5, .instanceMethod st_y5, .selects st_C st_y5 st_y5, .initialized st_C] ++ st_w5)
/-- the text at q, of n bytes f, and what the methods read beside it -/
def st_SA (A : Nat → Prop) (q v n : Nat) (f : Nat → Int32) (U : State) (H : Heap) : Prop :=
  va_O st_C q A U H ∧ va_OF st_C "coder" "B" (.int 0) q A U H ∧ va_OF st_C "value" "[B" (.ref v) q A U H ∧ va_T .byte v n (fun j => .int (f j)) A U H ∧ va_Z st_C "COMPACT_STRINGS" "Z" (.int 1) A U H ∧ ∃ fm : Value, fm.isRef = true ∧ va_Z st_P "SIOOBE_FORMATTER" st_F fm A U H
abbrev st_S (q v n : Nat) (f : Nat → Int32) (U : State) (H : Heap) : Prop := st_SA (fun _ => False) q v n f U H
theorem st_S.moved {A : Nat → Prop} {q v n : Nat} {f : Nat → Int32} {u U : State} {H : Heap} (hvm : u.vm.Alike U.vm) (h : st_SA A q v n f u H) : st_SA A q v n f U H := by
  obtain ⟨h1, h2, h3, h4, h5, fm, h0, h6⟩ := h
  exact ⟨h1.moved hvm, h2.moved hvm, h3.moved hvm, h4.moved hvm, h5.moved hvm, fm, h0, h6.moved hvm⟩
theorem st_S.kept {A : Nat → Prop} {q v n : Nat} {f : Nat → Int32} {U : State} {H H1 : Heap} (h : st_SA A q v n f U H) (hq : ∀ a : Nat, a < H.size → ¬ A a → H1[a]? = H[a]?) : st_SA A q v n f U H1 := by
  obtain ⟨h1, h2, h3, h4, h5, fm, h0, h6⟩ := h
  exact ⟨h1.kept hq, h2.kept hq, h3.kept hq, h4.kept hq, h5.kept hq, fm, h0, h6.kept hq⟩
theorem st_S.free {A : Nat → Prop} {q v n : Nat} {f : Nat → Int32} {U : State} {H : Heap} (h : st_SA A q v n f U H) : st_S q v n f U H := by
  obtain ⟨h1, h2, h3, h4, h5, fm, h0, h6⟩ := h
  exact ⟨h1.narrow fun _ z => z.elim, h2.narrow fun _ z => z.elim, h3.narrow fun _ z => z.elim, h4.narrow fun _ z => z.elim, h5.narrow fun _ z => z.elim, fm, h0, h6.narrow fun _ z => z.elim⟩
def st_Q (r : Int32) : Array Value → State → Outcome → State → Prop := fun _ st oc t => oc = .returned (some (.int r)) ∧ t.heap = st.heap
def st_V : Array Value → State → Outcome → State → Prop := fun _ st oc t => oc = .returned none ∧ t.heap = st.heap
abbrev st_N : Addr → Prop := fun _ => False
section STG
variable {p : Program} {l : Launch} {e : Env} {R : Room} {s : State} {m : MethodId} {args : Array Value} {below : List Frame} {meth : Method} {c : Code} {H : Heap} {locs : List Loc} {cells slots : Nat} {Q : State → Prop} {pc : Nat} {ls : Array Slot} {st0 rest : List Value} {a : Array Value}
theorem st_go {r : Int32} (hr : va_Run p l e R s m args below meth c H locs cells slots 0 0 (F0 m pc ls st0) rest (st_Q r a) st_N) (kk : W p l e R s m args below meth c H locs cells slots Q (F0 m (pc + 3) ls (.int r :: rest))) : W p l e R s m args below meth c H locs cells slots Q (F0 m pc ls st0) := by
  intro T hT X
  obtain ⟨v, st₀, t, T', L, h0, X', hL, e1, e2, ⟨hv, hh⟩, st⟩ := hr T hT X
  cases hv
  have hL0 : L = [] := List.eq_nil_iff_forall_not_mem.mpr fun q hq => hL q hq
  subst hL0
  rw [List.append_nil] at X'
  obtain ⟨t2, a1, b1⟩ := kk T' (by rw [e1, hh, h0]) X'
  exact ⟨t2, st t2 a1, b1⟩
theorem st_goV (hr : va_Run p l e R s m args below meth c H locs cells slots 0 0 (F0 m pc ls st0) rest (st_V a) st_N) (kk : W p l e R s m args below meth c H locs cells slots Q (F0 m (pc + 3) ls rest)) : W p l e R s m args below meth c H locs cells slots Q (F0 m pc ls st0) := by
  intro T hT X
  obtain ⟨v, st₀, t, T', L, h0, X', hL, e1, e2, ⟨hv, hh⟩, st⟩ := hr T hT X
  cases hv
  have hL0 : L = [] := List.eq_nil_iff_forall_not_mem.mpr fun q hq => hL q hq
  subst hL0
  rw [List.append_nil] at X'
  obtain ⟨t2, a1, b1⟩ := kk T' (by rw [e1, hh, h0]) X'
  exact ⟨t2, st t2 a1, b1⟩
end STG
theorem st_d00 : decode st_b0 0 = .ok (.getstatic 38, 3) := by decide +kernel
theorem st_d03 : decode st_b0 3 = .ok (.ifCond .eq 14, 3) := by decide +kernel
theorem st_d06 : decode st_b0 6 = .ok (.aload_n 0, 1) := by decide +kernel
theorem st_d07 : decode st_b0 7 = .ok (.getfield 15, 3) := by decide +kernel
theorem st_d0a : decode st_b0 10 = .ok (.ifCond .ne 7, 3) := by decide +kernel
theorem st_d0d : decode st_b0 13 = .ok (.iconst 1, 1) := by decide +kernel
theorem st_d0e : decode st_b0 14 = .ok (.goto 4, 3) := by decide +kernel
theorem st_d0i : decode st_b0 18 = .ok (.ireturn, 1) := by decide +kernel
theorem c_st0 (l : Launch) (q v n : Nat) (f : Nat → Int32) : Met l st_y0 st_w0 ({ frames := 0, cells := 0, slots := 0, locals := 0 }) (va_Pc [.ref q] (fun U => st_S q v n f U U.heap)) (st_Q 1) 0 0 st_N := by
  refine Met.ofW (cc := st_b0) (maxL := 1) (ret := some .boolean) (by decide) rfl ?_
  intro p e s m args below meth c s₁ B hml hv
  obtain ⟨rfl, hO, hC, hV, hT, hZ, fm, hfm, hF⟩ := hv
  have hx := B.exec
  have hb := B.bytes
  have hr := B.returns
  have hts := atoms_spec (ws := st_w0) B.pre
  have hown : s.vm.findClass st_C = some m.cls := findClass_of_methodNamed B.named
  have hlocks := B.notSynchronized
  have hS : va_S (fun _ => False) s.heap s.heap [] := va_S.rf
  have hl := lv_entry ([.ref q]) (n := 1) (Nat.le_of_ble_eq_true rfl)
  rw [lg_entry_eq]
  generalize (lg_sl ([.ref q]) ++ List.replicate (1 - (lg_sl ([.ref q])).length) Slot.unset).toArray = ls at hl ⊢
  have hl : lv_has ls 1 [(0, .ref q)] := hl
  refine va_gets hx hb hZ hS hown (hts (.fieldLink st_C 38 st_C "COMPACT_STRINGS" "Z") (by decide +kernel)) (fun _ h9 => h9) st_d00 ?_
  refine lv_if_eq hx hb st_d03 (tgt := 17) rfl (fun h => absurd h (by decide)) (fun _ => ?_)
  refine lv_aload_n hx hb st_d06 rfl (lv_at hl 0 rfl) ?_
  refine vk_getf hx hb hC hS hown (hts (.fieldLink st_C 15 st_C "coder" "B") (by decide +kernel)) (fun _ h9 => h9) st_d07 ?_
  refine lv_if_ne hx hb st_d0a (tgt := 17) rfl (fun h => absurd rfl h) (fun _ => ?_)
  refine lv_iconst (v := 1) hx hb st_d0d (by decide) ?_
  refine lv_goto hx hb st_d0e (tgt := 18) rfl ?_
  exact W.zret (v := 1) hx hb hr (by decide) (fun t ht hW => ⟨rfl, ht⟩) (fun _ h => absurd h List.not_mem_nil) st_d0i
theorem st_d10 : decode st_b1 0 = .ok (.iload_n 0, 1) := by decide +kernel
theorem st_d11 : decode st_b1 1 = .ok (.ifCond .lt 8, 3) := by decide +kernel
theorem st_d14 : decode st_b1 4 = .ok (.iload_n 0, 1) := by decide +kernel
theorem st_d15 : decode st_b1 5 = .ok (.iload_n 1, 1) := by decide +kernel
theorem st_d16 : decode st_b1 6 = .ok (.if_icmp .lt 10, 3) := by decide +kernel
theorem st_d1g : decode st_b1 16 = .ok (.iload_n 0, 1) := by decide +kernel
theorem st_d1h : decode st_b1 17 = .ok (.ireturn, 1) := by decide +kernel
theorem c_st1 (l : Launch) (i n : Int32) (fm : Value) (hfm : fm.isRef = true) (h0 : ¬ i < 0) (hn : i < n) : Met l st_y1 st_w1 ({ frames := 0, cells := 0, slots := 0, locals := 0 }) (va_Pc [.int i, .int n, fm] (fun _ => True)) (st_Q i) 0 0 st_N := by
  refine Met.ofW (cc := st_b1) (maxL := 3) (ret := some .int) (by decide) rfl ?_
  intro p e s m args below meth c s₁ B hml hv
  obtain ⟨rfl, -⟩ := hv
  have hx := B.exec
  have hb := B.bytes
  have hr := B.returns
  have hlocks := B.notSynchronized
  have hcat : fm.category = 1 := by cases fm <;> first | rfl | cases hfm
  have hl : ∃ ls : Array Slot, entryFrame m ([.int i, .int n, fm] : List Value).toArray 3 = F0 m 0 ls [] ∧ lv_has ls 3 [(0, .int i), (1, .int n), (2, fm)] := by
    rw [lg_entry_eq]
    have hl := lv_entry ([.int i, .int n, fm]) (n := 3) (by cases fm <;> first | exact Nat.le_of_ble_eq_true rfl | cases hfm)
    refine ⟨_, rfl, ?_⟩
    cases fm <;> first | exact hl | cases hfm
  obtain ⟨ls, he, hl⟩ := hl
  rw [he]
  refine lv_iload_n hx hb st_d10 rfl (lv_at hl 0 rfl) ?_
  refine lv_if_lt hx hb st_d11 (tgt := 9) rfl (fun h => absurd h h0) (fun _ => ?_)
  refine lv_iload_n hx hb st_d14 rfl (lv_at hl 0 rfl) ?_
  refine lv_iload_n hx hb st_d15 rfl (lv_at hl 1 rfl) ?_
  refine lv_icmp_lt hx hb st_d16 (tgt := 16) rfl (fun _ => ?_) (fun h => absurd hn h)
  refine lv_iload_n hx hb st_d1g rfl (lv_at hl 0 rfl) ?_
  exact W.iret (v := i) hx hb hr (fun t ht hW => ⟨rfl, ht⟩) (fun _ h => absurd h List.not_mem_nil) st_d1h
theorem st_d20 : decode st_b2 0 = .ok (.iload_n 0, 1) := by decide +kernel
theorem st_d21 : decode st_b2 1 = .ok (.iload_n 1, 1) := by decide +kernel
theorem st_d22 : decode st_b2 2 = .ok (.getstatic 1053, 3) := by decide +kernel
theorem st_d25 : decode st_b2 5 = .ok (.invokestatic 1059, 3) := by decide +kernel
theorem st_d28 : decode st_b2 8 = .ok (.pop, 1) := by decide +kernel
theorem st_d29 : decode st_b2 9 = .ok (.return_, 1) := by decide +kernel
set_option maxRecDepth 20000 in
theorem st_g21 : GoodIn st_w2 st_w1 := goodIn_p _ [5] rfl (by decide +kernel)
theorem c_st2 (l : Launch) (q v n : Nat) (f : Nat → Int32) (i k : Int32) (h0 : ¬ i < 0) (hn : i < k) : Met l st_y2 st_w2 ({ frames := 1, cells := 0, slots := 0, locals := 22 }) (va_Pc [.int i, .int k] (fun U => st_S q v n f U U.heap)) st_V 0 0 st_N := by
  refine Met.ofW (cc := st_b2) (maxL := 2) (ret := none) (by decide) rfl ?_
  intro p e s m args below meth c s₁ B hml hv
  obtain ⟨rfl, hO, hC, hV, hT, hZ, fm, hfm, hF⟩ := hv
  have hx := B.exec
  have hb := B.bytes
  have hr := B.returns
  have hts := atoms_spec (ws := st_w2) B.pre
  have hown : s.vm.findClass st_C = some m.cls := findClass_of_methodNamed B.named
  have hlocks := B.notSynchronized
  have hS : va_S (fun _ => False) s.heap s.heap [] := va_S.rf
  have hl := lv_entry ([.int i, .int k]) (n := 2) (Nat.le_of_ble_eq_true rfl)
  rw [lg_entry_eq]
  generalize (lg_sl ([.int i, .int k]) ++ List.replicate (2 - (lg_sl ([.int i, .int k])).length) Slot.unset).toArray = ls at hl ⊢
  have hl : lv_has ls 2 [(0, .int i), (1, .int k)] := hl
  refine lv_iload_n hx hb st_d20 rfl (lv_at hl 0 rfl) ?_
  refine lv_iload_n hx hb st_d21 rfl (lv_at hl 1 rfl) ?_
  refine va_gets hx hb hF hS hown (hts (.fieldLink st_C 1053 st_P "SIOOBE_FORMATTER" st_F) (by decide +kernel)) (fun _ h9 => h9) st_d22 ?_
  refine st_go (va_runS (As := [.int i, .int k, fm]) (rest := []) ⟨hx, hb, hml, hown, hts⟩ (c_st1 l i k fm hfm h0 hn) ⟨callB_of 3 hts st_g21 rfl rfl rfl (hts (.initialized st_P) (by decide +kernel)) (hts (.methodLink st_C 1059 st_y1) (by decide +kernel)) (by decide +kernel) ⟨Nat.le_of_ble_eq_true rfl, Nat.le_of_ble_eq_true rfl⟩, hts (.static st_y1) (by decide +kernel)⟩ ⟨fun a U g mk q => q, fun U hU hW => ⟨rfl, trivial⟩⟩ rfl rfl hl.1 rfl (lv_room (Nat.le_of_ble_eq_true rfl)) st_d25 ⟨Nat.zero_le _, Nat.zero_le _⟩) ?_
  refine lv_pop hx hb st_d28 rfl ?_
  exact W.vret hx hb hr (fun t ht hW => ⟨rfl, ht⟩) (fun _ h => absurd h List.not_mem_nil) st_d29
theorem st_d30 : decode st_b3 0 = .ok (.iload_n 1, 1) := by decide +kernel
theorem st_d31 : decode st_b3 1 = .ok (.aload_n 0, 1) := by decide +kernel
theorem st_d32 : decode st_b3 2 = .ok (.arraylength, 1) := by decide +kernel
theorem st_d33 : decode st_b3 3 = .ok (.invokestatic 9, 3) := by decide +kernel
theorem st_d36 : decode st_b3 6 = .ok (.aload_n 0, 1) := by decide +kernel
theorem st_d37 : decode st_b3 7 = .ok (.iload_n 1, 1) := by decide +kernel
theorem st_d38 : decode st_b3 8 = .ok (.baload, 1) := by decide +kernel
theorem st_d39 : decode st_b3 9 = .ok (.sipush 255, 3) := by decide +kernel
theorem st_d3c : decode st_b3 12 = .ok (.iand, 1) := by decide +kernel
theorem st_d3d : decode st_b3 13 = .ok (.i2c, 1) := by decide +kernel
theorem st_d3e : decode st_b3 14 = .ok (.ireturn, 1) := by decide +kernel
set_option maxRecDepth 20000 in
theorem st_g32 : GoodIn st_w3 st_w2 := goodIn_p _ [4, 9] rfl (by decide +kernel)
/-- what charAt answers of a byte -/
def st_ch (b : Int32) : Int32 := ((b &&& 255).toUInt32 % 65536).toInt32
theorem st_ch_char (b : Int32) : narrow .char (.int (st_ch b)) = .int (st_ch b) := by
  have h : ∀ u : UInt32, (u % 65536).toUInt16.toUInt32 = u % 65536 := fun u => UInt32.toNat_inj.mp (by simp)
  unfold st_ch
  show Value.int _ = Value.int _
  rw [UInt32.toUInt32_toInt32, h]
theorem c_st3 (l : Launch) (q v n : Nat) (f : Nat → Int32) (i : Int32) (hin : vp_in i n) (hn31 : n < 2 ^ 31) : Met l st_y3 st_w3 ({ frames := 2, cells := 0, slots := 0, locals := 43 }) (va_Pc [.ref v, .int i] (fun U => st_S q v n f U U.heap)) (st_Q (st_ch (f i.toNatClampNeg))) 0 0 st_N := by
  refine Met.ofW (cc := st_b3) (maxL := 2) (ret := some .char) (by decide) rfl ?_
  intro p e s m args below meth c s₁ B hml hv
  obtain ⟨rfl, hO, hC, hV, hT, hZ, fm, hfm, hF⟩ := id hv
  have hx := B.exec
  have hb := B.bytes
  have hr := B.returns
  have hts := atoms_spec (ws := st_w3) B.pre
  have hown : s.vm.findClass st_L = some m.cls := findClass_of_methodNamed B.named
  have hlocks := B.notSynchronized
  have hS : va_S (fun _ => False) s.heap s.heap [] := va_S.rf
  have hl := lv_entry ([.ref v, .int i]) (n := 2) (Nat.le_of_ble_eq_true rfl)
  rw [lg_entry_eq]
  generalize (lg_sl ([.ref v, .int i]) ++ List.replicate (2 - (lg_sl ([.ref v, .int i])).length) Slot.unset).toArray = ls at hl ⊢
  have hl : lv_has ls 2 [(0, .ref v), (1, .int i)] := hl
  have h0 : ¬ i < 0 := fun h => hin (Or.inl h)
  have hlt : i.toNatClampNeg < n := Nat.not_le.mp fun h => hin (Or.inr h)
  have hi : i < Int32.ofNat n := by
    rw [Int32.lt_iff_toInt_lt, Int32.toInt_ofNat_of_lt hn31]
    have h1 : (0 : Int) ≤ i.toInt := by simpa using Int32.le_iff_toInt_le.mp (Int32.not_lt.mp h0)
    have h2 : i.toNatClampNeg = i.toInt.toNat := rfl
    omega
  refine lv_iload_n hx hb st_d30 rfl (lv_at hl 1 rfl) ?_
  refine lv_aload_n hx hb st_d31 rfl (lv_at hl 0 rfl) ?_
  refine va_tlen hx hb hT hS rfl st_d32 ?_
  refine st_goV (va_runS (As := [.int i, .int (Int32.ofNat n)]) (rest := []) ⟨hx, hb, hml, hown, hts⟩ (c_st2 l q v n f i (Int32.ofNat n) h0 hi) ⟨callB_of 2 hts st_g32 rfl rfl rfl (hts (.initialized st_C) (by decide +kernel)) (hts (.methodLink st_L 9 st_y2) (by decide +kernel)) (by decide +kernel) ⟨Nat.le_of_ble_eq_true rfl, Nat.le_of_ble_eq_true rfl⟩, hts (.static st_y2) (by decide +kernel)⟩ ⟨fun a U g mk q => ⟨q.1, st_S.moved (u := U) (U := U.calling g mk a) (Vm.Alike.refl U.vm) q.2⟩, fun U hU hW => ⟨rfl, by show st_S q v n f U U.heap; rw [hU]; exact st_S.moved hW.alike hv.2⟩⟩ rfl rfl hl.1 rfl (lv_room (Nat.le_of_ble_eq_true rfl)) st_d33 ⟨Nat.zero_le _, Nat.zero_le _⟩) ?_
  refine lv_aload_n hx hb st_d36 rfl (lv_at hl 0 rfl) ?_
  refine lv_iload_n hx hb st_d37 rfl (lv_at hl 1 rfl) ?_
  refine va_tb hx hb hT hS hin rfl st_d38 ?_
  refine lv_sipush (v := 255) hx hb st_d39 (by decide) ?_
  refine lv_iand hx hb st_d3c ?_
  refine lv_i2c hx hb st_d3d rfl ?_
  exact W.zret (v := st_ch (f i.toNatClampNeg)) hx hb hr (st_ch_char _) (fun t ht hW => ⟨rfl, ht⟩) (fun _ h => absurd h List.not_mem_nil) st_d3e
theorem st_d40 : decode st_b4 0 = .ok (.aload_n 0, 1) := by decide +kernel
theorem st_d41 : decode st_b4 1 = .ok (.invokevirtual 492, 3) := by decide +kernel
theorem st_d44 : decode st_b4 4 = .ok (.ifCond .eq 12, 3) := by decide +kernel
theorem st_d47 : decode st_b4 7 = .ok (.aload_n 0, 1) := by decide +kernel
theorem st_d48 : decode st_b4 8 = .ok (.getfield 9, 3) := by decide +kernel
theorem st_d4b : decode st_b4 11 = .ok (.iload_n 1, 1) := by decide +kernel
theorem st_d4c : decode st_b4 12 = .ok (.invokestatic 495, 3) := by decide +kernel
theorem st_d4f : decode st_b4 15 = .ok (.ireturn, 1) := by decide +kernel
set_option maxRecDepth 20000 in
theorem st_g40 : GoodIn st_w4 (wsV st_C 492 st_C st_y0 st_w0) := goodIn_p _ [9] rfl (by decide +kernel)
set_option maxRecDepth 20000 in
theorem st_g43 : GoodIn st_w4 st_w3 := goodIn_p _ [12, 16, 21] rfl (by decide +kernel)
theorem c_st4 (l : Launch) (q v n : Nat) (f : Nat → Int32) (i : Int32) (hin : vp_in i n) (hn31 : n < 2 ^ 31) : Met l st_y4 st_w4 ({ frames := 3, cells := 0, slots := 0, locals := 64 }) (va_Pc [.ref q, .int i] (fun U => st_S q v n f U U.heap)) (st_Q (st_ch (f i.toNatClampNeg))) 0 0 st_N := by
  refine Met.ofW (cc := st_b4) (maxL := 2) (ret := some .char) (by decide) rfl ?_
  intro p e s m args below meth c s₁ B hml hv
  obtain ⟨rfl, hO, hC, hV, hT, hZ, fm, hfm, hF⟩ := id hv
  have hx := B.exec
  have hb := B.bytes
  have hr := B.returns
  have hts := atoms_spec (ws := st_w4) B.pre
  have hown : s.vm.findClass st_C = some m.cls := findClass_of_methodNamed B.named
  have hlocks := B.notSynchronized
  have hS : va_S (fun _ => False) s.heap s.heap [] := va_S.rf
  have hl := lv_entry ([.ref q, .int i]) (n := 2) (Nat.le_of_ble_eq_true rfl)
  rw [lg_entry_eq]
  generalize (lg_sl ([.ref q, .int i]) ++ List.replicate (2 - (lg_sl ([.ref q, .int i])).length) Slot.unset).toArray = ls at hl ⊢
  have hl : lv_has ls 2 [(0, .ref q), (1, .int i)] := hl
  refine lv_aload_n hx hb st_d40 rfl (lv_at hl 0 rfl) ?_
  refine st_go (va_runV (As := []) (rest := []) ⟨hx, hb, hml, hown, hts⟩ (c_st0 l q v n f) (cwV 0 hts st_g40 rfl rfl rfl (by decide +kernel) ⟨Nat.le_of_ble_eq_true rfl, Nat.le_of_ble_eq_true rfl⟩) ⟨fun a U g mk q => ⟨q.1, st_S.moved (u := U) (U := U.calling g mk a) (Vm.Alike.refl U.vm) q.2⟩, (by obtain ⟨cell, z1, z2, z3, -⟩ := hO; exact ⟨cell, z1, z2, z3⟩), fun U hU hW => ⟨rfl, by show st_S q v n f U U.heap; rw [hU]; exact st_S.moved hW.alike hv.2⟩⟩ rfl rfl hl.1 rfl (lv_room (Nat.le_of_ble_eq_true rfl)) st_d41 ⟨Nat.zero_le _, Nat.zero_le _⟩) ?_
  refine lv_if_eq hx hb st_d44 (tgt := 16) rfl (fun h => absurd h (by decide)) (fun _ => ?_)
  refine lv_aload_n hx hb st_d47 rfl (lv_at hl 0 rfl) ?_
  refine vk_getf hx hb hV hS hown (hts (.fieldLink st_C 9 st_C "value" "[B") (by decide +kernel)) (fun _ h9 => h9) st_d48 ?_
  refine lv_iload_n hx hb st_d4b rfl (lv_at hl 1 rfl) ?_
  refine st_go (va_runS (As := [.ref v, .int i]) (rest := []) ⟨hx, hb, hml, hown, hts⟩ (c_st3 l q v n f i hin hn31) ⟨callB_of 2 hts st_g43 rfl rfl rfl (hts (.initialized st_L) (by decide +kernel)) (hts (.methodLink st_C 495 st_y3) (by decide +kernel)) (by decide +kernel) ⟨Nat.le_of_ble_eq_true rfl, Nat.le_of_ble_eq_true rfl⟩, hts (.static st_y3) (by decide +kernel)⟩ ⟨fun a U g mk q => ⟨q.1, st_S.moved (u := U) (U := U.calling g mk a) (Vm.Alike.refl U.vm) q.2⟩, fun U hU hW => ⟨rfl, by show st_S q v n f U U.heap; rw [hU]; exact st_S.moved hW.alike hv.2⟩⟩ rfl rfl hl.1 rfl (lv_room (Nat.le_of_ble_eq_true rfl)) st_d4c ⟨Nat.zero_le _, Nat.zero_le _⟩) ?_
  exact W.zret (v := st_ch (f i.toNatClampNeg)) hx hb hr (st_ch_char _) (fun t ht hW => ⟨rfl, ht⟩) (fun _ h => absurd h List.not_mem_nil) st_d4f
theorem st_d50 : decode st_b5 0 = .ok (.getstatic 38, 3) := by decide +kernel
theorem st_d53 : decode st_b5 3 = .ok (.ifCond .eq 10, 3) := by decide +kernel
theorem st_d56 : decode st_b5 6 = .ok (.aload_n 0, 1) := by decide +kernel
theorem st_d57 : decode st_b5 7 = .ok (.getfield 15, 3) := by decide +kernel
theorem st_d5a : decode st_b5 10 = .ok (.goto 4, 3) := by decide +kernel
theorem st_d5e : decode st_b5 14 = .ok (.ireturn, 1) := by decide +kernel
theorem c_st5 (l : Launch) (q v n : Nat) (f : Nat → Int32) : Met l st_y5 st_w5 ({ frames := 0, cells := 0, slots := 0, locals := 0 }) (va_Pc [.ref q] (fun U => st_S q v n f U U.heap)) (st_Q 0) 0 0 st_N := by
  refine Met.ofW (cc := st_b5) (maxL := 1) (ret := some .byte) (by decide) rfl ?_
  intro p e s m args below meth c s₁ B hml hv
  obtain ⟨rfl, hO, hC, hV, hT, hZ, fm, hfm, hF⟩ := hv
  have hx := B.exec
  have hb := B.bytes
  have hr := B.returns
  have hts := atoms_spec (ws := st_w5) B.pre
  have hown : s.vm.findClass st_C = some m.cls := findClass_of_methodNamed B.named
  have hlocks := B.notSynchronized
  have hS : va_S (fun _ => False) s.heap s.heap [] := va_S.rf
  have hl := lv_entry ([.ref q]) (n := 1) (Nat.le_of_ble_eq_true rfl)
  rw [lg_entry_eq]
  generalize (lg_sl ([.ref q]) ++ List.replicate (1 - (lg_sl ([.ref q])).length) Slot.unset).toArray = ls at hl ⊢
  have hl : lv_has ls 1 [(0, .ref q)] := hl
  refine va_gets hx hb hZ hS hown (hts (.fieldLink st_C 38 st_C "COMPACT_STRINGS" "Z") (by decide +kernel)) (fun _ h9 => h9) st_d50 ?_
  refine lv_if_eq hx hb st_d53 (tgt := 13) rfl (fun h => absurd h (by decide)) (fun _ => ?_)
  refine lv_aload_n hx hb st_d56 rfl (lv_at hl 0 rfl) ?_
  refine vk_getf hx hb hC hS hown (hts (.fieldLink st_C 15 st_C "coder" "B") (by decide +kernel)) (fun _ h9 => h9) st_d57 ?_
  refine lv_goto hx hb st_d5a (tgt := 14) rfl ?_
  exact W.zret (v := 0) hx hb hr (by decide) (fun t ht hW => ⟨rfl, ht⟩) (fun _ h => absurd h List.not_mem_nil) st_d5e
theorem st_d60 : decode st_b6 0 = .ok (.aload_n 0, 1) := by decide +kernel
theorem st_d61 : decode st_b6 1 = .ok (.getfield 9, 3) := by decide +kernel
theorem st_d64 : decode st_b6 4 = .ok (.arraylength, 1) := by decide +kernel
theorem st_d65 : decode st_b6 5 = .ok (.aload_n 0, 1) := by decide +kernel
theorem st_d66 : decode st_b6 6 = .ok (.invokevirtual 335, 3) := by decide +kernel
theorem st_d69 : decode st_b6 9 = .ok (.ishr, 1) := by decide +kernel
theorem st_d6a : decode st_b6 10 = .ok (.ireturn, 1) := by decide +kernel
set_option maxRecDepth 20000 in
theorem st_g65 : GoodIn st_w6 (wsV st_C 335 st_C st_y5 st_w5) := goodIn_p _ [6] rfl (by decide +kernel)
theorem c_st6 (l : Launch) (q v n : Nat) (f : Nat → Int32) : Met l st_y6 st_w6 ({ frames := 1, cells := 0, slots := 0, locals := 20 }) (va_Pc [.ref q] (fun U => st_S q v n f U U.heap)) (st_Q (Int32.ofNat n)) 0 0 st_N := by
  refine Met.ofW (cc := st_b6) (maxL := 1) (ret := some .int) (by decide) rfl ?_
  intro p e s m args below meth c s₁ B hml hv
  obtain ⟨rfl, hO, hC, hV, hT, hZ, fm, hfm, hF⟩ := id hv
  have hx := B.exec
  have hb := B.bytes
  have hr := B.returns
  have hts := atoms_spec (ws := st_w6) B.pre
  have hown : s.vm.findClass st_C = some m.cls := findClass_of_methodNamed B.named
  have hlocks := B.notSynchronized
  have hS : va_S (fun _ => False) s.heap s.heap [] := va_S.rf
  have hl := lv_entry ([.ref q]) (n := 1) (Nat.le_of_ble_eq_true rfl)
  rw [lg_entry_eq]
  generalize (lg_sl ([.ref q]) ++ List.replicate (1 - (lg_sl ([.ref q])).length) Slot.unset).toArray = ls at hl ⊢
  have hl : lv_has ls 1 [(0, .ref q)] := hl
  refine lv_aload_n hx hb st_d60 rfl (lv_at hl 0 rfl) ?_
  refine vk_getf hx hb hV hS hown (hts (.fieldLink st_C 9 st_C "value" "[B") (by decide +kernel)) (fun _ h9 => h9) st_d61 ?_
  refine va_tlen hx hb hT hS rfl st_d64 ?_
  refine lv_aload_n hx hb st_d65 rfl (lv_at hl 0 rfl) ?_
  refine st_go (va_runV (As := []) (rest := [.int (Int32.ofNat n)]) ⟨hx, hb, hml, hown, hts⟩ (c_st5 l q v n f) (cwV 0 hts st_g65 rfl rfl rfl (by decide +kernel) ⟨Nat.le_of_ble_eq_true rfl, Nat.le_of_ble_eq_true rfl⟩) ⟨fun a U g mk q => ⟨q.1, st_S.moved (u := U) (U := U.calling g mk a) (Vm.Alike.refl U.vm) q.2⟩, (by obtain ⟨cell, z1, z2, z3, -⟩ := hO; exact ⟨cell, z1, z2, z3⟩), fun U hU hW => ⟨rfl, by show st_S q v n f U U.heap; rw [hU]; exact st_S.moved hW.alike hv.2⟩⟩ rfl rfl hl.1 rfl (lv_room (Nat.le_of_ble_eq_true rfl)) st_d66 ⟨Nat.zero_le _, Nat.zero_le _⟩) ?_
  refine lv_ishr hx hb st_d69 ?_
  refine W.eq (g2 := F0 m 10 ls [.int (Int32.ofNat n)]) (by rw [show Int32.ofNat n >>> ((0 : Int32) &&& 31) = Int32.ofNat n from by rw [show ((0 : Int32) &&& 31) = 0 by decide, Int32.shiftRight_zero]]) ?_
  exact W.iret (v := Int32.ofNat n) hx hb hr (fun t ht hW => ⟨rfl, ht⟩) (fun _ h => absurd h List.not_mem_nil) st_d6a
end
section
/-! the small machine: what has no bytecode of its own here: arraycopy; an exception made with its message -/
def mv_fitT (t : Nat) (x : Int32) : Bool := if t = 0 then true else if t = 1 then fits .byte (.int x) else fits .boolean (.int x)
section
variable (G : mv_G) (y pc : Nat) (l : List (Nat × Value)) (st : List Value) (hp : List va_E) (cb sb fb lb : Nat)
def mv_copy : Option mv_S := match st with
  | .int n :: .int dp :: .ref a1 :: .int sp :: .ref a0 :: r => match hp[a0]?, hp[a1]? with
    | some (.inl (t0, n0, .inl f)), some (.inl (t1, n1, .inl g)) =>
      if (t0 = t1 ∧ t0 < 3) ∧ (¬ sp < 0 ∧ ¬ dp < 0 ∧ ¬ n < 0) ∧ sp.toNatClampNeg + n.toNatClampNeg ≤ n0 ∧ dp.toNatClampNeg + n.toNatClampNeg ≤ n1 ∧ (t0 = 0 ∨ (List.range n.toNatClampNeg).all (fun i => mv_fitT t0 (f (sp.toNatClampNeg + i))) = true) ∧ 1 ≤ fb ∧ (r.map fun v => v.category).sum + (nativeFrameWords "java/lang/System" "arraycopy" 5 + 11) ≤ lb then
        some (pc + 3, l, r, hp.set a1 (.inl (t1, n1, .inl (va_cpy f g sp.toNatClampNeg dp.toNatClampNeg n.toNatClampNeg))), cb, sb)
      else none
    | _, _ => none
  | _ => none
/-- new; dup; ldc_w; invokespecial: the thrown class's object, made with a text -/
def mv_made : Option mv_S := match mv_gI G y (pc + 3), mv_gI G y (pc + 4), mv_gI G y (pc + 7) with
  | some (.dup, 1), some (.ldc_w i2, 3), some (.invokespecial i3, 3) => match mv_gK G y i2, mv_gC G y i3 with
    | some (.ref _), some (kd, _, _) =>
      if kd = 8 ∧ 1 ≤ cb ∧ 6 ≤ sb ∧ 6 ≤ fb ∧ (st.map fun v => v.category).sum + 82 ≤ lb then some (pc + 10, l, .ref hp.length :: st, hp ++ [.inr (mv_gX G, [])], cb - 1, sb - 6) else none
    | _, _ => none
  | _, _, _ => none
/-- an int of an array that was there before; its length -/
def mv_xald : Option mv_S := match st with
  | .int i :: .ref a :: r => match mv_gS G a with
    | some (n, f) => if mv_out i n = false then some (pc + 1, l, .int (f i.toNatClampNeg) :: r, hp, cb, sb) else none
    | none => none
  | _ => none
def mv_xlen : Option mv_S := match st with
  | .ref a :: r => match mv_gS G a with
    | some (n, _) => some (pc + 1, l, .int (Int32.ofNat n) :: r, hp, cb, sb)
    | none => none
  | _ => none
/-- Object's own constructor -/
def mv_oini : Option mv_S := match st with
  | .ref _ :: r => if 1 ≤ fb ∧ (r.map fun v => v.category).sum + 12 ≤ lb then some (pc + 3, l, r, hp, cb, sb) else none
  | _ => none
/-- String.length, String.charAt -/
def mv_slen : Option mv_S := match st with
  | .ref a :: r => match mv_gX2 G a with
    | some tx => if 2 ≤ fb ∧ 40 ≤ lb ∧ (r.map fun v => v.category).sum ≤ 8 then some (pc + 3, l, .int (Int32.ofNat tx.length) :: r, hp, cb, sb) else none
    | none => none
  | _ => none
def mv_schr : Option mv_S := match st with
  | .int i :: .ref a :: r => match mv_gX2 G a with
    | some tx => if mv_out i tx.length = false ∧ 4 ≤ fb ∧ 85 ≤ lb ∧ (r.map fun v => v.category).sum ≤ 8 then some (pc + 3, l, .int (st_ch (tx.getD i.toNatClampNeg 0)) :: r, hp, cb, sb) else none
    | none => none
  | _ => none
/-- an array into a place of an array of such -/
def mv_aasA : Option mv_S := match st with
  | .ref b :: .int i :: .ref a :: r => match hp[a]?, hp[b]? with
    | some (.inl (t, n, .inr (.inr (.inr (.inr g))))), some (.inl (t2, _)) => if mv_gB G t = some t2 ∧ mv_out i n = false then some (pc + 1, l, r, hp.set a (.inl (t, n, .inr (.inr (.inr (.inr (va_up g i.toNatClampNeg (some b))))))), cb, sb) else none
    | _, _ => none
  | _ => none
end
def mv_nat (G : mv_G) (y fb lb : Nat) (S : mv_S) : Option mv_S := match mv_gI G y S.1 with
  | some (.invokestatic idx, 3) => match mv_gC G y idx with
    | some (kd, _, _) => if kd = 7 then mv_copy S.1 S.2.1 S.2.2.1 S.2.2.2.1 S.2.2.2.2.1 S.2.2.2.2.2 fb lb else none
    | none => none
  | some (.new idx, 3) => match mv_gN G y idx with
    | some ci => if ci = mv_gX G then mv_made G y S.1 S.2.1 S.2.2.1 S.2.2.2.1 S.2.2.2.2.1 S.2.2.2.2.2 fb lb else none
    | none => none
  | some (.invokespecial idx, 3) => match mv_gC G y idx with
    | some (kd, _, _) => if kd = 9 then mv_oini S.1 S.2.1 S.2.2.1 S.2.2.2.1 S.2.2.2.2.1 S.2.2.2.2.2 fb lb else none
    | none => none
  | some (.invokevirtual idx, 3) => match mv_gC G y idx with
    | some (kd, _, _) => if kd = 10 then mv_slen G S.1 S.2.1 S.2.2.1 S.2.2.2.1 S.2.2.2.2.1 S.2.2.2.2.2 fb lb else if kd = 11 then mv_schr G S.1 S.2.1 S.2.2.1 S.2.2.2.1 S.2.2.2.2.1 S.2.2.2.2.2 fb lb else none
    | none => none
  | some (.aastore, 1) => mv_aasA G S.1 S.2.1 S.2.2.1 S.2.2.2.1 S.2.2.2.2.1 S.2.2.2.2.2
  | some (.iaload, 1) => mv_xald G S.1 S.2.1 S.2.2.1 S.2.2.2.1 S.2.2.2.2.1 S.2.2.2.2.2
  | some (.arraylength, 1) => mv_xlen G S.1 S.2.1 S.2.2.1 S.2.2.2.1 S.2.2.2.2.1 S.2.2.2.2.2
  | _ => none
def mv_ISE : String := "java/lang/IllegalStateException"
def mv_up : List String := ["java/lang/RuntimeException", "java/lang/Exception"]
/-- the exception's constructor, behind its own new -/
theorem mv_ctor {p : Program} {l : Launch} {e : Env} {R : Room} {s : State} {m : MethodId} {args : Array Value} {below : List Frame} {meth : Method} {c : Code} {W : State} {locs : List Loc} {cells slots : Nat} (X : Stand p l e R s m args below meth c W locs cells slots) (hexec : p.tables.exec = Jvm.exec) (htr : e.platform.stackTraces = false) {own cls : String} {names : List String} {ic : Nat}
    (hown : s.vm.findClass own = some m.cls) (hcls : Bundle.fit cls = true) (hnames : ∀ n ∈ names, Bundle.fit n = true)
    (h : ∀ a ∈ Bundle.ownAtoms own ic cls names, a.before args s = true)
    {a : Addr} (hlow : ∀ (aS : Nat) (c0 : Cell), s.heap[aS]? = some c0 → c0.vm.isStatics = true → (∀ i, (⟨aS, i⟩ : Loc) ∉ locs) ∧ aS ≠ a)
    {cX : ClassId} {kX : Class} (hfoundX : s.vm.findClass cls = some cX) (hkX : s.vm.classes[cX]? = some kX) (hcell : W.heap[a]? = some (freshCell cX kX))
    {msg : Value} (hmsg : msg.isRef = true)
    {g : JFrame} (hg : g.method = m) (hsize : g.locals.size = c.maxLocals) {rest : List Value} (hstack : g.stack = msg :: .ref a :: rest)
    (hd6 : decode c.code g.pc = .ok (.invokespecial ic, 3))
    (hRframes : names.length + 3 < R.frames) (hRlocals : 2 * g.monitorRoom + (rest.map fun v => v.category).sum + (13 * (names.length + 1) + 42) ≤ R.locals) :
    ∃ (vm' : Vm) (ce : Cell) (L : List Loc), Stand p l e R s m args below meth c ((W.setVm vm').setCell a ce) (locs ++ L) cells slots ∧ (∀ q ∈ L, q.base = a) ∧ ce.cls = cX ∧ ce.vm = .none ∧
      ∀ target, Steps p.tables e below (((W.setVm vm').setCell a ce).setTop { g with pc := g.pc + 3, stack := rest }) target → Steps p.tables e below (W.setTop g) target := by
  have howns : e.platform.frameOwnsMonitors = true := by rw [X.admits.platform]
  have hfin : e.platform.finalization = false := by rw [X.admits.platform]
  have hpl : e.platform.magicAccessors = ({} : Platform).magicAccessors := by rw [X.admits.platform]
  have a' : ∀ x, x ∈ Bundle.ownAtoms own ic cls names → x.holds args s none s [] = true := fun x hx => h x hx
  obtain ⟨T, Z0, L, -, Y⟩ := ThrowableC.of_atoms (args := args) howns hfin hpl (fun x hx => h x (by simp [Bundle.ownAtoms, hx]))
  obtain ⟨Z, M, LZ, LM, hnZ⟩ := Init0T.ofS_atoms (args := args) hpl L Y (fun x hx => h x (by simp [Bundle.ownAtoms, hx]))
  obtain ⟨P1, Ps, hlen, L1, hL, hP1m, hlink1, hlink⟩ := Bundle.chainS (args := args) hpl hnZ names cls hcls hnames (fun x hx => h x (by simp [Bundle.ownAtoms, hx]))
  have hfound : s.vm.findClass cls = some P1.m.cls := findClass_of_methodNamed hP1m
  cases Option.some.inj (hfoundX.symm.trans hfound)
  obtain ⟨c1, kX', hc1, hk, hord, -, -, hn6⟩ := Cond.instantiable_spec (a' (.instantiable cls 6) (by simp [Bundle.ownAtoms]))
  cases Option.some.inj (hc1.symm.trans hfound)
  cases Option.some.inj (hkX.symm.trans hk)
  have hsel0 : selectMethod e.platform s.vm P1.m.cls T.fill0 = .method T.fill0 := by
    obtain ⟨c2, r2, m2, q1, q2, q3, q4, -⟩ := Cond.selects_spec (a' (.selects cls Bundle.tFill0 Bundle.tFill0) (by simp [Bundle.ownAtoms]))
    cases Option.some.inj (q1.symm.trans hfound)
    cases Option.some.inj (q2.symm.trans (State.methodFound?_of_named Y.fill0 (by decide)))
    cases Option.some.inj (q3.symm.trans Y.fill0)
    rw [Launch.admits_selectMethod X.admits]; exact q4
  have hselF : selectMethod e.platform s.vm P1.m.cls T.fill = .method T.fill := by
    obtain ⟨c2, r2, m2, q1, q2, q3, q4, -⟩ := Cond.selects_spec (a' (.selects cls Bundle.tFill Bundle.tFill) (by simp [Bundle.ownAtoms]))
    cases Option.some.inj (q1.symm.trans hfound)
    cases Option.some.inj (q2.symm.trans (State.methodFound?_of_named Y.fill (by decide)))
    cases Option.some.inj (q3.symm.trans Y.fill)
    rw [Launch.admits_selectMethod X.admits]; exact q4
  obtain ⟨cellS0, hcS0, hiss⟩ := Y.statics
  obtain ⟨u0, hu0⟩ := Cond.staticRefV Y.unassigned L.unassignedStatic L.statics hcS0 hiss (a' (.isRef (.static Bundle.tN "UNASSIGNED_STACK" Bundle.steD)) (by simp [Bundle.ownAtoms]))
  obtain ⟨sen, hsen⟩ := Cond.staticRefV Y.sentinel L.sentinelStatic L.statics hcS0 hiss (a' (.isRef (.static Bundle.tN "SUPPRESSED_SENTINEL" Bundle.listD)) (by simp [Bundle.ownAtoms]))
  obtain ⟨ci198, i198, fB, hk198, hg198, ha198, hsB, -, hnB, htB, hffB⟩ := Cond.ownField (t := .object "java/lang/Object") Y.found L.cls (by decide +kernel) (a' (.fieldLink Bundle.tN 198 Bundle.tN "backtrace" "Ljava/lang/Object;") (by simp [Bundle.ownAtoms])) (a' (.lays Bundle.tN Bundle.tN "backtrace" "Ljava/lang/Object;") (by simp [Bundle.ownAtoms])) e.platform hpl
  obtain ⟨cellS, hcS', heS, -, hkeep⟩ := X.same.2.2.2.2.2 T.aS cellS0 hcS0
  have hcellS : W.heap[T.aS]? = some cellS := hcS'
  obtain ⟨hout', hneS⟩ := hlow _ _ hcS0 hiss
  have hknownS : cellS.vm ≠ .unknown := by
    rw [heS]; intro hu
    rw [show cellS0.vm = .unknown from hu] at hiss
    cases hiss
  obtain ⟨iM, hffM⟩ := Y.msg
  obtain ⟨tyC, dC, hdC, hdnC⟩ := Cond.laysAt hfound hk Y.cause (a' (.lays cls Bundle.tN "cause" "Ljava/lang/Throwable;") (by simp [Bundle.ownAtoms]))
  obtain ⟨tyS, dS, hdS, hdnS⟩ := Cond.laysAt hfound hk Y.stack (a' (.lays cls Bundle.tN "stackTrace" Bundle.steD) (by simp [Bundle.ownAtoms]))
  obtain ⟨tyP, dP, hdP, hdnP⟩ := Cond.laysAt hfound hk Y.supp (a' (.lays cls Bundle.tN "suppressedExceptions" Bundle.listD) (by simp [Bundle.ownAtoms]))
  obtain ⟨tyM, dM, hdM, hdnM⟩ := Cond.laysAt hfound hk hffM (a' (.lays cls Bundle.tN "detailMessage" "Ljava/lang/String;") (by simp [Bundle.ownAtoms]))
  obtain ⟨tyB, dB, hdB, hdnB⟩ := Cond.laysAt hfound hk hffB (a' (.lays cls Bundle.tN "backtrace" "Ljava/lang/Object;") (by simp [Bundle.ownAtoms]))
  have bC := Cond.laysApart hdB hdC hdnB hdnC (by rw [hnB, Y.causeName]; decide)
  have bS := Cond.laysApart hdB hdS hdnB hdnS (by rw [hnB, Y.stackName]; decide)
  have bP := Cond.laysApart hdB hdP hdnB hdnP (by rw [hnB, Y.suppName]; decide)
  have hskip : SkipFacts T e.platform s (fun u => u) u0 ((preparedCellV T.toThrowableT (freshCell P1.m.cls kX) a u0 sen).withEntry W.cur) :=
    ⟨{ ci198 := ci198, i198 := i198, fBack := fB }, ⟨hk198, hg198, ha198, hsB⟩, by
      have := fresh_default (c := P1.m.cls) tyB
      rw [htB] at this
      simpa [preparedCellV, Cell.setSlot, Cell.withEntry, Array.getElem?_setIfInBounds, bC, bS, bP, bC.symm, bS.symm, bP.symm, defaultValue] using this, fun _ _ => rfl⟩
  obtain ⟨tm, methC, cdC, kC, vm₁, hnC, -, -, -, -, -, -, -, hW₁, st1⟩ := Steps.initColdS (tb := p.tables) (e := e) (below := below) (s := s) (U := W) X.here hexec X.warmed hpl hown (t := Bundle.initS cls) rfl rfl (Bundle.fit_spec hcls).2
    (a' (.methodLink own ic (Bundle.initS cls)) (by simp [Bundle.ownAtoms])) (h (.instanceMethod (Bundle.initS cls)) (by cases names <;> simp [Bundle.ownAtoms, Bundle.chainSAtoms, Bundle.passSAtoms])) (bytes := Bundle.six) (maxL := 2) (h (.code (Bundle.initS cls) Bundle.six 2 none) (by cases names <;> simp [Bundle.ownAtoms, Bundle.chainSAtoms, Bundle.passSAtoms]))
    (f := g) hg (a := a) (msg := msg) (rest := rest) hstack hd6
  cases Option.some.inj (hnC.symm.trans hP1m)
  have X₁ := X.noted hW₁
  obtain ⟨vm₂, X₂, st2⟩ := X₁.ctorMessageOffV hexec (g := { g with stack := rest }) hg hsize T L Z LZ M LM (P1 :: Ps)
    (fun P hP => by rcases List.mem_cons.mp hP with rfl | hP; exact L1; exact hL P hP) ⟨hlink1, hlink⟩ (u0 := u0) (sen := sen) (self := a) hmsg (cell := freshCell P1.m.cls kX) (cellS := cellS)
    hcell (fun _ => by simp) (by simp) rfl rfl hsel0 hselF hcellS hneS hknownS (by rw [hkeep _ (hout' _)]; exact hu0) (by rw [hkeep _ (hout' _)]; exact hsen)
    (Takes.of_laid hk hord tyC (by rw [Y.causeType]; rfl)) (Takes.of_laid hk hord tyS (by rw [Y.stackType]; exact fits_refV_array _ u0)) (Takes.of_laid hk hord tyP (by rw [Y.suppType]; exact fits_refV_object _ sen))
    (Takes.of_laid hk hord tyM (by rw [Y.msgType]; exact fits_refV_object _ ⟨msg, hmsg⟩)) Y.objLocals hskip htr [] hd6
    (by simp only [List.length_cons, hlen]; omega) (by simp only [List.length_cons, hlen]; exact hRlocals)
  refine ⟨vm₂, _, _, X₂, fun q hq => ?_, rfl, rfl, fun target ht => st1 _ fun acts => ?_⟩
  · simp only [List.mem_cons, List.not_mem_nil, or_false] at hq
    rcases hq with rfl | rfl | rfl | rfl | rfl <;> rfl
  · rw [doInvoke_state]
    exact st2 _ ht
/-- a word that holds as long as the tables are warmed and the heap below base stays -/
def mv_kept (base : Nat) (w : Jvm.Cond) (s : State) : Prop := ∀ (args' : Array Value) (s' : State), s.WarmedH s'.vm → (∀ q : Nat, q < base → s'.heap[q]? = s.heap[q]?) → w.before args' s' = true
theorem mv_kept.use {base : Nat} {w : Jvm.Cond} {s : State} (h : mv_kept base w s) (args : Array Value) : w.before args s = true := h args s (State.WarmedH.refl s) fun _ _ => rfl
theorem mv_kept.moved {base : Nat} {w : Jvm.Cond} {s s1 : State} (h : mv_kept base w s) (hW : s.WarmedH s1.vm) (hh : ∀ q : Nat, q < base → s1.heap[q]? = s.heap[q]?) : mv_kept base w s1 := fun args' s' hW' hh' => h args' s' (State.WarmedH.trans hW hW') fun q hq => (hh' q hq).trans (hh q hq)
/-- what stands in the tables, or is kept, for the exception's constructor -/
def mv_okM8 (cl : List vw_C) (Ts Us : List Jvm.Cond) (G : mv_G) (own : String) (idx : Nat) : Prop := (∃ T : u_T, cl[mv_gX G]? = some (mv_ISE, T, 0)) ∧ ∀ w ∈ Bundle.ownAtoms own idx mv_ISE mv_up, w ∈ Ts ∨ w ∈ Us
def mv_okM7 (Ts : List Jvm.Cond) (own : String) (idx : Nat) : Prop := Cond.methodLink own idx arraycopyName ∈ Ts ∧ Cond.native arraycopyName ∈ Ts ∧ Cond.static arraycopyName ∈ Ts ∧ Cond.initialized "java/lang/System" ∈ Ts
section MVN
variable {base : Nat} {kt dA : Nat → Nat} {D : va_G} {cl : List vw_C} {nL : Nat} {p : Program} {l : Launch} {e : Env} {R : Room} {s : State} {m : MethodId} {args : Array Value} {below : List Frame} {meth : Method} {c : Code} {Q : State → Prop} {cc : ByteArray} {G : mv_G} {y pc : Nat} {lo : List (Nat × Value)} {st : List Value} {hp : List va_E} {cb sb fb lb : Nat} {S : mv_S} {Nm : Nat → MethodName} {Ts Us : List Jvm.Cond} {L : List FieldType}
theorem mv_inv_putL {H H1 : Heap} {ls : Array Slot} {locs locs' : List Loc} {cells slots pc' : Nat} {st' : List Value} (I : mv_inv base (mv_ad base kt) dA D cl nL R s (pc, lo, st, hp, cb, sb) H ls locs cells slots) {a : Nat} {e0 e1 : va_E} (h : hp[a]? = some e0)
    (he : va_at D cl (mv_ad base kt a, mv_e (mv_ad base kt) dA e1) H1) (z : H1.size = H.size) (oq : ∀ q : Nat, q ≠ mv_ad base kt a → H1[q]? = H[q]?) (hl : ∀ q ∈ locs', q.base = mv_ad base kt a) : mv_inv base (mv_ad base kt) dA D cl nL R s (pc', lo, st', hp.set a e1, cb, sb) H1 ls (locs ++ locs') cells slots := by
  have I1 := mv_inv_put (k := 0) (pc' := pc') (st' := st') I h he z oq
  obtain ⟨i1, i2, i3, i4, i5⟩ := I1
  refine ⟨i1, i2, i3, ⟨i4.1, i4.2.1, fun q hq => ?_⟩, i5⟩
  rcases List.mem_append.mp hq with h1 | h1
  · exact i4.2.2 q (List.mem_append.mpr (Or.inl h1))
  · show base ≤ q.base
    rw [hl q h1]
    exact i4.2.2 ⟨mv_ad base kt a, 0⟩ (List.mem_append.mpr (Or.inr (List.mem_singleton.mpr rfl)))
theorem mr_copy (hx : p.tables.exec = Jvm.exec) (hb : c.code = cc) (hml : c.maxLocals = nL) (hts : ∀ w ∈ Ts, w.before args s = true) {own : String} (hown : s.vm.findClass own = some m.cls) (hK : va_K D cl (mv_tys dA L) s) (hL : mv_okL L Ts G) {idx : Nat} (hok : mv_okM7 Ts own idx) (hdg : decode cc pc = .ok (.invokestatic idx, 3)) (hfb : fb ≤ R.frames) (hlb : lb ≤ R.locals)
    (h : mv_copy pc lo st hp cb sb fb lb = some S) (k : mv_K base (mv_ad base kt) dA D cl nL p l e R s m args below meth c Q S) : mv_K base (mv_ad base kt) dA D cl nL p l e R s m args below meth c Q (pc, lo, st, hp, cb, sb) := by
  intro H ls locs cells slots I
  unfold mv_copy at h
  split at h
  · rename_i n dp a1 sp a0 r
    split at h
    · rename_i t0 n0 f t1 n1 g h0 h1
      split at h
      · rename_i hc
        obtain ⟨⟨rfl, ht⟩, ⟨s1, s2, s3⟩, s4, s5, s6, s7, s8⟩ := hc
        cases h
        obtain ⟨at0, ad0, -⟩ := mv_inv_at I h0
        obtain ⟨at1, ad1, hl1⟩ := mv_inv_at I h1
        have hc0 : H[mv_ad base kt a0]? = some (vp_cell (dA t0) (n0, .inl f)) := at0
        have hc1 : H[mv_ad base kt a1]? = some (vp_cell (dA t0) (n1, .inl g)) := at1
        obtain ⟨ty, hty, hprim, hfit⟩ : ∃ ty : FieldType, L[t0]? = some ty ∧ refKind ty = false ∧ ∀ i, i < n.toNatClampNeg → fits ty (.int (f (sp.toNatClampNeg + i))) = true := by
          have hall : t0 ≠ 0 → ∀ i, i < n.toNatClampNeg → mv_fitT t0 (f (sp.toNatClampNeg + i)) = true := fun hne i hi => by
            rcases s6 with s6 | s6
            · exact absurd s6 hne
            · exact List.all_eq_true.mp s6 i (List.mem_range.mpr hi)
          have h012 : ∀ t : Nat, t < 3 → t = 0 ∨ t = 1 ∨ t = 2 := fun t h => by omega
          rcases h012 t0 ht with rfl | rfl | rfl
          · exact ⟨_, hL.1, rfl, fun _ _ => rfl⟩
          · exact ⟨_, hL.2.1, rfl, fun i hi => hall (by decide) i hi⟩
          · exact ⟨_, hL.2.2.1, rfl, fun i hi => hall (by decide) i hi⟩
        obtain ⟨k0, hk0⟩ := mv_tys_mem (dA := dA) hty
        obtain ⟨-, kk, hkk, cm, hkd⟩ := (hK.2 k0 _ hk0).1 n0 (fun j => .int (f j))
        have nn : ∀ z : Int32, ¬ z < 0 → z.toInt = (z.toNatClampNeg : Int) := by
          intro z hz
          have hz0 : (0 : Int) ≤ z.toInt := by
            have := Int32.not_lt.mp hz
            simpa using Int32.le_iff_toInt_le.mp this
          show z.toInt = ((z.toInt.toNat : Nat) : Int)
          omega
        obtain ⟨i1, -⟩ := id I
        have hsz : ls.size = c.maxLocals := i1.1.trans hml.symm
        intro T hT X
        obtain ⟨vm', X', step⟩ := X.arraycopy hx hown (hts _ hok.1) (hts _ hok.2.1) (hts _ hok.2.2.1) (hts _ hok.2.2.2) (src := mv_ad base kt a0) (dst := mv_ad base kt a1) (cs := vp_cell (dA t0) (n0, .inl f)) (cd := vp_cell (dA t0) (n1, .inl g)) (srcPos := sp) (destPos := dp) (n := n) (by rw [hT]; exact hc0) (by rw [hT]; exact hc1)
          (fun _ h => by cases h) (fun _ h => by cases h) (fun h => by cases h) (fun h => by cases h) hkk hkk hkd hkd (by simp [hprim]) s1 s2 s3
          (by rw [nn sp s1, nn n s3]; show ¬ _ > ((arrV (dA t0) n0 (fun j => .int (f j))).slots.size : Int); rw [arrV_size]; omega)
          (by rw [nn dp s2, nn n s3]; show ¬ _ > ((arrV (dA t0) n1 (fun j => .int (g j))).slots.size : Int); rw [arrV_size]; omega)
          (fun vm₁ _ i hi => by
            have e : (vp_cell (dA t0) (n0, .inl f)).slots.getD (sp.toNatClampNeg + i) .null = .int (f (sp.toNatClampNeg + i)) := by
              show (arrV (dA t0) n0 (fun j => .int (f j))).slots.getD _ _ = _
              rw [Array.getD_eq_getD_getElem?, arrV_read _ _ (by omega)]
              rfl
            refine ⟨?_, ?_⟩
            · rw [e]
              exact hfit i hi
            · rw [e]
              exact trivial)
          (g := F0 m pc ls (.int n :: .int dp :: .ref (mv_ad base kt a1) :: .int sp :: .ref (mv_ad base kt a0) :: r.map (mv_v (mv_ad base kt)))) rfl hsz (rest := r.map (mv_v (mv_ad base kt))) rfl (by rw [hb]; exact hdg) (Nat.le_trans s7 hfb) (by show 2 * 0 + ((r.map (mv_v (mv_ad base kt))).map fun v => v.category).sum + _ ≤ _; rw [List.map_map, show ((fun v : Value => v.category) ∘ mv_v (mv_ad base kt)) = (fun v : Value => v.category) from funext fun v => mv_v_cat _ v]; omega)
        have e1 : copied (vp_cell (dA t0) (n0, .inl f)) (vp_cell (dA t0) (n1, .inl g)) sp dp n = vp_cell (dA t0) (n1, .inl (va_cpy f g sp.toNatClampNeg dp.toNatClampNeg n.toNatClampNeg)) := va_copied (fun z => .int z) _ _ f g s4
        rw [e1] at X' step
        have hl : mv_ad base kt a1 < H.size := (Array.getElem?_eq_some_iff.mp hc1).1
        have hheap : ((T.setVm vm').setCell (mv_ad base kt a1) (vp_cell (dA t0) (n1, .inl (va_cpy f g sp.toNatClampNeg dp.toNatClampNeg n.toNatClampNeg)))).heap = H.setIfInBounds (mv_ad base kt a1) (vp_cell (dA t0) (n1, .inl (va_cpy f g sp.toNatClampNeg dp.toNatClampNeg n.toNatClampNeg))) := by rw [← hT]; rfl
        have I' := mv_inv_putL (pc' := pc + 3) (st' := r) (e1 := .inl (t0, n1, .inl (va_cpy f g sp.toNatClampNeg dp.toNatClampNeg n.toNatClampNeg))) (H1 := H.setIfInBounds (mv_ad base kt a1) (vp_cell (dA t0) (n1, .inl (va_cpy f g sp.toNatClampNeg dp.toNatClampNeg n.toNatClampNeg)))) (locs' := ((vp_cell (dA t0) (n0, .inl f)).stretch sp.toNatClampNeg n.toNatClampNeg).zipIdx.map fun q => ⟨mv_ad base kt a1, dp.toNatClampNeg + q.2⟩) I h1
          (by show (H.setIfInBounds _ _)[mv_ad base kt a1]? = some (vp_cell (dA t0) (n1, .inl _)); simp [Array.getElem?_setIfInBounds, hl]) (by simp) (fun q hq => by simp [Array.getElem?_setIfInBounds, Ne.symm hq]) (fun q hq => by
            obtain ⟨z, -, hz⟩ := List.mem_map.mp hq
            rw [← hz])
        obtain ⟨t, a, b⟩ := k _ ls _ cells slots I' _ hheap X'
        exact ⟨t, step t a, b⟩
      · cases h
    · cases h
  · cases h
theorem mv_none_at {H : Heap} {ls : Array Slot} {locs : List Loc} {cells slots : Nat} (I : mv_inv base (mv_ad base kt) dA D cl nL R s (pc, lo, st, hp, cb, sb) H ls locs cells slots) {a : Nat} {ce : Cell} (h : H[a]? = some ce) (hs : ce.vm.isStatics = true) : a < base := by
  rcases Nat.lt_or_ge a base with q | q
  · exact q
  · exfalso
    have hlt : a < H.size := (Array.getElem?_eq_some_iff.mp h).1
    have h3 : H.size = base + hp.length := I.2.2.1
    have h7 : hp.length + cb ≤ mv_big := I.2.2.2.2.2.2
    obtain ⟨e0, he⟩ : ∃ e0, hp[a - base]? = some e0 := ⟨_, List.getElem?_eq_getElem (by omega)⟩
    obtain ⟨at0, ad0, -⟩ := mv_inv_at I he
    rw [show mv_ad base kt (a - base) = a by rw [ad0]; omega] at at0
    rcases e0 with e0 | e0
    · obtain ⟨ci, q9, h9⟩ : ∃ (ci : ClassId) (q9 : vp_A), H[a]? = some (vp_cell ci q9) := by
        obtain ⟨t, n, f | f | f | f | f⟩ := e0 <;> exact ⟨_, _, at0⟩
      rw [h] at h9
      rw [Option.some.inj h9] at hs
      unfold vp_cell at hs
      split at hs <;> cases hs
    · obtain ⟨r, -, cell, q1, -, q3, -⟩ := at0
      rw [h] at q1
      cases q1
      rw [q3] at hs
      cases hs
theorem mr_made (hx : p.tables.exec = Jvm.exec) (htr : e.platform.stackTraces = false) (hb : c.code = cc) (hml : c.maxLocals = nL) (hts : ∀ w ∈ Ts, w.before args s = true) (hus : ∀ w ∈ Us, mv_kept base w s) {own : String} (hown : s.vm.findClass own = some m.cls) {tys : List (ClassId × FieldType)} (hK : va_K D cl tys s) (hI : ∀ q i n, mv_gI G y q = some (i, n) → decode cc q = .ok (i, n)) {idx : Nat}
    (hokN : ∀ (C : String) (T : u_T) (N : Nat), cl[mv_gX G]? = some (C, T, N) → Cond.classLink own idx C ∈ Ts ∧ Cond.instantiable C (mv_gZ G (mv_gX G)) ∈ Ts ∧ Cond.initialized C ∈ Ts) (hok8 : ∀ i3 z n, mv_gC G y i3 = some (8, z, n) → mv_okM8 cl Ts Us G own i3)
    (hstr : ∀ i2 a, mv_gK G y i2 = some (.ref a) → ∃ tx : String, vk_R own i2 tx (kt (a - mv_big)) s) (hdg : decode cc pc = .ok (.new idx, 3)) (hfb : fb ≤ R.frames) (hlb : lb ≤ R.locals)
    (h : mv_made G y pc lo st hp cb sb fb lb = some S) (k : mv_K base (mv_ad base kt) dA D cl nL p l e R s m args below meth c Q S) : mv_K base (mv_ad base kt) dA D cl nL p l e R s m args below meth c Q (pc, lo, st, hp, cb, sb) := by
  intro H ls locs cells slots I
  unfold mv_made at h
  split at h
  · rename_i i2 i3 e3 e4 e7
    split at h
    · rename_i a kd z0 n0 hk hc
      split at h
      · rename_i hq
        obtain ⟨rfl, c1, c2, c3, c4⟩ := hq
        cases h
        obtain ⟨⟨T0, hcl⟩, hw⟩ := hok8 _ _ _ hc
        obtain ⟨n1, n2, n3⟩ := hokN _ _ _ hcl
        have hat : ∀ w ∈ Bundle.ownAtoms own i3 mv_ISE mv_up, w.before args s = true := fun w hw' => by
          rcases hw w hw' with q | q
          · exact hts _ q
          · exact (hus _ q).use args
        have hKn := hK.1 _ _ hcl
        have hinst := hat (.instantiable mv_ISE 6) (by simp [Bundle.ownAtoms])
        obtain ⟨tx, hZ⟩ := hstr _ _ hk
        have I5 : cells + cb ≤ R.cells := I.2.2.2.2.1
        have I6 : slots + sb ≤ R.slots := I.2.2.2.2.2.1
        have hls : ls.size = c.maxLocals := I.1.1.trans hml.symm
        refine W.newcK hx hb hown (hts _ n1) hinst (hts _ n3) rfl hdg (by omega) (by omega) hKn.2.1 rfl fun H1 kC hkC e1 z1 o1 => ?_
        obtain ⟨I1, hz⟩ := mv_inv_new (pc' := pc + 3) (st' := .ref hp.length :: st) (H1 := H1) (e1 := .inr (mv_gX G, [])) (n := 6) I c1 c2 ⟨_, hcl, _, e1, rfl, rfl, fun k hk => absurd hk (Nat.not_lt_zero k)⟩ z1 o1
        refine lv_dup hx hb (hI _ _ _ e3) rfl ?_
        refine mv_ldcwS hx hb hown hZ (hI _ _ _ e4) ?_
        intro T hT X
        have hlow : ∀ (aS : Nat) (c0 : Cell), s.heap[aS]? = some c0 → c0.vm.isStatics = true → (∀ i, (⟨aS, i⟩ : Loc) ∉ locs) ∧ aS ≠ H.size := by
          intro aS c0 h1 h2
          obtain ⟨cS, hS, heS, -, -⟩ := X.same.2.2.2.2.2 aS c0 h1
          have h3 : H1[aS]? = some cS := by rw [← hT]; exact hS
          have h4 := mv_none_at I1 h3 (by rw [heS]; exact h2)
          have hb2 : base ≤ H.size := by have h5 : H.size = base + hp.length := I.2.2.1; omega
          refine ⟨fun i hi => ?_, by omega⟩
          have h5 : base ≤ aS := I.2.2.2.1.2.2 _ hi
          omega
        obtain ⟨vm', ce, L1, X', hL1, q1, q2, step⟩ := mv_ctor X hx htr hown (cls := mv_ISE) (names := mv_up) (by decide +kernel) (by decide +kernel) hat hlow hKn.2.1 hkC (by rw [hT]; exact e1) (msg := .ref (kt (a - mv_big))) rfl (g := F0 m (pc + 7) ls (.ref (kt (a - mv_big)) :: .ref H.size :: .ref H.size :: st.map (mv_v (mv_ad base kt)))) rfl hls (rest := .ref H.size :: st.map (mv_v (mv_ad base kt))) rfl (by rw [hb]; exact hI _ _ _ e7)
          (by show 2 + 3 < R.frames; omega) (by
            show 2 * 0 + ((Value.ref H.size :: st.map (mv_v (mv_ad base kt))).map fun v => v.category).sum + (13 * (2 + 1) + 42) ≤ R.locals
            rw [List.map_cons, List.sum_cons, List.map_map, show ((fun v : Value => v.category) ∘ mv_v (mv_ad base kt)) = (fun v : Value => v.category) from funext fun v => mv_v_cat _ v]
            show 2 * 0 + (1 + _) + _ ≤ _
            omega)
        have hl : H.size < H1.size := by omega
        have hheap : ((T.setVm vm').setCell H.size ce).heap = H1.setIfInBounds H.size ce := by rw [← hT]; rfl
        have hat1 : (hp ++ [Sum.inr (mv_gX G, [])])[hp.length]? = some (Sum.inr (mv_gX G, []) : va_E) := by simp
        have I2 := mv_inv_putL (pc' := pc + 10) (st' := .ref hp.length :: st) (e1 := .inr (mv_gX G, [])) (H1 := H1.setIfInBounds H.size ce) (locs' := L1) I1 hat1
          (by
            rw [hz]
            exact ⟨_, hcl, ce, by show (H1.setIfInBounds H.size ce)[H.size]? = some ce; simp [Array.getElem?_setIfInBounds, hl], q1, q2, fun k hk => absurd hk (Nat.not_lt_zero k)⟩) (by simp) (fun q hq => by
              rw [hz] at hq
              simp [Array.getElem?_setIfInBounds, Ne.symm hq]) (fun q hq => by rw [hz]; exact hL1 q hq)
        have hset : (hp ++ [(Sum.inr (mv_gX G, []) : va_E)]).set hp.length (Sum.inr (mv_gX G, []) : va_E) = hp ++ [(Sum.inr (mv_gX G, []) : va_E)] := by simp
        rw [hset] at I2
        obtain ⟨t, b1, b2⟩ := mv_new_eq (H := H) hz k I2 _ hheap X'
        exact ⟨t, step t b1, b2⟩
      · cases h
    · cases h
  · cases h
/-- the arrays that were there before, as a state has them -/
def mv_okX (G : mv_G) (base : Nat) (kt : Nat → Nat) (s : State) : Prop := base ≤ s.heap.size ∧ (∀ a n f, mv_gS G a = some (n, f) → mv_big ≤ a ∧ kt (a - mv_big) < base ∧ va_X (kt (a - mv_big)) n f s s.heap) ∧ ∀ a tx, mv_gX2 G a = some tx → mv_big ≤ a ∧ tx.length < 2 ^ 31 ∧ ∃ v : Nat, st_SA (fun q => base ≤ q) (kt (a - mv_big)) v tx.length (fun j => tx.getD j 0) s s.heap
theorem mv_ad_big {a : Nat} (h : mv_big ≤ a) : mv_ad base kt a = kt (a - mv_big) := by
  rw [mv_ad, if_neg (by omega)]
theorem mr_xald (hx : p.tables.exec = Jvm.exec) (hb : c.code = cc) (hX : mv_okX G base kt s) (hdg : decode cc pc = .ok (.iaload, 1)) (h : mv_xald G pc lo st hp cb sb = some S) (k : mv_K base (mv_ad base kt) dA D cl nL p l e R s m args below meth c Q S) : mv_K base (mv_ad base kt) dA D cl nL p l e R s m args below meth c Q (pc, lo, st, hp, cb, sb) := by
  intro H ls locs cells slots I
  unfold mv_xald at h
  split at h
  · rename_i i a r
    split at h
    · rename_i n f hs
      split at h
      · rename_i ho
        cases h
        obtain ⟨h0, h1, -⟩ := hX
        obtain ⟨h2, h3, h4⟩ := h1 _ _ _ hs
        have e1 : (Value.int i :: Value.ref a :: r).map (mv_v (mv_ad base kt)) = .int i :: .ref (kt (a - mv_big)) :: r.map (mv_v (mv_ad base kt)) := by
          show Value.int i :: Value.ref (mv_ad base kt a) :: _ = _
          rw [mv_ad_big h2]
        show W p l e R s m args below meth c H locs cells slots Q (F0 m pc ls ((Value.int i :: Value.ref a :: r).map (mv_v (mv_ad base kt))))
        rw [e1]
        refine va_sld hx hb h4 (by omega) (show ¬ base ≤ _ by omega) I.2.2.2.1 ?_ hdg (k H ls locs cells slots I)
        intro q
        have : mv_out i n = true := decide_eq_true q
        rw [ho] at this
        cases this
      · cases h
    · cases h
  · cases h
theorem mr_xlen (hx : p.tables.exec = Jvm.exec) (hb : c.code = cc) (hX : mv_okX G base kt s) (hdg : decode cc pc = .ok (.arraylength, 1)) (h : mv_xlen G pc lo st hp cb sb = some S) (k : mv_K base (mv_ad base kt) dA D cl nL p l e R s m args below meth c Q S) : mv_K base (mv_ad base kt) dA D cl nL p l e R s m args below meth c Q (pc, lo, st, hp, cb, sb) := by
  intro H ls locs cells slots I
  unfold mv_xlen at h
  split at h
  · rename_i a r
    split at h
    · rename_i n f hs
      cases h
      obtain ⟨h0, h1, -⟩ := hX
      obtain ⟨h2, h3, h4⟩ := h1 _ _ _ hs
      have e1 : (Value.ref a :: r).map (mv_v (mv_ad base kt)) = .ref (kt (a - mv_big)) :: r.map (mv_v (mv_ad base kt)) := by
        show Value.ref (mv_ad base kt a) :: _ = _
        rw [mv_ad_big h2]
      show W p l e R s m args below meth c H locs cells slots Q (F0 m pc ls ((Value.ref a :: r).map (mv_v (mv_ad base kt))))
      rw [e1]
      exact va_slen hx hb h4 (by omega) (show ¬ base ≤ _ by omega) I.2.2.2.1 hdg (k H ls locs cells slots I)
    · cases h
  · cases h
def mv_okM9 (Ts : List Jvm.Cond) (own : String) (idx : Nat) : Prop := Cond.methodLink own idx Lib.objectInit ∈ Ts ∧ Cond.instanceMethod Lib.objectInit ∈ Ts ∧ Cond.code Lib.objectInit ⟨#[0xb1]⟩ 1 none ∈ Ts
theorem mr_oini (hx : p.tables.exec = Jvm.exec) (hb : c.code = cc) (hml : c.maxLocals = nL) (hts : ∀ w ∈ Ts, w.before args s = true) {own : String} (hown : s.vm.findClass own = some m.cls) {idx : Nat} (hok : mv_okM9 Ts own idx) (hdg : decode cc pc = .ok (.invokespecial idx, 3)) (hfb : fb ≤ R.frames) (hlb : lb ≤ R.locals)
    (h : mv_oini pc lo st hp cb sb fb lb = some S) (k : mv_K base (mv_ad base kt) dA D cl nL p l e R s m args below meth c Q S) : mv_K base (mv_ad base kt) dA D cl nL p l e R s m args below meth c Q (pc, lo, st, hp, cb, sb) := by
  intro H ls locs cells slots I
  unfold mv_oini at h
  split at h
  · rename_i a r
    split at h
    · rename_i hq
      cases h
      have hsz : ls.size = c.maxLocals := I.1.1.trans hml.symm
      exact W.objInit hx hb hown (hts _ hok.1) (hts _ hok.2.1) (hts _ hok.2.2) (g := F0 m pc ls ((Value.ref a :: r).map (mv_v (mv_ad base kt)))) rfl hsz (a := mv_ad base kt a) (rest := r.map (mv_v (mv_ad base kt))) rfl hdg (Nat.le_trans hq.1 hfb) (by
        show 2 * 0 + ((r.map (mv_v (mv_ad base kt))).map fun v => v.category).sum + 12 ≤ R.locals
        rw [List.map_map, show ((fun v : Value => v.category) ∘ mv_v (mv_ad base kt)) = (fun v : Value => v.category) from funext fun v => mv_v_cat _ v]
        omega) (k H ls locs cells slots I)
    · cases h
  · cases h
theorem mr_slen (hx : p.tables.exec = Jvm.exec) (hb : c.code = cc) (hml : c.maxLocals = nL) (hts : ∀ w ∈ Ts, w.before args s = true) {own : String} (hown : s.vm.findClass own = some m.cls) (hX : mv_okX G base kt s) {idx : Nat} (hok : GoodIn Ts (wsV own idx st_C st_y6 st_w6)) (hdg : decode cc pc = .ok (.invokevirtual idx, 3)) (hfb : fb ≤ R.frames) (hlb : lb ≤ R.locals)
    (h : mv_slen G pc lo st hp cb sb fb lb = some S) (k : mv_K base (mv_ad base kt) dA D cl nL p l e R s m args below meth c Q S) : mv_K base (mv_ad base kt) dA D cl nL p l e R s m args below meth c Q (pc, lo, st, hp, cb, sb) := by
  intro H ls locs cells slots I
  unfold mv_slen at h
  split at h
  · rename_i a r
    split at h
    · rename_i tx htx
      split at h
      · rename_i hq
        cases h
        obtain ⟨h2, h3, v, h4⟩ := hX.2.2 a tx htx
        obtain ⟨i1, i2, i3, i4, i5, i6, i7⟩ := id I
        dsimp only at i5 i6
        have h5 : st_S (kt (a - mv_big)) v tx.length (fun j => tx.getD j 0) s H := st_S.free (st_S.kept h4 fun q h8 h9 => i4.2.1 q h8 h9)
        have e1 : (Value.ref a :: r).map (mv_v (mv_ad base kt)) = .ref (kt (a - mv_big)) :: r.map (mv_v (mv_ad base kt)) := by
          show Value.ref (mv_ad base kt a) :: _ = _
          rw [mv_ad_big h2]
        show W p l e R s m args below meth c H locs cells slots Q (F0 m pc ls ((Value.ref a :: r).map (mv_v (mv_ad base kt))))
        rw [e1]
        refine st_go (va_runV (As := []) (rest := r.map (mv_v (mv_ad base kt))) ⟨hx, hb, hml, hown, hts⟩ (c_st6 l (kt (a - mv_big)) v tx.length (fun j => tx.getD j 0)) (cwV 0 hts hok rfl rfl rfl (by decide +kernel) ⟨by show 1 + 1 ≤ R.frames; omega, by show 8 + (1 + 11) + 20 ≤ R.locals; omega⟩) ⟨fun a U g mk q => ⟨q.1, st_S.moved (u := U) (U := U.calling g mk a) (Vm.Alike.refl U.vm) q.2⟩, (by obtain ⟨cell, z1, z2, z3, -⟩ := h5.1; exact ⟨cell, z1, z2, z3⟩), fun U hU hW => ⟨rfl, by show st_S _ _ _ _ U U.heap; rw [hU]; exact st_S.moved hW.alike h5⟩⟩ rfl rfl i1.1 rfl ?_ hdg ⟨by omega, by omega⟩) (k H ls locs cells slots I)
        show 2 * 0 + ((r.map (mv_v (mv_ad base kt))).map fun v => v.category).sum ≤ 8
        rw [List.map_map, show ((fun v : Value => v.category) ∘ mv_v (mv_ad base kt)) = (fun v : Value => v.category) from funext fun v => mv_v_cat _ v]
        omega
      · cases h
    · cases h
  · cases h
theorem mr_schr (hx : p.tables.exec = Jvm.exec) (hb : c.code = cc) (hml : c.maxLocals = nL) (hts : ∀ w ∈ Ts, w.before args s = true) {own : String} (hown : s.vm.findClass own = some m.cls) (hX : mv_okX G base kt s) {idx : Nat} (hok : GoodIn Ts (wsV own idx st_C st_y4 st_w4)) (hdg : decode cc pc = .ok (.invokevirtual idx, 3)) (hfb : fb ≤ R.frames) (hlb : lb ≤ R.locals)
    (h : mv_schr G pc lo st hp cb sb fb lb = some S) (k : mv_K base (mv_ad base kt) dA D cl nL p l e R s m args below meth c Q S) : mv_K base (mv_ad base kt) dA D cl nL p l e R s m args below meth c Q (pc, lo, st, hp, cb, sb) := by
  intro H ls locs cells slots I
  unfold mv_schr at h
  split at h
  · rename_i i a r
    split at h
    · rename_i tx htx
      split at h
      · rename_i hq
        cases h
        obtain ⟨h2, h3, v, h4⟩ := hX.2.2 a tx htx
        obtain ⟨i1, i2, i3, i4, i5, i6, i7⟩ := id I
        dsimp only at i5 i6
        have hin : vp_in i tx.length := fun q => of_decide_eq_false hq.1 q
        have h5 : st_S (kt (a - mv_big)) v tx.length (fun j => tx.getD j 0) s H := st_S.free (st_S.kept h4 fun q h8 h9 => i4.2.1 q h8 h9)
        have e1 : (Value.int i :: Value.ref a :: r).map (mv_v (mv_ad base kt)) = .int i :: .ref (kt (a - mv_big)) :: r.map (mv_v (mv_ad base kt)) := by
          show Value.int i :: Value.ref (mv_ad base kt a) :: _ = _
          rw [mv_ad_big h2]
        show W p l e R s m args below meth c H locs cells slots Q (F0 m pc ls ((Value.int i :: Value.ref a :: r).map (mv_v (mv_ad base kt))))
        rw [e1]
        refine st_go (va_runV (As := [.int i]) (rest := r.map (mv_v (mv_ad base kt))) ⟨hx, hb, hml, hown, hts⟩ (c_st4 l (kt (a - mv_big)) v tx.length (fun j => tx.getD j 0) i hin h3) (cwV 1 hts hok rfl rfl rfl (by decide +kernel) ⟨by show 3 + 1 ≤ R.frames; omega, by show 8 + (2 + 11) + 64 ≤ R.locals; omega⟩) ⟨fun a U g mk q => ⟨q.1, st_S.moved (u := U) (U := U.calling g mk a) (Vm.Alike.refl U.vm) q.2⟩, (by obtain ⟨cell, z1, z2, z3, -⟩ := h5.1; exact ⟨cell, z1, z2, z3⟩), fun U hU hW => ⟨rfl, by show st_S _ _ _ _ U U.heap; rw [hU]; exact st_S.moved hW.alike h5⟩⟩ rfl rfl i1.1 rfl ?_ hdg ⟨by omega, by omega⟩) (k H ls locs cells slots I)
        show 2 * 0 + ((r.map (mv_v (mv_ad base kt))).map fun v => v.category).sum ≤ 8
        rw [List.map_map, show ((fun v : Value => v.category) ∘ mv_v (mv_ad base kt)) = (fun v : Value => v.category) from funext fun v => mv_v_cat _ v]
        omega
      · cases h
    · cases h
  · cases h
theorem mr_aasA (hx : p.tables.exec = Jvm.exec) (hb : c.code = cc) (hts : ∀ w ∈ Ts, w.before args s = true) (hK : va_K D cl (mv_tys dA L) s) (hB : ∀ t t2, mv_gB G t = some t2 → ∃ ty : FieldType, (ty = .byte ∨ ty = .array .byte) ∧ L[t]? = some (.array ty) ∧ L[t2]? = some ty ∧ Cond.arrayOver (.array ty) ∈ Ts) (hdg : decode cc pc = .ok (.aastore, 1))
    (h : mv_aasA G pc lo st hp cb sb = some S) (k : mv_K base (mv_ad base kt) dA D cl nL p l e R s m args below meth c Q S) : mv_K base (mv_ad base kt) dA D cl nL p l e R s m args below meth c Q (pc, lo, st, hp, cb, sb) := by
  intro H ls locs cells slots I
  unfold mv_aasA at h
  split at h
  · rename_i b i a r
    split at h
    · rename_i t n g t2 z2 he hb0
      split at h
      · rename_i hq
        cases h
        obtain ⟨ty, hty, hLt, hLt2, hov⟩ := hB _ _ hq.1
        have hin : vp_in i n := fun q => of_decide_eq_false hq.2 q
        have hlt : i.toNatClampNeg < n := Nat.not_le.mp fun q => hin (Or.inr q)
        have h0 : ¬ i < 0 := fun q => hin (Or.inl q)
        obtain ⟨t0, ht0⟩ := mv_tys_mem (dA := dA) hLt
        obtain ⟨t1, ht1⟩ := mv_tys_mem (dA := dA) hLt2
        obtain ⟨hat, -, -⟩ := mv_inv_at I he
        obtain ⟨hbt, -, -⟩ := mv_inv_at I hb0
        obtain ⟨comp, c9, kA, q1, -, q2, q3, q4⟩ := arrayOverA_spec (hts _ hov)
        have e9 : c9 = dA t := Option.some.inj (q4.symm.trans (hK.2 t0 _ ht0).2)
        subst e9
        have e8 : comp = dA t2 := by
          have z := (hK.2 t1 _ ht1).2
          rcases hty with rfl | rfl <;> exact Option.some.inj (q1.symm.trans z)
        subst e8
        obtain ⟨-, kC, hkC, -⟩ := (hK.2 t1 _ ht1).1 0 (fun _ => .null)
        have hb1 : ∃ cell : Cell, H[mv_ad base kt b]? = some cell ∧ (∀ q, cell.vm ≠ .statics q) ∧ cell.cls = dA t2 := by
          obtain ⟨n2, f2 | f2 | f2 | f2 | f2⟩ := z2 <;> exact ⟨_, hbt, (fun q h => by cases h), rfl⟩
        obtain ⟨cell, b1, b2, b3⟩ := hb1
        refine W.aast hx hb hat (fun q h => by cases h) (fun h => by cases h) q2 q3 rfl hkC ⟨h0, by show _ < (arrV _ _ _).slots.size; rw [arrV_size]; exact hlt⟩ b1 b2 (by rw [b3]; exact hkC) (by rw [b3]; unfold Vm.assignable Vm.assignableAux; simp only [beq_self_eq_true, Bool.true_or]) rfl rfl hdg fun H1 e1 z oq => k H1 ls _ cells slots ?_
        refine mv_inv_put I he ?_ z oq
        show H1[mv_ad base kt a]? = some (vp_cell (dA t) (n, .inr (.inr (.inr (.inr (fun j => (va_up g i.toNatClampNeg (some b) j).map (mv_ad base kt)))))))
        rw [e1, mv_up_map, vp_cell_q]
        show some ((vp_cell (dA t) (n, .inr (.inr (.inr (.inr (fun j => (g j).map (mv_ad base kt))))))).setSlot i.toNatClampNeg _) = _
        rw [vp_cell_q, vp_cell_q, arrV_store]
        congr 2
        funext q
        by_cases hq9 : q = i.toNatClampNeg
        · subst hq9
          simp [updV, va_up, mv_v]
          rfl
        · simp [updV, va_up, hq9]
      · cases h
    · cases h
  · cases h
/-- the calls that have no bytecode: what stands in the tables -/
def mv_okN8 (Nm : Nat → MethodName) (cl : List vw_C) (Ts Us : List Jvm.Cond) (G : mv_G) : Prop := ∀ y idx kd z n, mv_gC G y idx = some (kd, z, n) → (kd = 7 → mv_okM7 Ts (Nm y).cls idx) ∧ (kd = 8 → mv_okM8 cl Ts Us G (Nm y).cls idx) ∧ (kd = 9 → mv_okM9 Ts (Nm y).cls idx) ∧ (kd = 10 → GoodIn Ts (wsV (Nm y).cls idx st_C st_y6 st_w6)) ∧ (kd = 11 → GoodIn Ts (wsV (Nm y).cls idx st_C st_y4 st_w4))
theorem mr_nat {Cd : Nat → ByteArray} (hV : mv_okG Nm Cd cl L Ts G) (hN : mv_okN8 Nm cl Ts Us G) (hL : mv_okL L Ts G) (hx : p.tables.exec = Jvm.exec) (htr : e.platform.stackTraces = false) (hb : c.code = Cd y) (hml : c.maxLocals = nL) (hts : ∀ w ∈ Ts, w.before args s = true) (hus : ∀ w ∈ Us, mv_kept base w s) (hown : s.vm.findClass (Nm y).cls = some m.cls) (hK : va_K D cl (mv_tys dA L) s) (hstr : mv_okT Nm G kt s y) (hX : mv_okX G base kt s) (hfb : fb ≤ R.frames) (hlb : lb ≤ R.locals) {S S' : mv_S}
    (h : mv_nat G y fb lb S = some S') (k : mv_K base (mv_ad base kt) dA D cl nL p l e R s m args below meth c Q S') : mv_K base (mv_ad base kt) dA D cl nL p l e R s m args below meth c Q S := by
  obtain ⟨pc, lo, st, hp, cb, sb⟩ := S
  unfold mv_nat at h
  split at h
  · rename_i idx hI
    split at h
    · rename_i kd z n hc
      split at h
      · rename_i hk
        exact mr_copy hx hb hml hts hown hK hL ((hN _ _ _ _ _ hc).1 hk) (hV.1 _ _ _ _ hI) hfb hlb h k
      · cases h
    · cases h
  · rename_i idx hI
    split at h
    · rename_i ci hc
      split at h
      · rename_i hci
        subst hci
        exact mr_made hx htr hb hml hts hus hown hK (fun q i n hq => hV.1 _ _ _ _ hq) (hV.2.2.1 _ _ _ hc).2 (fun i3 z n hq => (hN _ _ _ _ _ hq).2.1 rfl) (fun i2 a hq => (hstr _ _ hq).2) (hV.1 _ _ _ _ hI) hfb hlb h k
      · cases h
    · cases h
  · rename_i idx hI
    split at h
    · rename_i kd z n hc
      split at h
      · rename_i hk
        exact mr_oini hx hb hml hts hown ((hN _ _ _ _ _ hc).2.2.1 hk) (hV.1 _ _ _ _ hI) hfb hlb h k
      · cases h
    · cases h
  · rename_i idx hI
    split at h
    · rename_i kd z n hc
      split at h
      · rename_i hk
        exact mr_slen hx hb hml hts hown hX ((hN _ _ _ _ _ hc).2.2.2.1 hk) (hV.1 _ _ _ _ hI) hfb hlb h k
      · split at h
        · rename_i hk
          exact mr_schr hx hb hml hts hown hX ((hN _ _ _ _ _ hc).2.2.2.2 hk) (hV.1 _ _ _ _ hI) hfb hlb h k
        · cases h
    · cases h
  · rename_i hI
    exact mr_aasA hx hb hts hK hL.2.2.2.2.2.2.2 (hV.1 _ _ _ _ hI) h k
  · rename_i hI
    exact mr_xald hx hb hX (hV.1 _ _ _ _ hI) h k
  · rename_i hI
    exact mr_xlen hx hb hX (hV.1 _ _ _ _ hI) h k
  · cases h
end MVN
end
section
/-! the small machine: its run, and that the real machine does what it does -/
def mv_g (n k : Nat) (r : Option mv_R) : Option mv_R := if n = k then r else none
theorem mv_g_eq {n k : Nat} {r : Option mv_R} {x : mv_R} (h : mv_g n k r = some x) : n = k ∧ r = some x := by
  unfold mv_g at h
  split at h
  · rename_i e
    exact ⟨e, h⟩
  · cases h
def mv_og : Option mv_R → Option mv_R
  | some (.inl S) => some (.inl S)
  | _ => none
theorem mv_og_eq {r : Option mv_R} {x : mv_R} (h : mv_og r = some x) : ∃ S, x = .inl S ∧ r = some (.inl S) := by
  unfold mv_og at h
  split at h
  · cases h
    exact ⟨_, rfl, rfl⟩
  · cases h
def mv_ins (G : mv_G) (y pc : Nat) (l : List (Nat × Value)) (st : List Value) (hp : List va_E) (cb sb n : Nat) : Instr → Option mv_R
  | .aconst_null => mv_g n 1 (mv_push pc l st hp cb sb 1 .null)
  | .iconst v => mv_g n 1 (mv_push pc l st hp cb sb 1 (.int (Int32.ofInt v)))
  | .bipush v => mv_g n 2 (mv_push pc l st hp cb sb 2 (.int (Int8.ofInt v).toInt32))
  | .sipush v => mv_g n 3 (mv_push pc l st hp cb sb 3 (.int (Int16.ofInt v).toInt32))
  | .iload i => mv_g n 2 (mv_load pc l st hp cb sb i 2 mv_int)
  | .iload_n i => mv_g n 1 (mv_load pc l st hp cb sb i 1 mv_int)
  | .aload i => mv_g n 2 (mv_load pc l st hp cb sb i 2 mv_rfv)
  | .aload_n i => mv_g n 1 (mv_load pc l st hp cb sb i 1 mv_rfv)
  | .istore i => mv_g n 2 (mv_store G y pc l st hp cb sb i 2 mv_int)
  | .istore_n i => mv_g n 1 (mv_store G y pc l st hp cb sb i 1 mv_int)
  | .astore i => mv_g n 2 (mv_store G y pc l st hp cb sb i 2 mv_rfv)
  | .astore_n i => mv_g n 1 (mv_store G y pc l st hp cb sb i 1 mv_rfv)
  | .iadd => mv_g n 1 (mv_bin pc l st hp cb sb mv_f_iadd)
  | .isub => mv_g n 1 (mv_bin pc l st hp cb sb mv_f_isub)
  | .imul => mv_g n 1 (mv_bin pc l st hp cb sb mv_f_imul)
  | .iand => mv_g n 1 (mv_bin pc l st hp cb sb mv_f_iand)
  | .ior => mv_g n 1 (mv_bin pc l st hp cb sb mv_f_ior)
  | .ixor => mv_g n 1 (mv_bin pc l st hp cb sb mv_f_ixor)
  | .ishl => mv_g n 1 (mv_bin pc l st hp cb sb mv_f_ishl)
  | .ishr => mv_g n 1 (mv_bin pc l st hp cb sb mv_f_ishr)
  | .iushr => mv_g n 1 (mv_bin pc l st hp cb sb mv_f_iushr)
  | .idiv => mv_g n 1 (mv_dvd pc l st hp cb sb mv_f_idiv)
  | .irem => mv_g n 1 (mv_dvd pc l st hp cb sb mv_f_irem)
  | .ineg => mv_g n 1 (mv_un pc l st hp cb sb mv_f_ineg)
  | .i2b => mv_g n 1 (mv_un pc l st hp cb sb mv_f_i2b)
  | .i2c => mv_g n 1 (mv_un pc l st hp cb sb mv_f_i2c)
  | .dup => mv_g n 1 (mv_dup pc l st hp cb sb)
  | .pop => mv_g n 1 (mv_pop pc l st hp cb sb)
  | .dup_x1 => mv_g n 1 (mv_dupx pc l st hp cb sb)
  | .dup2 => mv_g n 1 (mv_dup2 pc l st hp cb sb)
  | .goto off => mv_g n 3 (mv_jump pc l hp cb sb off true st)
  | .ifnull off => mv_g n 3 (mv_ifn pc l st hp cb sb true off)
  | .ifnonnull off => mv_g n 3 (mv_ifn pc l st hp cb sb false off)
  | .getfield idx => mv_g n 3 (mv_get G y pc l st hp cb sb idx)
  | .putfield idx => mv_g n 3 (mv_put G y pc l st hp cb sb idx)
  | .new idx => mv_g n 3 (mv_new G y pc l st hp cb sb idx)
  | .newarray at_ => mv_g n 2 (mv_newa pc l st hp cb sb at_)
  | .anewarray idx => mv_g n 3 (mv_anew G y pc l st hp cb sb idx)
  | .iaload => mv_g n 1 (mv_iald pc l st hp cb sb)
  | .baload => mv_g n 1 (mv_bald pc l st hp cb sb)
  | .aaload => mv_g n 1 (mv_aald G pc l st hp cb sb)
  | .iastore => mv_g n 1 (mv_iast pc l st hp cb sb)
  | .bastore => mv_g n 1 (mv_bast pc l st hp cb sb)
  | .arraylength => mv_g n 1 (mv_alen G pc l st hp cb sb)
  | .ldc idx => mv_g n 2 (mv_ldc G y pc l st hp cb sb idx 2)
  | .ldc_w idx => mv_g n 3 (mv_ldc G y pc l st hp cb sb idx 3)
  | .multianewarray idx d => mv_g n 4 (mv_multi G y pc l st hp cb sb idx d)
  | .aastore => mv_g n 1 (mv_aast G pc l st hp cb sb)
  | .iinc i v => if n = 3 then mv_inc G y pc l st hp cb sb i v 3 else mv_g n 6 (mv_inc G y pc l st hp cb sb i v 6)
  | .ifCond c off => mv_g n 3 (mv_if pc l st hp cb sb c off)
  | .if_icmp c off => mv_g n 3 (mv_icmp pc l st hp cb sb c off)
  | .if_acmp c off => mv_g n 3 (mv_acmp pc l st hp cb sb c off)
  | .tableswitch d lw hg offs => mv_tsw pc l st hp cb sb d lw hg offs
  | .lookupswitch d ps => mv_lsw pc l st hp cb sb d ps
  | _ => none
/-- one instruction -/
def mv_exec (G : mv_G) (y : Nat) (S : mv_S) : Option mv_R := match mv_gI G y S.1 with
  | none => none
  | some (i, n) => match i with
    | .invokestatic idx => mv_g n 3 (mv_callS G y S.2.2.1 idx)
    | .invokevirtual idx => mv_g n 3 (mv_callV G y S.2.2.1 S.2.2.2.1 idx)
    | .invokespecial idx => mv_g n 3 (mv_callI G y S.2.2.1 idx)
    | .ireturn => mv_g n 1 (mv_iret G y S.2.2.1)
    | .areturn => mv_g n 1 (mv_aret G y S.2.2.1)
    | .return_ => mv_g n 1 (mv_vret G y S.2.2.1)
    | .athrow => mv_g n 1 (mv_throw S.2.2.1)
    | i => mv_og (mv_ins G y S.1 S.2.1 S.2.2.1 S.2.2.2.1 S.2.2.2.2.1 S.2.2.2.2.2 n i)
/-- a has been thrown at S: out of the method, or into its handler -/
def mv_take (G : mv_G) (y : Nat) (k : mv_S → Option mv_E) (a : Nat) (S : mv_S) : Option mv_E := match mv_hand (mv_gH G y) S.1 with
  | none => some (.inl a, S.2.2.2.1, S.2.2.2.2.1, S.2.2.2.2.2)
  | some (h, _) => match S.2.2.2.1[a]? with
    | some (.inr (ci, _)) => if ci = mv_gX G then k (h, S.2.1, [.ref a], S.2.2.2.1, S.2.2.2.2.1, S.2.2.2.2.2) else none
    | _ => none
def mv_run (G : mv_G) : Nat → Nat → Nat → Nat → mv_S → Option mv_E
  | 0, _, _, _, _ => none
  | n + 1, y, fb, lb, S => match mv_nat G y fb lb S with
   | some S' => mv_run G n y fb lb S'
   | none => match mv_exec G y S with
    | none => none
    | some (.inl S') => mv_run G n y fb lb S'
    | some (.inr (.inl (z, as, r, len))) =>
      if 1 ≤ fb ∧ (r.map fun v => v.category).sum + (mv_gL G z + 11) ≤ lb ∧ (lg_sl as).length ≤ mv_gL G z then
        match mv_run G n z (fb - 1) (lb - ((r.map fun v => v.category).sum + (mv_gL G z + 11))) (0, lv_args 0 as, [], S.2.2.2.1, S.2.2.2.2.1, S.2.2.2.2.2) with
        | none => none
        | some (.inr v, hp, cb, sb) => mv_run G n y fb lb (S.1 + len, S.2.1, v.toList ++ r, hp, cb, sb)
        | some (.inl a, hp, cb, sb) => mv_take G y (mv_run G n y fb lb) a (S.1, S.2.1, [], hp, cb, sb)
      else none
    | some (.inr (.inr (.inl v))) => some (.inr v, S.2.2.2.1, S.2.2.2.2.1, S.2.2.2.2.2)
    | some (.inr (.inr (.inr a))) => mv_take G y (mv_run G n y fb lb) a S
section MVX
variable {base : Nat} {kt dA : Nat → Nat} {D : va_G} {cl : List vw_C} {nL : Nat} {p : Program} {l : Launch} {e : Env} {R : Room} {s : State} {m : MethodId} {args : Array Value} {below : List Frame} {meth : Method} {c : Code} {Q : State → Prop} {cc : ByteArray} {G : mv_G} {y pc : Nat} {lo : List (Nat × Value)} {st : List Value} {hp : List va_E} {cb sb : Nat} {S : mv_S} {Nm : Nat → MethodName} {Cd : Nat → ByteArray} {Ts : List Cond} {L : List FieldType}
set_option maxHeartbeats 2000000 in
theorem mr_ins (hx : p.tables.exec = Jvm.exec) (hb : c.code = cc) (hn : mv_gL G y = nL) (hts : ∀ w ∈ Ts, w.before args s = true) (hown : s.vm.findClass (Nm y).cls = some m.cls) (hname : meth.name = (Nm y).name) (hK : va_K D cl (mv_tys dA L) s) (hV : mv_okG Nm Cd cl L Ts G) (hL : mv_okL L Ts G) (hE : mv_okE cl L G) (hstr : mv_okT Nm G kt s y) (hi : ∀ i j, i < mv_big → j < mv_big → mv_ad base kt i = mv_ad base kt j → i = j) {i : Instr} {n : Nat} (hdg : decode cc pc = .ok (i, n)) (h : mv_ins G y pc lo st hp cb sb n i = some (.inl S)) (k : mv_K base (mv_ad base kt) dA D cl nL p l e R s m args below meth c Q S) : mv_K base (mv_ad base kt) dA D cl nL p l e R s m args below meth c Q (pc, lo, st, hp, cb, sb) := by
  cases i
  case aaload =>
    obtain ⟨rfl, h⟩ := mv_g_eq h
    exact mr_aald hx hb hK hL.2.2.2.2.2.2.1 hdg h k
  case aastore =>
    obtain ⟨rfl, h⟩ := mv_g_eq h
    exact mr_aast hx hb hK hE hdg h k
  case aconst_null =>
    obtain ⟨rfl, h⟩ := mv_g_eq h
    exact mr_null hx hb hdg h k
  case aload i =>
    obtain ⟨rfl, h⟩ := mv_g_eq h
    exact mr_aload hx hb hdg h k
  case aload_n i =>
    obtain ⟨rfl, h⟩ := mv_g_eq h
    exact mr_aload_n hx hb hdg h k
  case anewarray idx =>
    obtain ⟨rfl, h⟩ := mv_g_eq h
    exact mr_anew hx hb hts hown hK hdg (hV.2.2.2.1 _ _) h k
  case areturn => cases h
  case arraylength =>
    obtain ⟨rfl, h⟩ := mv_g_eq h
    exact mr_alen hx hb hK hL.2.2.2.2.2.2.1 hdg h k
  case astore i =>
    obtain ⟨rfl, h⟩ := mv_g_eq h
    exact mr_astore hx hb hn hdg h k
  case astore_n i =>
    obtain ⟨rfl, h⟩ := mv_g_eq h
    exact mr_astore_n hx hb hn hdg h k
  case athrow => cases h
  case baload =>
    obtain ⟨rfl, h⟩ := mv_g_eq h
    exact mr_bald hx hb hK hL.2.1 hL.2.2.1 hdg h k
  case bastore =>
    obtain ⟨rfl, h⟩ := mv_g_eq h
    exact mr_bast hx hb hK hL.2.1 hL.2.2.1 hdg h k
  case bipush v =>
    obtain ⟨rfl, h⟩ := mv_g_eq h
    exact mr_bipush hx hb hdg h k
  case caload => cases h
  case castore => cases h
  case checkcast => cases h
  case d2f => cases h
  case d2i => cases h
  case d2l => cases h
  case dadd => cases h
  case daload => cases h
  case dastore => cases h
  case dcmp => cases h
  case dconst => cases h
  case ddiv => cases h
  case dload => cases h
  case dload_n => cases h
  case dmul => cases h
  case dneg => cases h
  case drem => cases h
  case dreturn => cases h
  case dstore => cases h
  case dstore_n => cases h
  case dsub => cases h
  case dup =>
    obtain ⟨rfl, h⟩ := mv_g_eq h
    exact mr_dup hx hb hdg h k
  case dup_x1 =>
    obtain ⟨rfl, h⟩ := mv_g_eq h
    exact mr_dup_x1 hx hb hdg h k
  case dup_x2 => cases h
  case dup2 =>
    obtain ⟨rfl, h⟩ := mv_g_eq h
    exact mr_dup2 hx hb hdg h k
  case dup2_x1 => cases h
  case dup2_x2 => cases h
  case f2d => cases h
  case f2i => cases h
  case f2l => cases h
  case fadd => cases h
  case faload => cases h
  case fastore => cases h
  case fcmp => cases h
  case fconst => cases h
  case fdiv => cases h
  case fload => cases h
  case fload_n => cases h
  case fmul => cases h
  case fneg => cases h
  case frem => cases h
  case freturn => cases h
  case fstore => cases h
  case fstore_n => cases h
  case fsub => cases h
  case getfield idx =>
    obtain ⟨rfl, h⟩ := mv_g_eq h
    exact mr_get hx hb hts hown hK hdg (fun ci k0 hf => (hV.2.1 _ _ _ _ hf).1) h k
  case getstatic => cases h
  case goto off =>
    obtain ⟨rfl, h⟩ := mv_g_eq h
    exact mr_goto hx hb hdg h k
  case goto_w => cases h
  case i2b =>
    obtain ⟨rfl, h⟩ := mv_g_eq h
    exact mr_i2b hx hb hdg h k
  case i2c =>
    obtain ⟨rfl, h⟩ := mv_g_eq h
    exact mr_i2c hx hb hdg h k
  case i2d => cases h
  case i2f => cases h
  case i2l => cases h
  case i2s => cases h
  case iadd =>
    obtain ⟨rfl, h⟩ := mv_g_eq h
    exact mr_iadd hx hb hdg h k
  case iaload =>
    obtain ⟨rfl, h⟩ := mv_g_eq h
    exact mr_iald hx hb hK hL.1 hdg h k
  case iand =>
    obtain ⟨rfl, h⟩ := mv_g_eq h
    exact mr_iand hx hb hdg h k
  case iastore =>
    obtain ⟨rfl, h⟩ := mv_g_eq h
    exact mr_iast hx hb hK hL.1 hdg h k
  case iconst v =>
    obtain ⟨rfl, h⟩ := mv_g_eq h
    exact mr_iconst hx hb hdg h k
  case idiv =>
    obtain ⟨rfl, h⟩ := mv_g_eq h
    exact mr_idiv hx hb hdg h k
  case if_acmp c0 off =>
    obtain ⟨rfl, h⟩ := mv_g_eq h
    cases c0
    case eq => exact mr_acmp_eq hx hb hi hdg h k
    case ne => exact mr_acmp_ne hx hb hi hdg h k
  case if_icmp c0 off =>
    obtain ⟨rfl, h⟩ := mv_g_eq h
    cases c0
    case eq => exact mr_icmp_eq hx hb hdg h k
    case ne => exact mr_icmp_ne hx hb hdg h k
    case lt => exact mr_icmp_lt hx hb hdg h k
    case ge => exact mr_icmp_ge hx hb hdg h k
    case gt => exact mr_icmp_gt hx hb hdg h k
    case le => exact mr_icmp_le hx hb hdg h k
  case ifCond c0 off =>
    obtain ⟨rfl, h⟩ := mv_g_eq h
    cases c0
    case eq => exact mr_if_eq hx hb hdg h k
    case ne => exact mr_if_ne hx hb hdg h k
    case lt => exact mr_if_lt hx hb hdg h k
    case ge => exact mr_if_ge hx hb hdg h k
    case gt => exact mr_if_gt hx hb hdg h k
    case le => exact mr_if_le hx hb hdg h k
  case ifnonnull off =>
    obtain ⟨rfl, h⟩ := mv_g_eq h
    exact mr_ifnonnull hx hb hdg h k
  case ifnull off =>
    obtain ⟨rfl, h⟩ := mv_g_eq h
    exact mr_ifnull hx hb hdg h k
  case iinc i v =>
    simp only [mv_ins] at h
    split at h
    · rename_i e
      subst e
      exact mr_inc hx hb hn hdg h k
    · obtain ⟨rfl, h⟩ := mv_g_eq h
      exact mr_incW hx hb hn hdg h k
  case iload i =>
    obtain ⟨rfl, h⟩ := mv_g_eq h
    exact mr_iload hx hb hdg h k
  case iload_n i =>
    obtain ⟨rfl, h⟩ := mv_g_eq h
    exact mr_iload_n hx hb hdg h k
  case imul =>
    obtain ⟨rfl, h⟩ := mv_g_eq h
    exact mr_imul hx hb hdg h k
  case ineg =>
    obtain ⟨rfl, h⟩ := mv_g_eq h
    exact mr_ineg hx hb hdg h k
  case instanceof => cases h
  case invokedynamic => cases h
  case invokeinterface => cases h
  case invokespecial => cases h
  case invokestatic => cases h
  case invokevirtual => cases h
  case ior =>
    obtain ⟨rfl, h⟩ := mv_g_eq h
    exact mr_ior hx hb hdg h k
  case irem =>
    obtain ⟨rfl, h⟩ := mv_g_eq h
    exact mr_irem hx hb hdg h k
  case ireturn => cases h
  case ishl =>
    obtain ⟨rfl, h⟩ := mv_g_eq h
    exact mr_ishl hx hb hdg h k
  case ishr =>
    obtain ⟨rfl, h⟩ := mv_g_eq h
    exact mr_ishr hx hb hdg h k
  case istore i =>
    obtain ⟨rfl, h⟩ := mv_g_eq h
    exact mr_istore hx hb hn hdg h k
  case istore_n i =>
    obtain ⟨rfl, h⟩ := mv_g_eq h
    exact mr_istore_n hx hb hn hdg h k
  case isub =>
    obtain ⟨rfl, h⟩ := mv_g_eq h
    exact mr_isub hx hb hdg h k
  case iushr =>
    obtain ⟨rfl, h⟩ := mv_g_eq h
    exact mr_iushr hx hb hdg h k
  case ixor =>
    obtain ⟨rfl, h⟩ := mv_g_eq h
    exact mr_ixor hx hb hdg h k
  case jsr => cases h
  case jsr_w => cases h
  case l2d => cases h
  case l2f => cases h
  case l2i => cases h
  case ladd => cases h
  case laload => cases h
  case land => cases h
  case lastore => cases h
  case lcmp => cases h
  case lconst => cases h
  case ldc idx =>
    obtain ⟨rfl, h⟩ := mv_g_eq h
    exact mr_ldc hx hb hts hown hdg (hV.2.2.2.2.1 _ _) (hstr _) h k
  case ldc_w idx =>
    obtain ⟨rfl, h⟩ := mv_g_eq h
    exact mr_ldcw hx hb hts hown hdg (hV.2.2.2.2.1 _ _) (hstr _) h k
  case ldc2_w => cases h
  case ldiv => cases h
  case lload => cases h
  case lload_n => cases h
  case lmul => cases h
  case lneg => cases h
  case lookupswitch d ps => exact mr_lsw hx hb hdg h k
  case lor => cases h
  case lrem => cases h
  case lreturn => cases h
  case lshl => cases h
  case lshr => cases h
  case lstore => cases h
  case lstore_n => cases h
  case lsub => cases h
  case lushr => cases h
  case lxor => cases h
  case monitorenter => cases h
  case monitorexit => cases h
  case multianewarray idx d =>
    obtain ⟨rfl, h⟩ := mv_g_eq h
    exact mr_multi hx hb hts hown hK hdg (hV.2.2.2.2.2.1 _ _) h k
  case new idx =>
    obtain ⟨rfl, h⟩ := mv_g_eq h
    exact mr_new hx hb hts hown hK hdg (fun ci hf => (hV.2.2.1 _ _ _ hf).1) (fun ci C T N hf hc => (hV.2.2.1 _ _ _ hf).2 C T N hc) h k
  case newarray at_ =>
    obtain ⟨rfl, h⟩ := mv_g_eq h
    exact mr_newa hx hb hts hK hL.1 hL.2.1 hL.2.2.1 hL.2.2.2.1 hL.2.2.2.2.1 hL.2.2.2.2.2.1 hdg h k
  case nop => cases h
  case pop =>
    obtain ⟨rfl, h⟩ := mv_g_eq h
    exact mr_pop hx hb hdg h k
  case pop2 => cases h
  case putfield idx =>
    obtain ⟨rfl, h⟩ := mv_g_eq h
    exact mr_put hx hb hts hown hK hdg (fun ci k0 hf => (hV.2.1 _ _ _ _ hf).1) (fun ci k0 hf => (hV.2.1 _ _ _ _ hf).2.1) (fun ci k0 hf h1 h2 => mv_okP_of hname ((hV.2.1 _ _ _ _ hf).2.2 h1 h2)) h k
  case putstatic => cases h
  case ret => cases h
  case return_ => cases h
  case saload => cases h
  case sastore => cases h
  case sipush v =>
    obtain ⟨rfl, h⟩ := mv_g_eq h
    exact mr_sipush hx hb hdg h k
  case swap => cases h
  case tableswitch d lw hg offs => exact mr_tsw hx hb hdg h k
end MVX
/-- where the small machine stands in the method y: what is known of the real one's frame -/
def mv_C (Nm : Nat → MethodName) (Cd : Nat → ByteArray) (cl : List vw_C) (L : List FieldType) (Ts Us : List Cond) (G : mv_G) (base : Nat) (kt dA : Nat → Nat) (D : va_G) (y : Nat) (p : Program) (e : Env) (s : State) (m : MethodId) (args : Array Value) (meth : Method) (c : Code) : Prop :=
  p.tables.exec = Jvm.exec ∧ c.code = Cd y ∧ meth.locks = false ∧ meth.sig.returnType = mv_gR G y ∧ c.maxLocals = mv_gL G y ∧ s.vm.findClass (Nm y).cls = some m.cls ∧ (∀ w ∈ Ts, w.before args s = true) ∧ va_K D cl (mv_tys dA L) s ∧ base ≤ s.heap.size ∧ c.exceptionTable.toList.map mv_proj = mv_gH G y ∧ meth.name = (Nm y).name ∧ (∀ z, mv_okT Nm G kt s z) ∧ e.platform.stackTraces = false ∧ (∀ w ∈ Us, mv_kept base w s) ∧ mv_okX G base kt s
theorem mv_weaken {tb : Tables} {e : Env} {g : JFrame} {below : List Frame} {a b : State} (h : Steps tb e (.java g :: below) a b) : Steps tb e below a b := by
  obtain ⟨n, h1, h2⟩ := h
  exact ⟨n, h1, fun k hk => Within.weaken (mid := [.java g]) (h2 k hk)⟩
theorem mv_sl_len (ad : Nat → Nat) : ∀ vs : List Value, (lg_sl (vs.map (mv_v ad))).length = (lg_sl vs).length
  | [] => rfl
  | v :: r => by
    have ih := mv_sl_len ad r
    unfold lg_sl at ih ⊢
    rw [List.map_cons, List.flatMap_cons, List.flatMap_cons, List.length_append, List.length_append, ih, mv_v_cat]
    split <;> rfl
theorem mv_args_l (ad : Nat → Nat) : ∀ (vs : List Value) (i : Nat), mv_l ad (lv_args i vs) = lv_args i (vs.map (mv_v ad))
  | [], _ => rfl
  | v :: r, i => by
    rw [List.map_cons, lv_args, lv_args, mv_v_cat]
    show (i, mv_v ad v) :: mv_l ad _ = _
    rw [mv_args_l ad r]
theorem mv_cats (ad : Nat → Nat) (r : List Value) : ((r.map (mv_v ad)).map fun v => v.category) = r.map fun v => v.category := by
  rw [List.map_map]
  apply List.map_congr_left
  intro v _
  exact mv_v_cat ad v
section MVY
variable {base : Nat} {kt dA : Nat → Nat} {D : va_G} {cl : List vw_C} {G : mv_G} {Nm : Nat → MethodName} {Cd : Nat → ByteArray} {Ts Us : List Cond} {L : List FieldType}
/-- what kind of thing an instruction comes to -/
theorem mv_no_callS {y idx : Nat} {st : List Value} {x : mv_R} (h : mv_callS G y st idx = some x) : ∃ q, x = .inr (.inl q) := by
  unfold mv_callS at h
  split at h
  · split at h
    · cases h
      exact ⟨_, rfl⟩
    · cases h
  · cases h
theorem mv_no_callV {y idx : Nat} {st : List Value} {hp : List va_E} {x : mv_R} (h : mv_callV G y st hp idx = some x) : ∃ q, x = .inr (.inl q) := by
  unfold mv_callV at h
  split at h
  · split at h
    · split at h
      · split at h
        · cases h
          exact ⟨_, rfl⟩
        · cases h
      · cases h
    · cases h
  · cases h
theorem mv_no_callI {y idx : Nat} {st : List Value} {x : mv_R} (h : mv_callI G y st idx = some x) : ∃ q, x = .inr (.inl q) := by
  unfold mv_callI at h
  split at h
  · split at h
    · split at h
      · cases h
        exact ⟨_, rfl⟩
      · cases h
    · cases h
  · cases h
theorem mv_no_iret {y : Nat} {st : List Value} {x : mv_R} (h : mv_iret G y st = some x) : ∃ q, x = .inr (.inr (.inl q)) := by
  unfold mv_iret at h
  split at h
  · split at h
    · split at h
      · cases h
        exact ⟨_, rfl⟩
      · cases h
    · cases h
  · cases h
theorem mv_no_aret {y : Nat} {st : List Value} {x : mv_R} (h : mv_aret G y st = some x) : ∃ q, x = .inr (.inr (.inl q)) := by
  unfold mv_aret at h
  split at h
  · split at h
    · split at h
      · cases h
        exact ⟨_, rfl⟩
      · cases h
    · cases h
  · cases h
theorem mv_no_vret {y : Nat} {st : List Value} {x : mv_R} (h : mv_vret G y st = some x) : ∃ q, x = .inr (.inr (.inl q)) := by
  unfold mv_vret at h
  split at h
  · split at h
    · cases h
      exact ⟨_, rfl⟩
    · cases h
  · cases h
theorem mv_no_throw {st : List Value} {x : mv_R} (h : mv_throw st = some x) : ∃ q, x = .inr (.inr (.inr q)) := by
  unfold mv_throw at h
  split at h
  · cases h
    exact ⟨_, rfl⟩
  · cases h
theorem mv_exec_go {y : Nat} {S S' : mv_S} (h : mv_exec G y S = some (.inl S')) : ∃ i n, mv_gI G y S.1 = some (i, n) ∧ mv_ins G y S.1 S.2.1 S.2.2.1 S.2.2.2.1 S.2.2.2.2.1 S.2.2.2.2.2 n i = some (.inl S') := by
  obtain ⟨pc, lo, st, hp, cb, sb⟩ := S
  unfold mv_exec at h
  split at h
  · cases h
  · rename_i i n hI
    refine ⟨i, n, hI, ?_⟩
    split at h
    case h_8 =>
      obtain ⟨S2, e2, h3⟩ := mv_og_eq h
      cases e2
      exact h3
    all_goals
      obtain ⟨-, h3⟩ := mv_g_eq h
      first
      | (obtain ⟨q9, h4⟩ := mv_no_callS h3; cases h4; done)
      | (obtain ⟨q9, h4⟩ := mv_no_callV h3; cases h4; done)
      | (obtain ⟨q9, h4⟩ := mv_no_callI h3; cases h4; done)
      | (obtain ⟨q9, h4⟩ := mv_no_iret h3; cases h4; done)
      | (obtain ⟨q9, h4⟩ := mv_no_aret h3; cases h4; done)
      | (obtain ⟨q9, h4⟩ := mv_no_vret h3; cases h4; done)
      | (obtain ⟨q9, h4⟩ := mv_no_throw h3; cases h4; done)
theorem mv_exec_ret {y : Nat} {S : mv_S} {v : Option Value} (h : mv_exec G y S = some (.inr (.inr (.inl v)))) : (mv_gI G y S.1 = some (.ireturn, 1) ∧ mv_iret G y S.2.2.1 = some (.inr (.inr (.inl v)))) ∨ (mv_gI G y S.1 = some (.areturn, 1) ∧ mv_aret G y S.2.2.1 = some (.inr (.inr (.inl v)))) ∨ (mv_gI G y S.1 = some (.return_, 1) ∧ mv_vret G y S.2.2.1 = some (.inr (.inr (.inl v)))) := by
  obtain ⟨pc, lo, st, hp, cb, sb⟩ := S
  unfold mv_exec at h
  split at h
  · cases h
  · rename_i i n hI
    split at h
    case h_4 =>
      obtain ⟨rfl, h3⟩ := mv_g_eq h
      exact Or.inl ⟨hI, h3⟩
    case h_5 =>
      obtain ⟨rfl, h3⟩ := mv_g_eq h
      exact Or.inr (Or.inl ⟨hI, h3⟩)
    case h_6 =>
      obtain ⟨rfl, h3⟩ := mv_g_eq h
      exact Or.inr (Or.inr ⟨hI, h3⟩)
    case h_8 =>
      obtain ⟨S2, e2, h3⟩ := mv_og_eq h
      cases e2
    all_goals
      obtain ⟨-, h3⟩ := mv_g_eq h
      first
      | (obtain ⟨q9, h4⟩ := mv_no_callS h3; cases h4; done)
      | (obtain ⟨q9, h4⟩ := mv_no_callV h3; cases h4; done)
      | (obtain ⟨q9, h4⟩ := mv_no_callI h3; cases h4; done)
      | (obtain ⟨q9, h4⟩ := mv_no_throw h3; cases h4; done)
theorem mv_exec_throw {y : Nat} {S : mv_S} {a : Nat} (h : mv_exec G y S = some (.inr (.inr (.inr a)))) : mv_gI G y S.1 = some (.athrow, 1) ∧ mv_throw S.2.2.1 = some (.inr (.inr (.inr a))) := by
  obtain ⟨pc, lo, st, hp, cb, sb⟩ := S
  unfold mv_exec at h
  split at h
  · cases h
  · rename_i i n hI
    split at h
    case h_7 =>
      obtain ⟨rfl, h3⟩ := mv_g_eq h
      exact ⟨hI, h3⟩
    case h_8 =>
      obtain ⟨S2, e2, h3⟩ := mv_og_eq h
      cases e2
    all_goals
      obtain ⟨-, h3⟩ := mv_g_eq h
      first
      | (obtain ⟨q9, h4⟩ := mv_no_callS h3; cases h4; done)
      | (obtain ⟨q9, h4⟩ := mv_no_callV h3; cases h4; done)
      | (obtain ⟨q9, h4⟩ := mv_no_callI h3; cases h4; done)
      | (obtain ⟨q9, h4⟩ := mv_no_iret h3; cases h4; done)
      | (obtain ⟨q9, h4⟩ := mv_no_aret h3; cases h4; done)
      | (obtain ⟨q9, h4⟩ := mv_no_vret h3; cases h4; done)
/-- a call: the method's code, and that the real machine comes to its invocation -/
theorem mv_exec_call {y : Nat} {S : mv_S} {z len : Nat} {as r : List Value} (h : mv_exec G y S = some (.inr (.inl (z, as, r, len)))) (hV : mv_okG Nm Cd cl L Ts G) : len = 3 ∧ mv_okM Nm Cd Ts G z ∧ ∃ i, mv_gI G y S.1 = some (i, 3) ∧ ∀ {p : Program} {l : Launch} {e : Env} {R : Room} {s : State} {m : MethodId} {args : Array Value} {below : List Frame} {meth : Method} {c : Code} {T : State} {locs : List Loc} {cells slots : Nat} {ls : Array Slot} {nL : Nat}, Stand p l e R s m args below meth c T locs cells slots → mv_C Nm Cd cl L Ts Us G base kt dA D y p e s m args meth c → mv_inv base (mv_ad base kt) dA D cl nL R s S T.heap ls locs cells slots → mv_Arr p l e R s m args below meth c T locs cells slots (Nm z) S.1 ls (S.2.2.1.map (mv_v (mv_ad base kt))) (as.map (mv_v (mv_ad base kt))) (r.map (mv_v (mv_ad base kt))) := by
  obtain ⟨pc, lo, st, hp, cb, sb⟩ := S
  unfold mv_exec at h
  split at h
  · cases h
  · rename_i i n hI
    have hdg := hV.1 _ _ _ _ hI
    split at h
    case h_1 idx =>
      obtain ⟨rfl, h3⟩ := mv_g_eq h
      unfold mv_callS at h3
      split at h3
      · rename_i kd z0 na hgc
        split at h3
        · rename_i hc
          cases h3
          obtain ⟨o1, o2⟩ := (hV.2.2.2.2.2.2.1 _ _ _ _ _ hgc).1 hc.1
          refine ⟨rfl, o1, _, hI, fun {p l e R s m args below meth c T locs cells slots ls nL} X C I => ?_⟩
          obtain ⟨hx, hb, -, -, -, hown, hts, -⟩ := C
          exact mv_arrS X hx hb hown hts o1 o2 hc.2 hdg
        · cases h3
      · cases h3
    case h_2 idx =>
      obtain ⟨rfl, h3⟩ := mv_g_eq h
      unfold mv_callV at h3
      split at h3
      · rename_i kd z0 na hgc
        split at h3
        · rename_i a r0 hst
          split at h3
          · rename_i ci fs ho
            split at h3
            · rename_i hc
              cases h3
              obtain ⟨o1, o2⟩ := (hV.2.2.2.2.2.2.1 _ _ _ _ _ hgc).2.1 hc.1
              refine ⟨rfl, o1, _, hI, fun {p l e R s m args below meth c T locs cells slots ls nL} X C I => ?_⟩
              obtain ⟨hx, hb, -, -, -, hown, hts, hK, -⟩ := C
              obtain ⟨hat, -, -⟩ := mv_inv_at I ho
              rw [hc.2] at hat
              exact mv_arrV X hx hb hown hts o1 o2 hK hst hat hdg
            · cases h3
          · cases h3
        · cases h3
      · cases h3
    case h_3 idx =>
      obtain ⟨rfl, h3⟩ := mv_g_eq h
      unfold mv_callI at h3
      split at h3
      · rename_i kd z0 na hgc
        split at h3
        · rename_i a r0 hst
          split at h3
          · rename_i hc
            cases h3
            obtain ⟨o1, o2⟩ := (hV.2.2.2.2.2.2.1 _ _ _ _ _ hgc).2.2 hc
            refine ⟨rfl, o1, _, hI, fun {p l e R s m args below meth c T locs cells slots ls nL} X C I => ?_⟩
            obtain ⟨hx, hb, -, -, -, hown, hts, -⟩ := C
            exact mv_arrI X hx hb hown hts o1 o2 hst hdg
          · cases h3
        · cases h3
      · cases h3
    case h_8 =>
      obtain ⟨S2, e2, h3⟩ := mv_og_eq h
      cases e2
    all_goals
      obtain ⟨-, h3⟩ := mv_g_eq h
      first
      | (obtain ⟨q9, h4⟩ := mv_no_iret h3; cases h4; done)
      | (obtain ⟨q9, h4⟩ := mv_no_aret h3; cases h4; done)
      | (obtain ⟨q9, h4⟩ := mv_no_vret h3; cases h4; done)
      | (obtain ⟨q9, h4⟩ := mv_no_throw h3; cases h4; done)
/-- a word that stays true while the tables are warmed -/
def mv_stay (w : Jvm.Cond) : Prop := ∀ (args a' : Array Value) (s U : State), s.WarmedH U.vm → w.before args s = true → w.before a' U = true
/-- THE MACHINE: where the small machine comes to an end, the real one does, and its end is that one -/
theorem mv_sound (hV : mv_okG Nm Cd cl L Ts G) (hN : mv_okN8 Nm cl Ts Us G) (hL : mv_okL L Ts G) (hE : mv_okE cl L G) (hgood : ∀ w ∈ Ts, mv_stay w) (hi : ∀ i j, i < mv_big → j < mv_big → mv_ad base kt i = mv_ad base kt j → i = j) :
    ∀ (n y fb lb : Nat) (S : mv_S) (E : mv_E), mv_run G n y fb lb S = some E → ∀ (p : Program) (l : Launch) (e : Env) (R : Room) (s : State) (m : MethodId) (args : Array Value) (below : List Frame) (meth : Method) (c : Code), mv_C Nm Cd cl L Ts Us G base kt dA D y p e s m args meth c → fb ≤ R.frames → lb ≤ R.locals → mv_K base (mv_ad base kt) dA D cl (mv_gL G y) p l e R s m args below meth c (mv_Z base (mv_ad base kt) dA D cl R s below E) S
  | 0, _, _, _, _, _, h => by cases h
  | n + 1, y, fb, lb, S, E, h => by
    intro p l e R s m args below meth c C hfb hlb
    obtain ⟨hx, hb, hlocks, hret, hml, hown, hts, hK, hbase, hhand, hname, hstr, htr, hus, hX⟩ := id C
    have take : ∀ (a pc : Nat) (lo : List (Nat × Value)) (st : List Value) (hp : List va_E) (cb sb : Nat), mv_take G y (mv_run G n y fb lb) a (pc, lo, st, hp, cb, sb) = some E → mv_KT base (mv_ad base kt) dA D cl (mv_gL G y) p l e R s m args below meth c (mv_Z base (mv_ad base kt) dA D cl R s below E) (pc, lo, st, hp, cb, sb) a := by
      intro a pc lo st hp cb sb ht
      unfold mv_take at ht
      split at ht
      · rename_i hf
        cases ht
        exact mr_out hlocks hbase (mv_hand_none _ (by rw [hhand]; exact hf)) a
      · rename_i h9 ct hf
        split at ht
        · rename_i ci fs ho
          split at ht
          · rename_i hci
            subst hci
            obtain ⟨hct, CC, T0, N0, hC, hlk⟩ := hV.2.2.2.2.2.2.2 _ _ _ _ hf
            exact mr_catch hts hown hK hhand hf ho hC hct hlk (mv_sound hV hN hL hE hgood hi n y fb lb _ _ ht p l e R s m args below meth c C hfb hlb)
          · cases ht
        · cases ht
    obtain ⟨pc, lo, st, hp, cb, sb⟩ := S
    unfold mv_run at h
    split at h
    · rename_i S' hnat
      exact mr_nat hV hN hL hx htr hb hml hts hus hown hK (hstr y) hX hfb hlb hnat (mv_sound hV hN hL hE hgood hi n y fb lb S' E h p l e R s m args below meth c C hfb hlb)
    split at h
    · cases h
    · rename_i S' hex
      have k := mv_sound hV hN hL hE hgood hi n y fb lb S' E h p l e R s m args below meth c C hfb hlb
      obtain ⟨i, len, hI, h3⟩ := mv_exec_go hex
      exact mr_ins hx hb rfl hts hown hname hK hV hL hE (hstr y) hi (hV.1 _ _ _ _ hI) h3 k
    · rename_i z as r len hex
      split at h
      · rename_i hroom
        obtain ⟨hr1, hr2, hr3⟩ := hroom
        obtain ⟨rfl, hMz, ig, hI, harr⟩ := mv_exec_call (base := base) (kt := kt) (dA := dA) (D := D) hex hV
        have hdg := hV.1 _ _ _ _ hI
        intro H ls locs cells slots I T hT X
        subst hT
        obtain ⟨mk, vm₁, X₁, hnm, arr⟩ := harr X C I
        obtain ⟨i1, i2, i3, i4, i5, i6, i7⟩ := I
        dsimp only at i1 i2 i3 i4 i5 i6 i7 arr hdg h
        obtain ⟨mk', methk, ck, hn1, hm1, hc1, hcd, hcl, hcr, hck, hch, -⟩ := mv_meth hMz hts
        cases hnm.symm.trans hn1
        have hal : s.vm.Alike (T.setVm vm₁).vm := X₁.warmed.alike
        have hm2 : (T.setVm vm₁).vm.method? mk = some methk := by rw [hal.method?]; exact hm1
        have hnU : (T.setVm vm₁).methodNamed? (Nm z) = some mk := X₁.named hnm
        have hpk : (T.setVm vm₁).plainMethod mk := State.plainMethod.of_named hMz.2.1 hnU hm2
        obtain ⟨R', hR'⟩ : ∃ R' : Room, R' = { frames := fb - 1, cells := cb, slots := sb, locals := lb - ((r.map fun v => v.category).sum + (mv_gL G z + 11)) } := ⟨_, rfl⟩
        have hsz : ls.size = c.maxLocals := i1.1.trans hml.symm
        obtain ⟨g, hg⟩ : ∃ g : JFrame, g = F0 m pc ls (r.map (mv_v (mv_ad base kt))) := ⟨_, rfl⟩
        obtain ⟨av, hav⟩ : ∃ av : Array Value, av = (as.map (mv_v (mv_ad base kt))).toArray := ⟨_, rfl⟩
        obtain ⟨Xin, hdo⟩ := X₁.into (g := g) (by rw [hg]) (by rw [hg]; exact hsz) (by rw [hg, hb]; exact hdg) (mk := mk) av (R' := R') hm2 hc1 hck hpk (by rw [hR']; show fb - 1 + 1 ≤ R.frames; omega) (by rw [hR', hg]; show 2 * 0 + ((r.map (mv_v (mv_ad base kt))).map fun v => v.category).sum + (ck.maxLocals + 11) + (lb - _) ≤ R.locals; rw [mv_cats, hcl]; omega) (by rw [hR']; exact i5) (by rw [hR']; exact i6)
        obtain ⟨s', hs'⟩ : ∃ s' : State, s' = (T.setVm vm₁).calling g mk av := ⟨_, rfl⟩
        have hvm' : s'.vm = (T.setVm vm₁).vm := by rw [hs']; rfl
        have hheap' : s'.heap = T.heap := by rw [hs']; rfl
        have hW' : s.WarmedH s'.vm := by rw [hvm']; exact X₁.warmed
        have hn' : s'.methodNamed? (Nm z) = some mk := by rw [hs']; exact hnU
        have hm' : s'.vm.method? mk = some methk := by rw [hvm']; exact hm2
        have C1 : mv_C Nm Cd cl L Ts Us G base kt dA D z p e s' mk av methk ck := ⟨hx, hcd, hck, hcr, hcl, findClass_of_methodNamed hn', fun w hw => hgood w hw _ _ _ _ hW' (hts w hw), va_K.moved hW'.alike hK, by rw [hheap', i3]; omega, hch, (name_of_methodNamed hn' hm').1, fun z0 idx a ha => by
          obtain ⟨h1, tx, h2⟩ := hstr z0 idx a ha
          exact ⟨h1, tx, vk_R.warm hW' h2⟩, htr, fun w hw => (hus w hw).moved hW' fun q hq => by rw [hheap']; exact i4.2.1 q (by omega) (by show ¬ base ≤ q; omega), by rw [hheap', i3]; omega, (fun a n f hs => by
            obtain ⟨x1, x2, x3⟩ := hX.2.1 a n f hs
            exact ⟨x1, x2, (x3.moved hW'.alike).kept (by rw [hheap']; exact i4.2.1 _ (by omega) (by show ¬ base ≤ _; omega))⟩), fun a tx hs => by
            obtain ⟨x1, x2, v, x3⟩ := hX.2.2 a tx hs
            exact ⟨x1, x2, v, st_S.kept (st_S.moved hW'.alike x3) fun q h8 h9 => by rw [hheap']; exact i4.2.1 q h8 h9⟩⟩
        split at h
        · cases h
        · rename_i v hp' cb' sb' hrun
          have k1 := mv_sound hV hN hL hE hgood hi n z (fb - 1) (lb - ((r.map fun v => v.category).sum + (mv_gL G z + 11))) _ _ hrun p l e R' s' mk av (.java g :: below) methk ck C1 (by rw [hR']; exact Nat.le_refl _) (by rw [hR']; exact Nat.le_refl _)
          have k2 := mv_sound hV hN hL hE hgood hi n y fb lb _ _ h p l e R s m args below meth c C hfb hlb
          rw [← hs'] at Xin
          obtain ⟨TT, hTT⟩ : ∃ TT : State, TT = ((T.setVm vm₁).setTop g).pushFrame (.java (entryFrame mk av ck.maxLocals)) := ⟨_, rfl⟩
          have hdo2 := hdo []
          rw [← hTT] at Xin hdo2
          have hTh : TT.heap = T.heap := by rw [hTT]; rfl
          have hgoL : (lg_sl (as.map (mv_v (mv_ad base kt)))).length ≤ mv_gL G z := by rw [mv_sl_len]; exact hr3
          have hent : entryFrame mk av ck.maxLocals = F0 mk 0 ((lg_sl (as.map (mv_v (mv_ad base kt))) ++ List.replicate (mv_gL G z - (lg_sl (as.map (mv_v (mv_ad base kt)))).length) Slot.unset).toArray) [] := by rw [hav, hcl]; exact lg_entry_eq mk _ _
          have Iin : mv_inv base (mv_ad base kt) dA D cl (mv_gL G z) R' s' (0, lv_args 0 as, [], hp, cb, sb) T.heap ((lg_sl (as.map (mv_v (mv_ad base kt))) ++ List.replicate (mv_gL G z - (lg_sl (as.map (mv_v (mv_ad base kt)))).length) Slot.unset).toArray) [] 0 0 := by
            refine ⟨?_, i2, i3, ?_, ?_, ?_, i7⟩
            · show lv_has _ _ (mv_l (mv_ad base kt) (lv_args 0 as))
              rw [mv_args_l]
              exact lv_entry _ hgoL
            · rw [hheap']
              exact va_S.rf
            · rw [hR']
              show 0 + cb ≤ cb
              omega
            · rw [hR']
              show 0 + sb ≤ sb
              omega
          obtain ⟨t, hst, o, hrn, hend, ho, hP1, hz1, hold, hW1, ⟨L1, kk, nn, hk1, hn1, hsame, hL1⟩, hbig⟩ := k1 T.heap _ [] 0 0 Iin TT hTh Xin
          have hk1' : kk + cb' ≤ cb := by rw [hR'] at hk1; exact hk1
          have hn1' : nn + sb' ≤ sb := by rw [hR'] at hn1; exact hn1
          subst ho
          rw [hs'] at hW1 hsame
          obtain ⟨T2, X2, -, -, ht⟩ := X₁.outOf (g := g) (by rw [hg]) (by rw [hg, hb]; exact hdg) hend hW1 hsame
          have hh : T2.heap = t.heap := by rw [ht]; rfl
          have I2 : mv_inv base (mv_ad base kt) dA D cl (mv_gL G y) R s (pc + 3, lo, v.toList ++ r, hp', cb', sb') t.heap ls (locs ++ L1) (cells + kk) (slots + nn) := by
            refine ⟨i1, hP1, hz1, ⟨?_, ?_, ?_⟩, ?_, ?_, hbig⟩
            · have h9 := X2.same.2.1
              show s.heap.size ≤ t.heap.size
              rw [← hh]
              exact h9
            · intro q h8 h9
              have e1 := hold q (by omega)
              rw [hheap'] at e1
              rw [e1]
              exact i4.2.1 q h8 h9
            · intro q hq
              rcases List.mem_append.mp hq with hq | hq
              · exact i4.2.2 q hq
              · exact hL1 q hq
            · show cells + kk + cb' ≤ R.cells
              omega
            · show slots + nn + sb' ≤ R.slots
              omega
          obtain ⟨t2, h2, q2⟩ := k2 t.heap ls (locs ++ L1) (cells + kk) (slots + nn) I2 T2 hh X2
          refine ⟨t2, arr t2 ?_, q2⟩
          rw [hent] at hdo2
          rw [← hg, ← hav, hdo2]
          refine Steps.trans (mv_weaken hst) ?_
          rw [ht]
          have hfr : ({ g with pc := g.pc + 3, stack := (v.map (mv_v (mv_ad base kt))).toList ++ g.stack } : JFrame) = F0 m (pc + 3) ls ((v.toList ++ r).map (mv_v (mv_ad base kt))) := by
            rw [hg]
            cases v <;> rfl
          rw [hfr]
          exact h2
        · rename_i a hp' cb' sb' hrun
          have k1 := mv_sound hV hN hL hE hgood hi n z (fb - 1) (lb - ((r.map fun v => v.category).sum + (mv_gL G z + 11))) _ _ hrun p l e R' s' mk av (.java g :: below) methk ck C1 (by rw [hR']; exact Nat.le_refl _) (by rw [hR']; exact Nat.le_refl _)
          have k2 := take _ _ _ _ _ _ _ h
          rw [← hs'] at Xin
          obtain ⟨TT, hTT⟩ : ∃ TT : State, TT = ((T.setVm vm₁).setTop g).pushFrame (.java (entryFrame mk av ck.maxLocals)) := ⟨_, rfl⟩
          have hdo2 := hdo []
          rw [← hTT] at Xin hdo2
          have hTh : TT.heap = T.heap := by rw [hTT]; rfl
          have hgoL : (lg_sl (as.map (mv_v (mv_ad base kt)))).length ≤ mv_gL G z := by rw [mv_sl_len]; exact hr3
          have hent : entryFrame mk av ck.maxLocals = F0 mk 0 ((lg_sl (as.map (mv_v (mv_ad base kt))) ++ List.replicate (mv_gL G z - (lg_sl (as.map (mv_v (mv_ad base kt)))).length) Slot.unset).toArray) [] := by rw [hav, hcl]; exact lg_entry_eq mk _ _
          have Iin : mv_inv base (mv_ad base kt) dA D cl (mv_gL G z) R' s' (0, lv_args 0 as, [], hp, cb, sb) T.heap ((lg_sl (as.map (mv_v (mv_ad base kt))) ++ List.replicate (mv_gL G z - (lg_sl (as.map (mv_v (mv_ad base kt)))).length) Slot.unset).toArray) [] 0 0 := by
            refine ⟨?_, i2, i3, ?_, ?_, ?_, i7⟩
            · show lv_has _ _ (mv_l (mv_ad base kt) (lv_args 0 as))
              rw [mv_args_l]
              exact lv_entry _ hgoL
            · rw [hheap']
              exact va_S.rf
            · rw [hR']
              show 0 + cb ≤ cb
              omega
            · rw [hR']
              show 0 + sb ≤ sb
              omega
          obtain ⟨t, hst, o, hrn, hend, ho, hP1, hz1, hold, hW1, ⟨L1, kk, nn, hk1, hn1, hsame, hL1⟩, hbig⟩ := k1 T.heap _ [] 0 0 Iin TT hTh Xin
          have hk1' : kk + cb' ≤ cb := by rw [hR'] at hk1; exact hk1
          have hn1' : nn + sb' ≤ sb := by rw [hR'] at hn1; exact hn1
          subst ho
          rw [hs'] at hW1 hsame
          obtain ⟨T2, X2, -, -, ht⟩ := X₁.outOfThrown (g := g) (by rw [hg]) hend hW1 hsame
          have hh : T2.heap = t.heap := by rw [ht]; rfl
          have I2 : mv_inv base (mv_ad base kt) dA D cl (mv_gL G y) R s (pc, lo, [], hp', cb', sb') t.heap ls (locs ++ L1) (cells + kk) (slots + nn) := by
            refine ⟨i1, hP1, hz1, ⟨?_, ?_, ?_⟩, ?_, ?_, hbig⟩
            · have h9 := X2.same.2.1
              show s.heap.size ≤ t.heap.size
              rw [← hh]
              exact h9
            · intro q h8 h9
              have e1 := hold q (by omega)
              rw [hheap'] at e1
              rw [e1]
              exact i4.2.1 q h8 h9
            · intro q hq
              rcases List.mem_append.mp hq with hq | hq
              · exact i4.2.2 q hq
              · exact hL1 q hq
            · show cells + kk + cb' ≤ R.cells
              omega
            · show slots + nn + sb' ≤ R.slots
              omega
          obtain ⟨t2, h2, q2⟩ := k2 t.heap ls (locs ++ L1) (cells + kk) (slots + nn) (r.map (mv_v (mv_ad base kt))) I2 T2 hh X2
          refine ⟨t2, arr t2 ?_, q2⟩
          rw [hent] at hdo2
          rw [← hg, ← hav, hdo2]
          refine Steps.trans (mv_weaken hst) ?_
          rw [ht, hg]
          exact h2
      · cases h
    · rename_i v hex
      cases h
      rcases mv_exec_ret hex with ⟨hI, h3⟩ | ⟨hI, h3⟩ | ⟨hI, h3⟩
      · exact mr_iret hx hb hlocks hret hbase (hV.1 _ _ _ _ hI) h3
      · exact mr_aret hx hb hlocks hret hbase (hV.1 _ _ _ _ hI) h3
      · exact mr_vret hx hb hlocks hret hbase (hV.1 _ _ _ _ hI) h3
    · rename_i a hex
      obtain ⟨hI, h3⟩ := mv_exec_throw hex
      exact mr_throw hx hb (hV.1 _ _ _ _ hI) h3 (take a pc lo st hp cb sb h)
end MVY
end
