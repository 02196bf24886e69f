section
/-! THE SMALL MACHINE (mv_): the decoded instructions run over locals as a list of pairs, a stack of values and a heap as a list of cells. Its pointer k stands for the address mv_ad .. k of the real machine; in its heap an array's class is the number of its type. -/
/-- a state: pc, locals, operand stack, heap, cells and slots that may still be made -/
abbrev mv_S : Type := Nat × List (Nat × Value) × List Value × List va_E × Nat × Nat
/-- what an instruction comes to: it goes on; it calls (method, arguments, the stack below them, its length); it returns; it throws -/
abbrev mv_R : Type := mv_S ⊕ ((Nat × List Value × List Value × Nat) ⊕ (Option Value ⊕ Nat))
/-- what a call comes to: it has thrown, or returned; the heap, what may still be made -/
abbrev mv_E : Type := (Nat ⊕ Option Value) × List va_E × Nat × Nat
/-- the tables: instructions; fields (class, place; by method and constant pool number); classes to make; types of arrays to make; calls (kind, method, how many arguments); constants; locals of a method; handlers; slots of a class's objects; first values of its fields; types of its fields; whether a field is final; constructors; types of arrays of ints, bytes, booleans; component types; the class that an array's type has; what a method returns; the class that a method's receiver has; the class that is thrown; the three types of a grid -/
abbrev mv_G : Type := (Nat → Nat → Option (Instr × Nat)) × (Nat → Nat → Option (Nat × Nat)) × (Nat → Nat → Option Nat) × (Nat → Nat → Option Nat) × (Nat → Nat → Option (Nat × Nat × Nat)) × (Nat → Nat → Option Value) × (Nat → Nat) × (Nat → List (Nat × Nat × Nat × Nat)) × (Nat → Nat) × (Nat → List Value) × (Nat → Nat → Option FieldType) × (Nat → Nat → Bool) × (Nat → Nat → Bool) × (Nat → Option FieldType) × (Nat → Option Nat) × (Nat → Option FieldType) × (Nat → Nat) × Nat × (Nat → Nat → Option (Nat × Nat × Nat)) × (Nat → Option (Nat × (Nat → Int32))) × (Nat → Option (List Int32)) × (Nat → Option Nat)
def mv_gI (G : mv_G) : Nat → Nat → Option (Instr × Nat) := G.1
def mv_gF (G : mv_G) : Nat → Nat → Option (Nat × Nat) := G.2.1
def mv_gN (G : mv_G) : Nat → Nat → Option Nat := G.2.2.1
def mv_gA (G : mv_G) : Nat → Nat → Option Nat := G.2.2.2.1
def mv_gC (G : mv_G) : Nat → Nat → Option (Nat × Nat × Nat) := G.2.2.2.2.1
def mv_gK (G : mv_G) : Nat → Nat → Option Value := G.2.2.2.2.2.1
def mv_gL (G : mv_G) : Nat → Nat := G.2.2.2.2.2.2.1
def mv_gH (G : mv_G) : Nat → List (Nat × Nat × Nat × Nat) := G.2.2.2.2.2.2.2.1
def mv_gZ (G : mv_G) : Nat → Nat := G.2.2.2.2.2.2.2.2.1
def mv_gD (G : mv_G) : Nat → List Value := G.2.2.2.2.2.2.2.2.2.1
def mv_gT (G : mv_G) : Nat → Nat → Option FieldType := G.2.2.2.2.2.2.2.2.2.2.1
def mv_gP (G : mv_G) : Nat → Nat → Bool := G.2.2.2.2.2.2.2.2.2.2.2.1
def mv_gQ (G : mv_G) : Nat → Nat → Bool := G.2.2.2.2.2.2.2.2.2.2.2.2.1
def mv_gY (G : mv_G) : Nat → Option FieldType := G.2.2.2.2.2.2.2.2.2.2.2.2.2.1
def mv_gE (G : mv_G) : Nat → Option Nat := G.2.2.2.2.2.2.2.2.2.2.2.2.2.2.1
def mv_gR (G : mv_G) : Nat → Option FieldType := G.2.2.2.2.2.2.2.2.2.2.2.2.2.2.2.1
def mv_gW (G : mv_G) : Nat → Nat := G.2.2.2.2.2.2.2.2.2.2.2.2.2.2.2.2.1
def mv_gX (G : mv_G) : Nat := G.2.2.2.2.2.2.2.2.2.2.2.2.2.2.2.2.2.1
def mv_gM (G : mv_G) : Nat → Nat → Option (Nat × Nat × Nat) := G.2.2.2.2.2.2.2.2.2.2.2.2.2.2.2.2.2.2.1
/-- arrays of ints that were there before, by their pointers: length, what they hold -/
def mv_gS (G : mv_G) : Nat → Option (Nat × (Nat → Int32)) := G.2.2.2.2.2.2.2.2.2.2.2.2.2.2.2.2.2.2.2.1
/-- texts, by the pointers of their constants: their bytes -/
def mv_gX2 (G : mv_G) : Nat → Option (List Int32) := G.2.2.2.2.2.2.2.2.2.2.2.2.2.2.2.2.2.2.2.2.1
/-- types of arrays of arrays: the type of what they hold -/
def mv_gB (G : mv_G) : Nat → Option Nat := G.2.2.2.2.2.2.2.2.2.2.2.2.2.2.2.2.2.2.2.2.2
/-- pointers from here on are constants of text -/
def mv_big : Nat := 1099511627776
def mv_tgt (pc : Nat) (off : Int) : Option Nat := if 0 ≤ (pc : Int) + off then some ((pc : Int) + off).toNat else none
theorem mv_tgt_eq {pc t : Nat} {off : Int} (h : mv_tgt pc off = some t) : (pc : Int) + off = (t : Int) := by
  unfold mv_tgt at h
  split at h
  · cases h
    omega
  · cases h
def mv_find (i : Nat) : List (Nat × Value) → Nat → Option (Nat × Value)
  | [], _ => none
  | q :: r, k => if q.1 = i then some (k, q.2) else mv_find i r (k + 1)
theorem mv_find_at {i : Nat} : ∀ (l : List (Nat × Value)) (k j : Nat) (v : Value), mv_find i l k = some (j, v) → k ≤ j ∧ l[j - k]? = some (i, v)
  | [], _, _, _, h => by cases h
  | q :: r, k, j, v, h => by
    unfold mv_find at h
    split at h
    · rename_i e
      cases h
      exact ⟨Nat.le_refl _, by simp [← e]⟩
    · obtain ⟨h1, h2⟩ := mv_find_at r (k + 1) j v h
      refine ⟨by omega, ?_⟩
      rw [show j - k = (j - (k + 1)) + 1 by omega, List.getElem?_cons_succ]
      exact h2
def mv_keep (i : Nat) (l : List (Nat × Value)) : List (Nat × Value) := l.filter (fun q => !(q.1 == i) && !(q.1 + 1 == i && q.2.category == 2))
def mv_int : Value → Bool
  | .int _ => true
  | _ => false
def mv_rfv : Value → Bool
  | .ref _ => true
  | .null => true
  | _ => false
def mv_one (b : Value → Bool) (v : Value) : Bool := b v
section
variable (G : mv_G) (y pc : Nat) (l : List (Nat × Value)) (st : List Value) (hp : List va_E) (cb sb : Nat)
def mv_load (i len : Nat) (b : Value → Bool) : Option mv_R := match mv_find i l 0 with
  | some (_, v) => if b v = true then some (.inl (pc + len, l, v :: st, hp, cb, sb)) else none
  | none => none
def mv_store (i len : Nat) (b : Value → Bool) : Option mv_R := match st with
  | v :: r => if b v = true ∧ i < mv_gL G y then some (.inl (pc + len, (i, v) :: mv_keep i l, r, hp, cb, sb)) else none
  | [] => none
def mv_inc (i : Nat) (n : Int) (len : Nat) : Option mv_R := match mv_find i l 0 with
  | some (_, .int x) => if i < mv_gL G y then some (.inl (pc + len, (i, .int (x + Int32.ofInt n)) :: mv_keep i l, st, hp, cb, sb)) else none
  | _ => none
def mv_bin (f : Int32 → Int32 → Int32) : Option mv_R := match st with
  | .int b :: .int a :: r => some (.inl (pc + 1, l, .int (f a b) :: r, hp, cb, sb))
  | _ => none
def mv_dvd (f : Int32 → Int32 → Int32) : Option mv_R := match st with
  | .int b :: .int a :: r => if b = 0 then none else some (.inl (pc + 1, l, .int (f a b) :: r, hp, cb, sb))
  | _ => none
def mv_un (f : Int32 → Int32) : Option mv_R := match st with
  | .int a :: r => some (.inl (pc + 1, l, .int (f a) :: r, hp, cb, sb))
  | _ => none
def mv_cond : Jvm.ClassFile.Cond → Int32 → Int32 → Bool
  | .eq, a, b => decide (a = b)
  | .ne, a, b => decide (¬ a = b)
  | .lt, a, b => decide (a < b)
  | .ge, a, b => decide (b ≤ a)
  | .gt, a, b => decide (b < a)
  | .le, a, b => decide (a ≤ b)
def mv_jump (off : Int) (c : Bool) (r : List Value) : Option mv_R := match mv_tgt pc off with
  | some t => some (.inl (if c = true then t else pc + 3, l, r, hp, cb, sb))
  | none => none
def mv_if (c : Jvm.ClassFile.Cond) (off : Int) : Option mv_R := match st with
  | .int a :: r => mv_jump pc l hp cb sb off (mv_cond c a 0) r
  | _ => none
def mv_icmp (c : Jvm.ClassFile.Cond) (off : Int) : Option mv_R := match st with
  | .int b :: .int a :: r => mv_jump pc l hp cb sb off (mv_cond c a b) r
  | _ => none
/-- a reference that is no constant of text, or null -/
def mv_ptr : Value → Option (Option Nat)
  | .null => some none
  | .ref a => if a < mv_big then some (some a) else none
  | _ => none
def mv_acmp (c : ACond) (off : Int) : Option mv_R := match st with
  | b :: a :: r => match mv_ptr a, mv_ptr b with
    | some x, some z => mv_jump pc l hp cb sb off (match c with | .eq => decide (x = z) | .ne => decide (¬ x = z)) r
    | _, _ => none
  | _ => none
def mv_ifn (n : Bool) (off : Int) : Option mv_R := match st with
  | .null :: r => mv_jump pc l hp cb sb off n r
  | .ref _ :: r => mv_jump pc l hp cb sb off (!n) r
  | _ => none
def mv_push (len : Nat) (v : Value) : Option mv_R := some (.inl (pc + len, l, v :: st, hp, cb, sb))
def mv_dup : Option mv_R := match st with
  | v :: r => if v.category = 1 then some (.inl (pc + 1, l, v :: v :: r, hp, cb, sb)) else none
  | _ => none
def mv_pop : Option mv_R := match st with
  | v :: r => if v.category = 1 then some (.inl (pc + 1, l, r, hp, cb, sb)) else none
  | _ => none
def mv_dupx : Option mv_R := match st with
  | v :: w :: r => if v.category = 1 ∧ w.category = 1 then some (.inl (pc + 1, l, v :: w :: v :: r, hp, cb, sb)) else none
  | _ => none
def mv_dup2 : Option mv_R := match st with
  | v :: w :: r => if v.category = 1 ∧ w.category = 1 then some (.inl (pc + 1, l, v :: w :: v :: w :: r, hp, cb, sb)) else none
  | _ => none
def mv_tsw (dflt lo hi : Int) (offs : Array Int) : Option mv_R := match st with
  | .int x :: r => if x.toInt < lo ∨ hi < x.toInt then match mv_tgt pc dflt with
      | some t => some (.inl (t, l, r, hp, cb, sb))
      | none => none
    else match offs[(x.toInt - lo).toNat]? with
      | some off => match mv_tgt pc off with
        | some t => some (.inl (t, l, r, hp, cb, sb))
        | none => none
      | none => none
  | _ => none
def mv_lsw (dflt : Int) (ps : Array (Int × Int)) : Option mv_R := match st with
  | .int x :: r => if (ps.toList.zip (ps.toList.drop 1)).all (fun (a, next) => a.1 < next.1) = true then match mv_tgt pc (Op.lookupswitch.offset ps.toList dflt x.toInt) with
      | some t => some (.inl (t, l, r, hp, cb, sb))
      | none => none
    else none
  | _ => none
end
def mv_f_iadd (a b : Int32) : Int32 := a + b
def mv_f_isub (a b : Int32) : Int32 := a - b
def mv_f_imul (a b : Int32) : Int32 := a * b
def mv_f_iand (a b : Int32) : Int32 := a &&& b
def mv_f_ior (a b : Int32) : Int32 := a ||| b
def mv_f_ixor (a b : Int32) : Int32 := a ^^^ b
def mv_f_ishl (a b : Int32) : Int32 := a <<< (b &&& 31)
def mv_f_ishr (a b : Int32) : Int32 := a >>> (b &&& 31)
def mv_f_iushr (a b : Int32) : Int32 := (a.toUInt32 >>> (b.toUInt32 &&& Int32.toUInt32 31)).toInt32
def mv_f_idiv (a b : Int32) : Int32 := a / b
def mv_f_irem (a b : Int32) : Int32 := a - a / b * b
def mv_f_ineg (a : Int32) : Int32 := -a
def mv_f_i2b (a : Int32) : Int32 := a.toInt8.toInt32
def mv_f_i2c (a : Int32) : Int32 := (a.toUInt32 % 65536).toInt32
end
section
/-! rows of the small machine over the real one: what it holds there, and the instructions that leave the heap alone -/
def mv_ad (base : Nat) (kt : Nat → Nat) (a : Nat) : Nat := if a < mv_big then base + a else kt (a - mv_big)
def mv_v (ad : Nat → Nat) : Value → Value
  | .ref a => .ref (ad a)
  | v => v
def mv_l (ad : Nat → Nat) (l : List (Nat × Value)) : List (Nat × Value) := l.map (fun q => (q.1, mv_v ad q.2))
def mv_e (ad dA : Nat → Nat) : va_E → va_E
  | .inl (t, n, .inl f) => .inl (dA t, n, .inl f)
  | .inl (t, n, .inr (.inl f)) => .inl (dA t, n, .inr (.inl f))
  | .inl (t, n, .inr (.inr (.inl f))) => .inl (dA t, n, .inr (.inr (.inl f)))
  | .inl (t, n, .inr (.inr (.inr (.inl f)))) => .inl (dA t, n, .inr (.inr (.inr (.inl f))))
  | .inl (t, n, .inr (.inr (.inr (.inr g)))) => .inl (dA t, n, .inr (.inr (.inr (.inr (fun i => (g i).map ad)))))
  | .inr (c, fs) => .inr (c, fs.map (mv_v ad))
def mv_w (ad dA : Nat → Nat) : Nat → List va_E → va_W
  | _, [] => []
  | k, e :: r => (ad k, mv_e ad dA e) :: mv_w ad dA (k + 1) r
theorem mv_v_cat (ad : Nat → Nat) (v : Value) : (mv_v ad v).category = v.category := by cases v <;> rfl
theorem mv_keep_l (ad : Nat → Nat) (i : Nat) : ∀ l : List (Nat × Value), mv_l ad (mv_keep i l) = mv_keep i (mv_l ad l)
  | [] => rfl
  | q :: r => by
    have ih := mv_keep_l ad i r
    unfold mv_l mv_keep at ih ⊢
    rw [List.filter_cons, List.map_cons, List.filter_cons]
    simp only [mv_v_cat]
    split
    · rw [List.map_cons, ih]
    · exact ih
theorem mv_l_at {ad : Nat → Nat} {l : List (Nat × Value)} {k i : Nat} {v : Value} (h : l[k]? = some (i, v)) : (mv_l ad l)[k]? = some (i, mv_v ad v) := by
  unfold mv_l
  rw [List.getElem?_map, h]
  rfl
theorem mv_w_at {ad dA : Nat → Nat} : ∀ (hp : List va_E) (n k : Nat) (e : va_E), hp[k]? = some e → (mv_w ad dA n hp)[k]? = some (ad (n + k), mv_e ad dA e)
  | [], _, _, _, h => by simp at h
  | _ :: _, n, 0, _, h => by
    cases h
    rfl
  | _ :: r, n, k + 1, e, h => by
    have := mv_w_at (ad := ad) (dA := dA) r (n + 1) k e h
    rw [show n + (k + 1) = n + 1 + k by omega]
    exact this
theorem mv_w_len (ad dA : Nat → Nat) : ∀ (hp : List va_E) (n : Nat), (mv_w ad dA n hp).length = hp.length
  | [], _ => rfl
  | _ :: r, n => congrArg (· + 1) (mv_w_len ad dA r (n + 1))
theorem mv_w_of {ad dA : Nat → Nat} {hp : List va_E} {n k : Nat} {q : Nat × va_E} (h : (mv_w ad dA n hp)[k]? = some q) : ∃ e, hp[k]? = some e ∧ q = (ad (n + k), mv_e ad dA e) := by
  have hk : k < hp.length := by
    rw [← mv_w_len ad dA hp n]
    exact (List.getElem?_eq_some_iff.mp h).1
  have h1 : hp[k]? = some hp[k] := List.getElem?_eq_getElem hk
  refine ⟨_, h1, ?_⟩
  rw [mv_w_at hp n k _ h1] at h
  exact (Option.some.inj h).symm
theorem mv_w_set {ad dA : Nat → Nat} : ∀ (hp : List va_E) (n k : Nat) (e : va_E), (mv_w ad dA n hp).set k (ad (n + k), mv_e ad dA e) = mv_w ad dA n (hp.set k e)
  | [], _, _, _ => rfl
  | _ :: _, n, 0, _ => rfl
  | _ :: r, n, k + 1, e => by
    have := mv_w_set (ad := ad) (dA := dA) r (n + 1) k e
    rw [show n + (k + 1) = n + 1 + k by omega]
    exact congrArg (List.cons _) this
theorem mv_w_app {ad dA : Nat → Nat} : ∀ (hp : List va_E) (n : Nat) (r : List va_E), mv_w ad dA n (hp ++ r) = mv_w ad dA n hp ++ mv_w ad dA (n + hp.length) r
  | [], _, _ => rfl
  | _ :: q, n, r => by
    have := mv_w_app (ad := ad) (dA := dA) q (n + 1) r
    rw [List.length_cons, show n + (q.length + 1) = n + 1 + q.length by omega]
    exact congrArg (List.cons _) this
/-- what holds where the small machine stands at S: base: the address of its pointer 0 -/
def mv_inv (base : Nat) (ad dA : Nat → Nat) (D : va_G) (cl : List vw_C) (nL : Nat) (R : Room) (s : State) (S : mv_S) (H : Heap) (ls : Array Slot) (locs : List Loc) (cells slots : Nat) : Prop :=
  lv_has ls nL (mv_l ad S.2.1) ∧ va_P D cl (mv_w ad dA 0 S.2.2.2.1) H ∧ H.size = base + S.2.2.2.1.length ∧ va_S (fun q => base ≤ q) s.heap H locs ∧ cells + S.2.2.2.2.1 ≤ R.cells ∧ slots + S.2.2.2.2.2 ≤ R.slots ∧ S.2.2.2.1.length + S.2.2.2.2.1 ≤ mv_big
/-- the real machine goes on well from every place at which the small one stands at S -/
def mv_K (base : Nat) (ad dA : Nat → Nat) (D : va_G) (cl : List vw_C) (nL : Nat) (p : Program) (l : Launch) (e : Env) (R : Room) (s : State) (m : MethodId) (args : Array Value) (below : List Frame) (meth : Method) (c : Code) (Q : State → Prop) (S : mv_S) : Prop :=
  ∀ (H : Heap) (ls : Array Slot) (locs : List Loc) (cells slots : Nat), mv_inv base ad dA D cl nL R s S H ls locs cells slots → W p l e R s m args below meth c H locs cells slots Q (F0 m S.1 ls (S.2.2.1.map (mv_v ad)))
theorem mv_inv_st {base : Nat} {ad dA : Nat → Nat} {D : va_G} {cl : List vw_C} {nL : Nat} {R : Room} {s : State} {pc pc' i cb sb : Nat} {lo : List (Nat × Value)} {st st' : List Value} {hp : List va_E} {H : Heap} {ls ls' : Array Slot} {locs : List Loc} {cells slots : Nat} {v w : Value} (hl : lv_has ls' nL ((i, w) :: mv_keep i (mv_l ad lo))) (I : mv_inv base ad dA D cl nL R s (pc, lo, st, hp, cb, sb) H ls locs cells slots) (hw : w = mv_v ad v := by rfl) : mv_inv base ad dA D cl nL R s (pc', (i, v) :: mv_keep i lo, st', hp, cb, sb) H ls' locs cells slots := by
  refine ⟨?_, I.2⟩
  show lv_has ls' nL ((i, mv_v ad v) :: mv_l ad (mv_keep i lo))
  rw [mv_keep_l, ← hw]
  exact hl
section MVR
variable {base : Nat} {ad dA : Nat → Nat} {D : va_G} {cl : List vw_C} {nL : Nat} {p : Program} {l : Launch} {e : Env} {R : Room} {s : State} {m : MethodId} {args : Array Value} {below : List Frame} {meth : Method} {c : Code} {Q : State → Prop} {cc : ByteArray} {G : mv_G} {y pc : Nat} {lo : List (Nat × Value)} {st : List Value} {hp : List va_E} {cb sb : Nat} {S : mv_S}
theorem mr_iload (hx : p.tables.exec = Jvm.exec) (hb : c.code = cc) {i : Nat} (hdg : decode cc pc = .ok (.iload i, 2)) (h : mv_load pc lo st hp cb sb i 2 mv_int = some (.inl S)) (k : mv_K base ad dA D cl nL p l e R s m args below meth c Q S) : mv_K base ad dA D cl nL p l e R s m args below meth c Q (pc, lo, st, hp, cb, sb) := by
  intro H ls locs cells slots I
  unfold mv_load at h
  split at h
  · rename_i j v hf
    split at h
    · rename_i hv
      cases h
      cases v <;> simp [mv_int] at hv
      obtain ⟨-, h2⟩ := mv_find_at _ _ _ _ hf
      exact lv_iload hx hb hdg (lv_at I.1 _ (mv_l_at h2)) (k H ls locs cells slots I)
    · cases h
  · cases h
theorem mr_iload_n (hx : p.tables.exec = Jvm.exec) (hb : c.code = cc) {i : Fin 4} (hdg : decode cc pc = .ok (.iload_n i, 1)) (h : mv_load pc lo st hp cb sb i 1 mv_int = some (.inl S)) (k : mv_K base ad dA D cl nL p l e R s m args below meth c Q S) : mv_K base ad dA D cl nL p l e R s m args below meth c Q (pc, lo, st, hp, cb, sb) := by
  intro H ls locs cells slots I
  unfold mv_load at h
  split at h
  · rename_i j v hf
    split at h
    · rename_i hv
      cases h
      cases v <;> simp [mv_int] at hv
      obtain ⟨-, h2⟩ := mv_find_at _ _ _ _ hf
      exact lv_iload_n hx hb hdg rfl (lv_at I.1 _ (mv_l_at h2)) (k H ls locs cells slots I)
    · cases h
  · cases h
theorem mr_aload (hx : p.tables.exec = Jvm.exec) (hb : c.code = cc) {i : Nat} (hdg : decode cc pc = .ok (.aload i, 2)) (h : mv_load pc lo st hp cb sb i 2 mv_rfv = some (.inl S)) (k : mv_K base ad dA D cl nL p l e R s m args below meth c Q S) : mv_K base ad dA D cl nL p l e R s m args below meth c Q (pc, lo, st, hp, cb, sb) := by
  intro H ls locs cells slots I
  unfold mv_load at h
  split at h
  · rename_i j v hf
    split at h
    · rename_i hv
      cases h
      obtain ⟨-, h2⟩ := mv_find_at _ _ _ _ hf
      cases v <;> simp [mv_rfv] at hv
      · exact lv_aloadN hx hb hdg (lv_at I.1 _ (mv_l_at h2)) (k H ls locs cells slots I)
      · exact lv_aload hx hb hdg (lv_at I.1 _ (mv_l_at h2)) (k H ls locs cells slots I)
    · cases h
  · cases h
theorem mr_aload_n (hx : p.tables.exec = Jvm.exec) (hb : c.code = cc) {i : Fin 4} (hdg : decode cc pc = .ok (.aload_n i, 1)) (h : mv_load pc lo st hp cb sb i 1 mv_rfv = some (.inl S)) (k : mv_K base ad dA D cl nL p l e R s m args below meth c Q S) : mv_K base ad dA D cl nL p l e R s m args below meth c Q (pc, lo, st, hp, cb, sb) := by
  intro H ls locs cells slots I
  unfold mv_load at h
  split at h
  · rename_i j v hf
    split at h
    · rename_i hv
      cases h
      obtain ⟨-, h2⟩ := mv_find_at _ _ _ _ hf
      cases v <;> simp [mv_rfv] at hv
      · exact lv_aload_nN hx hb hdg rfl (lv_at I.1 _ (mv_l_at h2)) (k H ls locs cells slots I)
      · exact lv_aload_n hx hb hdg rfl (lv_at I.1 _ (mv_l_at h2)) (k H ls locs cells slots I)
    · cases h
  · cases h
theorem mr_istore (hx : p.tables.exec = Jvm.exec) (hb : c.code = cc) (hn : mv_gL G y = nL) {i : Nat} (hdg : decode cc pc = .ok (.istore i, 2)) (h : mv_store G y pc lo st hp cb sb i 2 mv_int = some (.inl S)) (k : mv_K base ad dA D cl nL p l e R s m args below meth c Q S) : mv_K base ad dA D cl nL p l e R s m args below meth c Q (pc, lo, st, hp, cb, sb) := by
  intro H ls locs cells slots I
  unfold mv_store at h
  split at h
  · rename_i v r
    split at h
    · rename_i hv
      cases h
      cases v <;> simp [mv_int] at hv
      exact lv_istore hx hb hdg I.1 (by omega) rfl (fun ls' hl' => k H ls' locs cells slots (mv_inv_st hl' I))
    · cases h
  · cases h
theorem mr_istore_n (hx : p.tables.exec = Jvm.exec) (hb : c.code = cc) (hn : mv_gL G y = nL) {i : Fin 4} (hdg : decode cc pc = .ok (.istore_n i, 1)) (h : mv_store G y pc lo st hp cb sb i 1 mv_int = some (.inl S)) (k : mv_K base ad dA D cl nL p l e R s m args below meth c Q S) : mv_K base ad dA D cl nL p l e R s m args below meth c Q (pc, lo, st, hp, cb, sb) := by
  intro H ls locs cells slots I
  unfold mv_store at h
  split at h
  · rename_i v r
    split at h
    · rename_i hv
      cases h
      cases v <;> simp [mv_int] at hv
      exact lv_istore_n hx hb hdg rfl I.1 (by omega) rfl (fun ls' hl' => k H ls' locs cells slots (mv_inv_st hl' I))
    · cases h
  · cases h
theorem mr_astore (hx : p.tables.exec = Jvm.exec) (hb : c.code = cc) (hn : mv_gL G y = nL) {i : Nat} (hdg : decode cc pc = .ok (.astore i, 2)) (h : mv_store G y pc lo st hp cb sb i 2 mv_rfv = some (.inl S)) (k : mv_K base ad dA D cl nL p l e R s m args below meth c Q S) : mv_K base ad dA D cl nL p l e R s m args below meth c Q (pc, lo, st, hp, cb, sb) := by
  intro H ls locs cells slots I
  unfold mv_store at h
  split at h
  · rename_i v r
    split at h
    · rename_i hv
      cases h
      cases v <;> simp [mv_rfv] at hv
      · exact lv_astoreN hx hb hdg I.1 (by omega) rfl (fun ls' hl' => k H ls' locs cells slots (mv_inv_st hl' I))
      · exact lv_astore hx hb hdg I.1 (by omega) rfl (fun ls' hl' => k H ls' locs cells slots (mv_inv_st hl' I))
    · cases h
  · cases h
theorem mr_astore_n (hx : p.tables.exec = Jvm.exec) (hb : c.code = cc) (hn : mv_gL G y = nL) {i : Fin 4} (hdg : decode cc pc = .ok (.astore_n i, 1)) (h : mv_store G y pc lo st hp cb sb i 1 mv_rfv = some (.inl S)) (k : mv_K base ad dA D cl nL p l e R s m args below meth c Q S) : mv_K base ad dA D cl nL p l e R s m args below meth c Q (pc, lo, st, hp, cb, sb) := by
  intro H ls locs cells slots I
  unfold mv_store at h
  split at h
  · rename_i v r
    split at h
    · rename_i hv
      cases h
      cases v <;> simp [mv_rfv] at hv
      · exact lv_astore_nN hx hb hdg rfl I.1 (by omega) rfl (fun ls' hl' => k H ls' locs cells slots (mv_inv_st hl' I))
      · exact lv_astore_n hx hb hdg rfl I.1 (by omega) rfl (fun ls' hl' => k H ls' locs cells slots (mv_inv_st hl' I))
    · cases h
  · cases h
theorem mr_inc (hx : p.tables.exec = Jvm.exec) (hb : c.code = cc) (hn : mv_gL G y = nL) {i : Nat} {n : Int} (hdg : decode cc pc = .ok (.iinc i n, 3)) (h : mv_inc G y pc lo st hp cb sb i n 3 = some (.inl S)) (k : mv_K base ad dA D cl nL p l e R s m args below meth c Q S) : mv_K base ad dA D cl nL p l e R s m args below meth c Q (pc, lo, st, hp, cb, sb) := by
  intro H ls locs cells slots I
  unfold mv_inc at h
  split at h
  · rename_i j x hf
    split at h
    · rename_i hv
      cases h
      obtain ⟨-, h2⟩ := mv_find_at _ _ _ _ hf
      exact lv_iinc hx hb hdg I.1 (mv_l_at h2) rfl (by omega) rfl (fun ls' hl' => k H ls' locs cells slots (mv_inv_st hl' I))
    · cases h
  · cases h
theorem mr_incW (hx : p.tables.exec = Jvm.exec) (hb : c.code = cc) (hn : mv_gL G y = nL) {i : Nat} {n : Int} (hdg : decode cc pc = .ok (.iinc i n, 6)) (h : mv_inc G y pc lo st hp cb sb i n 6 = some (.inl S)) (k : mv_K base ad dA D cl nL p l e R s m args below meth c Q S) : mv_K base ad dA D cl nL p l e R s m args below meth c Q (pc, lo, st, hp, cb, sb) := by
  intro H ls locs cells slots I
  unfold mv_inc at h
  split at h
  · rename_i j x hf
    split at h
    · rename_i hv
      cases h
      obtain ⟨-, h2⟩ := mv_find_at _ _ _ _ hf
      exact lv_iincW hx hb hdg I.1 (mv_l_at h2) rfl (by omega) rfl (fun ls' hl' => k H ls' locs cells slots (mv_inv_st hl' I))
    · cases h
  · cases h
end MVR
end
section
/-! rows of the small machine: numbers, the stack, jumps -/
section MVN
variable {base : Nat} {ad dA : Nat → Nat} {D : va_G} {cl : List vw_C} {nL : Nat} {p : Program} {l : Launch} {e : Env} {R : Room} {s : State} {m : MethodId} {args : Array Value} {below : List Frame} {meth : Method} {c : Code} {Q : State → Prop} {cc : ByteArray} {G : mv_G} {y pc : Nat} {lo : List (Nat × Value)} {st : List Value} {hp : List va_E} {cb sb : Nat} {S : mv_S}
theorem mr_iadd (hx : p.tables.exec = Jvm.exec) (hb : c.code = cc) (hdg : decode cc pc = .ok (.iadd, 1)) (h : mv_bin pc lo st hp cb sb mv_f_iadd = some (.inl S)) (k : mv_K base ad dA D cl nL p l e R s m args below meth c Q S) : mv_K base ad dA D cl nL p l e R s m args below meth c Q (pc, lo, st, hp, cb, sb) := by
  intro H ls locs cells slots I
  unfold mv_bin at h
  split at h
  · cases h
    exact lv_iadd hx hb hdg (k H ls locs cells slots I)
  · cases h
theorem mr_isub (hx : p.tables.exec = Jvm.exec) (hb : c.code = cc) (hdg : decode cc pc = .ok (.isub, 1)) (h : mv_bin pc lo st hp cb sb mv_f_isub = some (.inl S)) (k : mv_K base ad dA D cl nL p l e R s m args below meth c Q S) : mv_K base ad dA D cl nL p l e R s m args below meth c Q (pc, lo, st, hp, cb, sb) := by
  intro H ls locs cells slots I
  unfold mv_bin at h
  split at h
  · cases h
    exact lv_isub hx hb hdg (k H ls locs cells slots I)
  · cases h
theorem mr_imul (hx : p.tables.exec = Jvm.exec) (hb : c.code = cc) (hdg : decode cc pc = .ok (.imul, 1)) (h : mv_bin pc lo st hp cb sb mv_f_imul = some (.inl S)) (k : mv_K base ad dA D cl nL p l e R s m args below meth c Q S) : mv_K base ad dA D cl nL p l e R s m args below meth c Q (pc, lo, st, hp, cb, sb) := by
  intro H ls locs cells slots I
  unfold mv_bin at h
  split at h
  · cases h
    exact lv_imul hx hb hdg (k H ls locs cells slots I)
  · cases h
theorem mr_iand (hx : p.tables.exec = Jvm.exec) (hb : c.code = cc) (hdg : decode cc pc = .ok (.iand, 1)) (h : mv_bin pc lo st hp cb sb mv_f_iand = some (.inl S)) (k : mv_K base ad dA D cl nL p l e R s m args below meth c Q S) : mv_K base ad dA D cl nL p l e R s m args below meth c Q (pc, lo, st, hp, cb, sb) := by
  intro H ls locs cells slots I
  unfold mv_bin at h
  split at h
  · cases h
    exact lv_iand hx hb hdg (k H ls locs cells slots I)
  · cases h
theorem mr_ior (hx : p.tables.exec = Jvm.exec) (hb : c.code = cc) (hdg : decode cc pc = .ok (.ior, 1)) (h : mv_bin pc lo st hp cb sb mv_f_ior = some (.inl S)) (k : mv_K base ad dA D cl nL p l e R s m args below meth c Q S) : mv_K base ad dA D cl nL p l e R s m args below meth c Q (pc, lo, st, hp, cb, sb) := by
  intro H ls locs cells slots I
  unfold mv_bin at h
  split at h
  · cases h
    exact lv_ior hx hb hdg (k H ls locs cells slots I)
  · cases h
theorem mr_ixor (hx : p.tables.exec = Jvm.exec) (hb : c.code = cc) (hdg : decode cc pc = .ok (.ixor, 1)) (h : mv_bin pc lo st hp cb sb mv_f_ixor = some (.inl S)) (k : mv_K base ad dA D cl nL p l e R s m args below meth c Q S) : mv_K base ad dA D cl nL p l e R s m args below meth c Q (pc, lo, st, hp, cb, sb) := by
  intro H ls locs cells slots I
  unfold mv_bin at h
  split at h
  · cases h
    exact lv_ixor hx hb hdg (k H ls locs cells slots I)
  · cases h
theorem mr_ishl (hx : p.tables.exec = Jvm.exec) (hb : c.code = cc) (hdg : decode cc pc = .ok (.ishl, 1)) (h : mv_bin pc lo st hp cb sb mv_f_ishl = some (.inl S)) (k : mv_K base ad dA D cl nL p l e R s m args below meth c Q S) : mv_K base ad dA D cl nL p l e R s m args below meth c Q (pc, lo, st, hp, cb, sb) := by
  intro H ls locs cells slots I
  unfold mv_bin at h
  split at h
  · cases h
    exact lv_ishl hx hb hdg (k H ls locs cells slots I)
  · cases h
theorem mr_ishr (hx : p.tables.exec = Jvm.exec) (hb : c.code = cc) (hdg : decode cc pc = .ok (.ishr, 1)) (h : mv_bin pc lo st hp cb sb mv_f_ishr = some (.inl S)) (k : mv_K base ad dA D cl nL p l e R s m args below meth c Q S) : mv_K base ad dA D cl nL p l e R s m args below meth c Q (pc, lo, st, hp, cb, sb) := by
  intro H ls locs cells slots I
  unfold mv_bin at h
  split at h
  · cases h
    exact lv_ishr hx hb hdg (k H ls locs cells slots I)
  · cases h
theorem mr_iushr (hx : p.tables.exec = Jvm.exec) (hb : c.code = cc) (hdg : decode cc pc = .ok (.iushr, 1)) (h : mv_bin pc lo st hp cb sb mv_f_iushr = some (.inl S)) (k : mv_K base ad dA D cl nL p l e R s m args below meth c Q S) : mv_K base ad dA D cl nL p l e R s m args below meth c Q (pc, lo, st, hp, cb, sb) := by
  intro H ls locs cells slots I
  unfold mv_bin at h
  split at h
  · cases h
    exact lv_iushr hx hb hdg rfl (k H ls locs cells slots I)
  · cases h
theorem mr_idiv (hx : p.tables.exec = Jvm.exec) (hb : c.code = cc) (hdg : decode cc pc = .ok (.idiv, 1)) (h : mv_dvd pc lo st hp cb sb mv_f_idiv = some (.inl S)) (k : mv_K base ad dA D cl nL p l e R s m args below meth c Q S) : mv_K base ad dA D cl nL p l e R s m args below meth c Q (pc, lo, st, hp, cb, sb) := by
  intro H ls locs cells slots I
  unfold mv_dvd at h
  split at h
  · split at h
    · cases h
    · rename_i hne
      cases h
      exact lv_idiv hx hb hdg hne (k H ls locs cells slots I)
  · cases h
theorem mr_irem (hx : p.tables.exec = Jvm.exec) (hb : c.code = cc) (hdg : decode cc pc = .ok (.irem, 1)) (h : mv_dvd pc lo st hp cb sb mv_f_irem = some (.inl S)) (k : mv_K base ad dA D cl nL p l e R s m args below meth c Q S) : mv_K base ad dA D cl nL p l e R s m args below meth c Q (pc, lo, st, hp, cb, sb) := by
  intro H ls locs cells slots I
  unfold mv_dvd at h
  split at h
  · split at h
    · cases h
    · rename_i hne
      cases h
      exact lv_irem hx hb hdg hne (k H ls locs cells slots I)
  · cases h
theorem mr_ineg (hx : p.tables.exec = Jvm.exec) (hb : c.code = cc) (hdg : decode cc pc = .ok (.ineg, 1)) (h : mv_un pc lo st hp cb sb mv_f_ineg = some (.inl S)) (k : mv_K base ad dA D cl nL p l e R s m args below meth c Q S) : mv_K base ad dA D cl nL p l e R s m args below meth c Q (pc, lo, st, hp, cb, sb) := by
  intro H ls locs cells slots I
  unfold mv_un at h
  split at h
  · cases h
    exact lv_ineg hx hb hdg (k H ls locs cells slots I)
  · cases h
theorem mr_i2b (hx : p.tables.exec = Jvm.exec) (hb : c.code = cc) (hdg : decode cc pc = .ok (.i2b, 1)) (h : mv_un pc lo st hp cb sb mv_f_i2b = some (.inl S)) (k : mv_K base ad dA D cl nL p l e R s m args below meth c Q S) : mv_K base ad dA D cl nL p l e R s m args below meth c Q (pc, lo, st, hp, cb, sb) := by
  intro H ls locs cells slots I
  unfold mv_un at h
  split at h
  · cases h
    exact lv_i2b hx hb hdg rfl (k H ls locs cells slots I)
  · cases h
theorem mr_i2c (hx : p.tables.exec = Jvm.exec) (hb : c.code = cc) (hdg : decode cc pc = .ok (.i2c, 1)) (h : mv_un pc lo st hp cb sb mv_f_i2c = some (.inl S)) (k : mv_K base ad dA D cl nL p l e R s m args below meth c Q S) : mv_K base ad dA D cl nL p l e R s m args below meth c Q (pc, lo, st, hp, cb, sb) := by
  intro H ls locs cells slots I
  unfold mv_un at h
  split at h
  · cases h
    exact lv_i2c hx hb hdg rfl (k H ls locs cells slots I)
  · cases h
theorem mr_iconst (hx : p.tables.exec = Jvm.exec) (hb : c.code = cc) {n : Int} (hdg : decode cc pc = .ok (.iconst n, 1)) (h : mv_push pc lo st hp cb sb 1 (.int (Int32.ofInt n)) = some (.inl S)) (k : mv_K base ad dA D cl nL p l e R s m args below meth c Q S) : mv_K base ad dA D cl nL p l e R s m args below meth c Q (pc, lo, st, hp, cb, sb) := by
  intro H ls locs cells slots I
  cases h
  exact lv_iconst hx hb hdg rfl (k H ls locs cells slots I)
theorem mr_bipush (hx : p.tables.exec = Jvm.exec) (hb : c.code = cc) {n : Int} (hdg : decode cc pc = .ok (.bipush n, 2)) (h : mv_push pc lo st hp cb sb 2 (.int ((Int8.ofInt n).toInt32)) = some (.inl S)) (k : mv_K base ad dA D cl nL p l e R s m args below meth c Q S) : mv_K base ad dA D cl nL p l e R s m args below meth c Q (pc, lo, st, hp, cb, sb) := by
  intro H ls locs cells slots I
  cases h
  exact lv_bipush hx hb hdg rfl (k H ls locs cells slots I)
theorem mr_sipush (hx : p.tables.exec = Jvm.exec) (hb : c.code = cc) {n : Int} (hdg : decode cc pc = .ok (.sipush n, 3)) (h : mv_push pc lo st hp cb sb 3 (.int ((Int16.ofInt n).toInt32)) = some (.inl S)) (k : mv_K base ad dA D cl nL p l e R s m args below meth c Q S) : mv_K base ad dA D cl nL p l e R s m args below meth c Q (pc, lo, st, hp, cb, sb) := by
  intro H ls locs cells slots I
  cases h
  exact lv_sipush hx hb hdg rfl (k H ls locs cells slots I)
theorem mr_null (hx : p.tables.exec = Jvm.exec) (hb : c.code = cc) (hdg : decode cc pc = .ok (.aconst_null, 1)) (h : mv_push pc lo st hp cb sb 1 .null = some (.inl S)) (k : mv_K base ad dA D cl nL p l e R s m args below meth c Q S) : mv_K base ad dA D cl nL p l e R s m args below meth c Q (pc, lo, st, hp, cb, sb) := by
  intro H ls locs cells slots I
  cases h
  exact lv_null hx hb hdg (k H ls locs cells slots I)
theorem mr_dup (hx : p.tables.exec = Jvm.exec) (hb : c.code = cc) (hdg : decode cc pc = .ok (.dup, 1)) (h : mv_dup pc lo st hp cb sb = some (.inl S)) (k : mv_K base ad dA D cl nL p l e R s m args below meth c Q S) : mv_K base ad dA D cl nL p l e R s m args below meth c Q (pc, lo, st, hp, cb, sb) := by
  intro H ls locs cells slots I
  unfold mv_dup at h
  split at h
  · split at h
    · rename_i hv
      cases h
      exact lv_dup hx hb hdg (by rw [mv_v_cat]; exact hv) (k H ls locs cells slots I)
    · cases h
  · cases h
theorem mr_pop (hx : p.tables.exec = Jvm.exec) (hb : c.code = cc) (hdg : decode cc pc = .ok (.pop, 1)) (h : mv_pop pc lo st hp cb sb = some (.inl S)) (k : mv_K base ad dA D cl nL p l e R s m args below meth c Q S) : mv_K base ad dA D cl nL p l e R s m args below meth c Q (pc, lo, st, hp, cb, sb) := by
  intro H ls locs cells slots I
  unfold mv_pop at h
  split at h
  · split at h
    · rename_i hv
      cases h
      exact lv_pop hx hb hdg (by rw [mv_v_cat]; exact hv) (k H ls locs cells slots I)
    · cases h
  · cases h
theorem mr_dup_x1 (hx : p.tables.exec = Jvm.exec) (hb : c.code = cc) (hdg : decode cc pc = .ok (.dup_x1, 1)) (h : mv_dupx pc lo st hp cb sb = some (.inl S)) (k : mv_K base ad dA D cl nL p l e R s m args below meth c Q S) : mv_K base ad dA D cl nL p l e R s m args below meth c Q (pc, lo, st, hp, cb, sb) := by
  intro H ls locs cells slots I
  unfold mv_dupx at h
  split at h
  · split at h
    · rename_i hv
      cases h
      exact lv_dup_x1 hx hb hdg (by rw [mv_v_cat]; exact hv.1) (by rw [mv_v_cat]; exact hv.2) (k H ls locs cells slots I)
    · cases h
  · cases h
theorem mr_dup2 (hx : p.tables.exec = Jvm.exec) (hb : c.code = cc) (hdg : decode cc pc = .ok (.dup2, 1)) (h : mv_dup2 pc lo st hp cb sb = some (.inl S)) (k : mv_K base ad dA D cl nL p l e R s m args below meth c Q S) : mv_K base ad dA D cl nL p l e R s m args below meth c Q (pc, lo, st, hp, cb, sb) := by
  intro H ls locs cells slots I
  unfold mv_dup2 at h
  split at h
  · split at h
    · rename_i hv
      cases h
      exact lv_dup2_11 hx hb hdg (by rw [mv_v_cat]; exact hv.1) (by rw [mv_v_cat]; exact hv.2) (k H ls locs cells slots I)
    · cases h
  · cases h
theorem mv_jump_s {off : Int} {r : List Value} {b : Bool} (h : mv_jump pc lo hp cb sb off b r = some (.inl S)) : ∃ t : Nat, (pc : Int) + off = (t : Int) ∧ (b = true → S = (t, lo, r, hp, cb, sb)) ∧ (b = false → S = (pc + 3, lo, r, hp, cb, sb)) := by
  unfold mv_jump at h
  split at h
  · rename_i t ht
    cases h
    exact ⟨t, mv_tgt_eq ht, fun e => by rw [e]; rfl, fun e => by rw [e]; rfl⟩
  · cases h
theorem mr_goto (hx : p.tables.exec = Jvm.exec) (hb : c.code = cc) {off : Int} (hdg : decode cc pc = .ok (.goto off, 3)) (h : mv_jump pc lo hp cb sb off true st = some (.inl S)) (k : mv_K base ad dA D cl nL p l e R s m args below meth c Q S) : mv_K base ad dA D cl nL p l e R s m args below meth c Q (pc, lo, st, hp, cb, sb) := by
  intro H ls locs cells slots I
  obtain ⟨t, ht, h1, -⟩ := mv_jump_s h
  obtain rfl := h1 rfl
  exact lv_goto hx hb hdg ht (k H ls locs cells slots I)
theorem mr_if_eq (hx : p.tables.exec = Jvm.exec) (hb : c.code = cc) {off : Int} (hdg : decode cc pc = .ok (.ifCond .eq off, 3)) (h : mv_if pc lo st hp cb sb .eq off = some (.inl S)) (k : mv_K base ad dA D cl nL p l e R s m args below meth c Q S) : mv_K base ad dA D cl nL p l e R s m args below meth c Q (pc, lo, st, hp, cb, sb) := by
  intro H ls locs cells slots I
  unfold mv_if at h
  split at h
  · rename_i a r
    obtain ⟨t, ht, h1, h2⟩ := mv_jump_s h
    exact lv_if_eq hx hb hdg ht (fun hP => by obtain rfl := h1 (by simp [mv_cond, hP]); exact k H ls locs cells slots I) (fun hP => by obtain rfl := h2 (by simp [mv_cond, hP]); exact k H ls locs cells slots I)
  · cases h
theorem mr_icmp_eq (hx : p.tables.exec = Jvm.exec) (hb : c.code = cc) {off : Int} (hdg : decode cc pc = .ok (.if_icmp .eq off, 3)) (h : mv_icmp pc lo st hp cb sb .eq off = some (.inl S)) (k : mv_K base ad dA D cl nL p l e R s m args below meth c Q S) : mv_K base ad dA D cl nL p l e R s m args below meth c Q (pc, lo, st, hp, cb, sb) := by
  intro H ls locs cells slots I
  unfold mv_icmp at h
  split at h
  · rename_i b a r
    obtain ⟨t, ht, h1, h2⟩ := mv_jump_s h
    exact lv_icmp_eq hx hb hdg ht (fun hP => by obtain rfl := h1 (by simp [mv_cond, hP]); exact k H ls locs cells slots I) (fun hP => by obtain rfl := h2 (by simp [mv_cond, hP]); exact k H ls locs cells slots I)
  · cases h
theorem mr_if_ne (hx : p.tables.exec = Jvm.exec) (hb : c.code = cc) {off : Int} (hdg : decode cc pc = .ok (.ifCond .ne off, 3)) (h : mv_if pc lo st hp cb sb .ne off = some (.inl S)) (k : mv_K base ad dA D cl nL p l e R s m args below meth c Q S) : mv_K base ad dA D cl nL p l e R s m args below meth c Q (pc, lo, st, hp, cb, sb) := by
  intro H ls locs cells slots I
  unfold mv_if at h
  split at h
  · rename_i a r
    obtain ⟨t, ht, h1, h2⟩ := mv_jump_s h
    exact lv_if_ne hx hb hdg ht (fun hP => by obtain rfl := h1 (by simp [mv_cond, hP]); exact k H ls locs cells slots I) (fun hP => by obtain rfl := h2 (by simp [mv_cond, hP]); exact k H ls locs cells slots I)
  · cases h
theorem mr_icmp_ne (hx : p.tables.exec = Jvm.exec) (hb : c.code = cc) {off : Int} (hdg : decode cc pc = .ok (.if_icmp .ne off, 3)) (h : mv_icmp pc lo st hp cb sb .ne off = some (.inl S)) (k : mv_K base ad dA D cl nL p l e R s m args below meth c Q S) : mv_K base ad dA D cl nL p l e R s m args below meth c Q (pc, lo, st, hp, cb, sb) := by
  intro H ls locs cells slots I
  unfold mv_icmp at h
  split at h
  · rename_i b a r
    obtain ⟨t, ht, h1, h2⟩ := mv_jump_s h
    exact lv_icmp_ne hx hb hdg ht (fun hP => by obtain rfl := h1 (by simp [mv_cond, hP]); exact k H ls locs cells slots I) (fun hP => by obtain rfl := h2 (by simp [mv_cond, hP]); exact k H ls locs cells slots I)
  · cases h
theorem mr_if_lt (hx : p.tables.exec = Jvm.exec) (hb : c.code = cc) {off : Int} (hdg : decode cc pc = .ok (.ifCond .lt off, 3)) (h : mv_if pc lo st hp cb sb .lt off = some (.inl S)) (k : mv_K base ad dA D cl nL p l e R s m args below meth c Q S) : mv_K base ad dA D cl nL p l e R s m args below meth c Q (pc, lo, st, hp, cb, sb) := by
  intro H ls locs cells slots I
  unfold mv_if at h
  split at h
  · rename_i a r
    obtain ⟨t, ht, h1, h2⟩ := mv_jump_s h
    exact lv_if_lt hx hb hdg ht (fun hP => by obtain rfl := h1 (by simp [mv_cond, hP]); exact k H ls locs cells slots I) (fun hP => by obtain rfl := h2 (by simp [mv_cond, hP]); exact k H ls locs cells slots I)
  · cases h
theorem mr_icmp_lt (hx : p.tables.exec = Jvm.exec) (hb : c.code = cc) {off : Int} (hdg : decode cc pc = .ok (.if_icmp .lt off, 3)) (h : mv_icmp pc lo st hp cb sb .lt off = some (.inl S)) (k : mv_K base ad dA D cl nL p l e R s m args below meth c Q S) : mv_K base ad dA D cl nL p l e R s m args below meth c Q (pc, lo, st, hp, cb, sb) := by
  intro H ls locs cells slots I
  unfold mv_icmp at h
  split at h
  · rename_i b a r
    obtain ⟨t, ht, h1, h2⟩ := mv_jump_s h
    exact lv_icmp_lt hx hb hdg ht (fun hP => by obtain rfl := h1 (by simp [mv_cond, hP]); exact k H ls locs cells slots I) (fun hP => by obtain rfl := h2 (by simp [mv_cond, hP]); exact k H ls locs cells slots I)
  · cases h
theorem mr_if_ge (hx : p.tables.exec = Jvm.exec) (hb : c.code = cc) {off : Int} (hdg : decode cc pc = .ok (.ifCond .ge off, 3)) (h : mv_if pc lo st hp cb sb .ge off = some (.inl S)) (k : mv_K base ad dA D cl nL p l e R s m args below meth c Q S) : mv_K base ad dA D cl nL p l e R s m args below meth c Q (pc, lo, st, hp, cb, sb) := by
  intro H ls locs cells slots I
  unfold mv_if at h
  split at h
  · rename_i a r
    obtain ⟨t, ht, h1, h2⟩ := mv_jump_s h
    exact lv_if_ge hx hb hdg ht (fun hP => by obtain rfl := h1 (by simp [mv_cond, hP]); exact k H ls locs cells slots I) (fun hP => by obtain rfl := h2 (by simp [mv_cond, hP]); exact k H ls locs cells slots I)
  · cases h
theorem mr_icmp_ge (hx : p.tables.exec = Jvm.exec) (hb : c.code = cc) {off : Int} (hdg : decode cc pc = .ok (.if_icmp .ge off, 3)) (h : mv_icmp pc lo st hp cb sb .ge off = some (.inl S)) (k : mv_K base ad dA D cl nL p l e R s m args below meth c Q S) : mv_K base ad dA D cl nL p l e R s m args below meth c Q (pc, lo, st, hp, cb, sb) := by
  intro H ls locs cells slots I
  unfold mv_icmp at h
  split at h
  · rename_i b a r
    obtain ⟨t, ht, h1, h2⟩ := mv_jump_s h
    exact lv_icmp_ge hx hb hdg ht (fun hP => by obtain rfl := h1 (by simp [mv_cond, hP]); exact k H ls locs cells slots I) (fun hP => by obtain rfl := h2 (by simp [mv_cond, hP]); exact k H ls locs cells slots I)
  · cases h
theorem mr_if_gt (hx : p.tables.exec = Jvm.exec) (hb : c.code = cc) {off : Int} (hdg : decode cc pc = .ok (.ifCond .gt off, 3)) (h : mv_if pc lo st hp cb sb .gt off = some (.inl S)) (k : mv_K base ad dA D cl nL p l e R s m args below meth c Q S) : mv_K base ad dA D cl nL p l e R s m args below meth c Q (pc, lo, st, hp, cb, sb) := by
  intro H ls locs cells slots I
  unfold mv_if at h
  split at h
  · rename_i a r
    obtain ⟨t, ht, h1, h2⟩ := mv_jump_s h
    exact lv_if_gt hx hb hdg ht (fun hP => by obtain rfl := h1 (by simp [mv_cond, hP]); exact k H ls locs cells slots I) (fun hP => by obtain rfl := h2 (by simp [mv_cond, hP]); exact k H ls locs cells slots I)
  · cases h
theorem mr_icmp_gt (hx : p.tables.exec = Jvm.exec) (hb : c.code = cc) {off : Int} (hdg : decode cc pc = .ok (.if_icmp .gt off, 3)) (h : mv_icmp pc lo st hp cb sb .gt off = some (.inl S)) (k : mv_K base ad dA D cl nL p l e R s m args below meth c Q S) : mv_K base ad dA D cl nL p l e R s m args below meth c Q (pc, lo, st, hp, cb, sb) := by
  intro H ls locs cells slots I
  unfold mv_icmp at h
  split at h
  · rename_i b a r
    obtain ⟨t, ht, h1, h2⟩ := mv_jump_s h
    exact lv_icmp_gt hx hb hdg ht (fun hP => by obtain rfl := h1 (by simp [mv_cond, hP]); exact k H ls locs cells slots I) (fun hP => by obtain rfl := h2 (by simp [mv_cond, hP]); exact k H ls locs cells slots I)
  · cases h
theorem mr_if_le (hx : p.tables.exec = Jvm.exec) (hb : c.code = cc) {off : Int} (hdg : decode cc pc = .ok (.ifCond .le off, 3)) (h : mv_if pc lo st hp cb sb .le off = some (.inl S)) (k : mv_K base ad dA D cl nL p l e R s m args below meth c Q S) : mv_K base ad dA D cl nL p l e R s m args below meth c Q (pc, lo, st, hp, cb, sb) := by
  intro H ls locs cells slots I
  unfold mv_if at h
  split at h
  · rename_i a r
    obtain ⟨t, ht, h1, h2⟩ := mv_jump_s h
    exact lv_if_le hx hb hdg ht (fun hP => by obtain rfl := h1 (by simp [mv_cond, hP]); exact k H ls locs cells slots I) (fun hP => by obtain rfl := h2 (by simp [mv_cond, hP]); exact k H ls locs cells slots I)
  · cases h
theorem mr_icmp_le (hx : p.tables.exec = Jvm.exec) (hb : c.code = cc) {off : Int} (hdg : decode cc pc = .ok (.if_icmp .le off, 3)) (h : mv_icmp pc lo st hp cb sb .le off = some (.inl S)) (k : mv_K base ad dA D cl nL p l e R s m args below meth c Q S) : mv_K base ad dA D cl nL p l e R s m args below meth c Q (pc, lo, st, hp, cb, sb) := by
  intro H ls locs cells slots I
  unfold mv_icmp at h
  split at h
  · rename_i b a r
    obtain ⟨t, ht, h1, h2⟩ := mv_jump_s h
    exact lv_icmp_le hx hb hdg ht (fun hP => by obtain rfl := h1 (by simp [mv_cond, hP]); exact k H ls locs cells slots I) (fun hP => by obtain rfl := h2 (by simp [mv_cond, hP]); exact k H ls locs cells slots I)
  · cases h
theorem mv_ptr_rf {v : Value} {o : Option Nat} (h : mv_ptr v = some o) : mv_v ad v = va_rf (o.map ad) ∧ ∀ a, o = some a → a < mv_big := by
  unfold mv_ptr at h
  split at h
  · cases h
    exact ⟨rfl, fun a q => by cases q⟩
  · split at h
    · rename_i hlt
      cases h
      exact ⟨rfl, fun a q => by cases q; exact hlt⟩
    · cases h
  · cases h
theorem mv_ptr_eq {x z : Option Nat} (hi : ∀ i j, i < mv_big → j < mv_big → ad i = ad j → i = j) (h1 : ∀ a, x = some a → a < mv_big) (h2 : ∀ a, z = some a → a < mv_big) : x.map ad = z.map ad ↔ x = z := by
  constructor
  · intro q
    cases x with
    | none => cases z with
      | none => rfl
      | some b => cases q
    | some a => cases z with
      | none => cases q
      | some b =>
        have := hi a b (h1 a rfl) (h2 b rfl) (Option.some.inj q)
        rw [this]
  · intro q
    rw [q]
theorem mr_acmp_eq (hx : p.tables.exec = Jvm.exec) (hb : c.code = cc) (hi : ∀ i j, i < mv_big → j < mv_big → ad i = ad j → i = j) {off : Int} (hdg : decode cc pc = .ok (.if_acmp .eq off, 3)) (h : mv_acmp pc lo st hp cb sb .eq off = some (.inl S)) (k : mv_K base ad dA D cl nL p l e R s m args below meth c Q S) : mv_K base ad dA D cl nL p l e R s m args below meth c Q (pc, lo, st, hp, cb, sb) := by
  intro H ls locs cells slots I
  unfold mv_acmp at h
  split at h
  · rename_i b a r
    split at h
    · rename_i x z e1 e2
      obtain ⟨t, ht, h1, h2⟩ := mv_jump_s h
      obtain ⟨f1, g1⟩ := mv_ptr_rf (ad := ad) e1
      obtain ⟨f2, g2⟩ := mv_ptr_rf (ad := ad) e2
      have hq := mv_ptr_eq hi g1 g2
      show W p l e R s m args below meth c H locs cells slots Q (F0 m pc ls (mv_v ad b :: mv_v ad a :: r.map (mv_v ad)))
      rw [f1, f2]
      exact lv_acmp_eq hx hb hdg ht (fun hP => by rw [hq] at hP; obtain rfl := h1 (by simp [hP]); exact k H ls locs cells slots I) (fun hP => by rw [hq] at hP; obtain rfl := h2 (by simp [hP]); exact k H ls locs cells slots I)
    · cases h
  · cases h
theorem mr_acmp_ne (hx : p.tables.exec = Jvm.exec) (hb : c.code = cc) (hi : ∀ i j, i < mv_big → j < mv_big → ad i = ad j → i = j) {off : Int} (hdg : decode cc pc = .ok (.if_acmp .ne off, 3)) (h : mv_acmp pc lo st hp cb sb .ne off = some (.inl S)) (k : mv_K base ad dA D cl nL p l e R s m args below meth c Q S) : mv_K base ad dA D cl nL p l e R s m args below meth c Q (pc, lo, st, hp, cb, sb) := by
  intro H ls locs cells slots I
  unfold mv_acmp at h
  split at h
  · rename_i b a r
    split at h
    · rename_i x z e1 e2
      obtain ⟨t, ht, h1, h2⟩ := mv_jump_s h
      obtain ⟨f1, g1⟩ := mv_ptr_rf (ad := ad) e1
      obtain ⟨f2, g2⟩ := mv_ptr_rf (ad := ad) e2
      have hq := mv_ptr_eq hi g1 g2
      show W p l e R s m args below meth c H locs cells slots Q (F0 m pc ls (mv_v ad b :: mv_v ad a :: r.map (mv_v ad)))
      rw [f1, f2]
      exact lv_acmp_ne hx hb hdg ht (fun hP => by rw [hq] at hP; obtain rfl := h1 (by simp [hP]); exact k H ls locs cells slots I) (fun hP => by rw [hq] at hP; obtain rfl := h2 (by simp [hP]); exact k H ls locs cells slots I)
    · cases h
  · cases h
theorem mr_ifnull (hx : p.tables.exec = Jvm.exec) (hb : c.code = cc) {off : Int} (hdg : decode cc pc = .ok (.ifnull off, 3)) (h : mv_ifn pc lo st hp cb sb true off = some (.inl S)) (k : mv_K base ad dA D cl nL p l e R s m args below meth c Q S) : mv_K base ad dA D cl nL p l e R s m args below meth c Q (pc, lo, st, hp, cb, sb) := by
  intro H ls locs cells slots I
  unfold mv_ifn at h
  split at h
  · obtain ⟨t, ht, h1, -⟩ := mv_jump_s h
    obtain rfl := h1 rfl
    exact lv_ifnullN hx hb hdg ht (k H ls locs cells slots I)
  · obtain ⟨t, ht, -, h2⟩ := mv_jump_s h
    obtain rfl := h2 rfl
    exact lv_ifnull hx hb hdg (k H ls locs cells slots I)
  · cases h
theorem mr_ifnonnull (hx : p.tables.exec = Jvm.exec) (hb : c.code = cc) {off : Int} (hdg : decode cc pc = .ok (.ifnonnull off, 3)) (h : mv_ifn pc lo st hp cb sb false off = some (.inl S)) (k : mv_K base ad dA D cl nL p l e R s m args below meth c Q S) : mv_K base ad dA D cl nL p l e R s m args below meth c Q (pc, lo, st, hp, cb, sb) := by
  intro H ls locs cells slots I
  unfold mv_ifn at h
  split at h
  · obtain ⟨t, ht, -, h2⟩ := mv_jump_s h
    obtain rfl := h2 rfl
    exact lv_ifnonnullN hx hb hdg (k H ls locs cells slots I)
  · obtain ⟨t, ht, h1, -⟩ := mv_jump_s h
    obtain rfl := h1 rfl
    exact lv_ifnonnull hx hb hdg ht (k H ls locs cells slots I)
  · cases h
theorem mr_tsw (hx : p.tables.exec = Jvm.exec) (hb : c.code = cc) {d lw hg : Int} {offs : Array Int} {len : Nat} (hdg : decode cc pc = .ok (.tableswitch d lw hg offs, len)) (h : mv_tsw pc lo st hp cb sb d lw hg offs = some (.inl S)) (k : mv_K base ad dA D cl nL p l e R s m args below meth c Q S) : mv_K base ad dA D cl nL p l e R s m args below meth c Q (pc, lo, st, hp, cb, sb) := by
  intro H ls locs cells slots I
  unfold mv_tsw at h
  split at h
  · rename_i x r
    split at h
    · rename_i hq
      split at h
      · rename_i t ht
        cases h
        exact lv_tableOut hx hb hdg hq (mv_tgt_eq ht) (k H ls locs cells slots I)
      · cases h
    · rename_i hq
      split at h
      · rename_i off ho
        split at h
        · rename_i t ht
          cases h
          exact lv_tableIn hx hb hdg (fun q => hq (Or.inl q)) (fun q => hq (Or.inr q)) ho (mv_tgt_eq ht) (k H ls locs cells slots I)
        · cases h
      · cases h
  · cases h
theorem mr_lsw (hx : p.tables.exec = Jvm.exec) (hb : c.code = cc) {d : Int} {ps : Array (Int × Int)} {len : Nat} (hdg : decode cc pc = .ok (.lookupswitch d ps, len)) (h : mv_lsw pc lo st hp cb sb d ps = some (.inl S)) (k : mv_K base ad dA D cl nL p l e R s m args below meth c Q S) : mv_K base ad dA D cl nL p l e R s m args below meth c Q (pc, lo, st, hp, cb, sb) := by
  intro H ls locs cells slots I
  unfold mv_lsw at h
  split at h
  · rename_i x r
    split at h
    · rename_i hq
      split at h
      · rename_i t ht
        cases h
        exact lv_lookup hx hb hdg hq rfl (mv_tgt_eq ht) (k H ls locs cells slots I)
      · cases h
    · cases h
  · cases h
end MVN
end
section
/-! the small machine: fields and arrays -/
section
variable (G : mv_G) (y pc : Nat) (l : List (Nat × Value)) (st : List Value) (hp : List va_E) (cb sb : Nat)
def mv_get (idx : Nat) : Option mv_R := match st with
  | .ref a :: r => match hp[a]?, mv_gF G y idx with
    | some (.inr (ci, fs)), some (cj, k) => if ci = cj then match fs[k]? with
        | some v => some (.inl (pc + 3, l, v :: r, hp, cb, sb))
        | none => none
      else none
    | _, _ => none
  | _ => none
def mv_put (idx : Nat) : Option mv_R := match st with
  | v :: .ref a :: r => match hp[a]?, mv_gF G y idx with
    | some (.inr (ci, fs)), some (cj, k) => match mv_gT G cj k with
      | some ty => if ci = cj ∧ narrow ty v = v ∧ fits ty v = true ∧ k < fs.length ∧ (mv_gP G cj k = true → mv_gQ G y cj = true) then some (.inl (pc + 3, l, r, hp.set a (.inr (ci, fs.set k v)), cb, sb)) else none
      | none => none
    | _, _ => none
  | _ => none
def mv_new (idx : Nat) : Option mv_R := match mv_gN G y idx with
  | some ci => if 1 ≤ cb ∧ mv_gZ G ci ≤ sb then some (.inl (pc + 3, l, .ref hp.length :: st, hp ++ [.inr (ci, mv_gD G ci)], cb - 1, sb - mv_gZ G ci)) else none
  | none => none
def mv_prim : ArrayType → Option Nat
  | .int => some 0
  | .byte => some 1
  | .boolean => some 2
  | _ => none
def mv_newa (at_ : ArrayType) : Option mv_R := match st with
  | .int n :: r => match mv_prim at_ with
    | some t => if ¬ n < 0 ∧ n.toNatClampNeg ≤ 134217728 ∧ 1 ≤ cb ∧ n.toNatClampNeg ≤ sb then some (.inl (pc + 2, l, .ref hp.length :: r, hp ++ [.inl (t, n.toNatClampNeg, .inl (fun _ => 0))], cb - 1, sb - n.toNatClampNeg)) else none
    | none => none
  | _ => none
def mv_anew (idx : Nat) : Option mv_R := match st with
  | .int n :: r => match mv_gA G y idx with
    | some t => if ¬ n < 0 ∧ n.toNatClampNeg ≤ 134217728 ∧ 1 ≤ cb ∧ n.toNatClampNeg ≤ sb then some (.inl (pc + 3, l, .ref hp.length :: r, hp ++ [.inl (t, n.toNatClampNeg, .inr (.inr (.inr (.inr (fun _ => none)))))], cb - 1, sb - n.toNatClampNeg)) else none
    | none => none
  | _ => none
def mv_out (i : Int32) (n : Nat) : Bool := decide (i < 0 ∨ n ≤ i.toNatClampNeg)
def mv_iald : Option mv_R := match st with
  | .int i :: .ref a :: r => match hp[a]? with
    | some (.inl (0, n, .inl f)) => if mv_out i n = true then none else some (.inl (pc + 1, l, .int (f i.toNatClampNeg) :: r, hp, cb, sb))
    | _ => none
  | _ => none
def mv_bald : Option mv_R := match st with
  | .int i :: .ref a :: r => match hp[a]? with
    | some (.inl (t, n, .inl f)) => if (t = 1 ∨ t = 2) ∧ mv_out i n = false then some (.inl (pc + 1, l, .int (f i.toNatClampNeg) :: r, hp, cb, sb)) else none
    | _ => none
  | _ => none
def mv_aald : Option mv_R := match st with
  | .int i :: .ref a :: r => match hp[a]? with
    | some (.inl (t, n, .inr (.inr (.inr (.inr g))))) => match mv_gY G t with
      | some ty => if ty.isReference = true ∧ mv_out i n = false then some (.inl (pc + 1, l, va_rf (g i.toNatClampNeg) :: r, hp, cb, sb)) else none
      | none => none
    | _ => none
  | _ => none
def mv_iast : Option mv_R := match st with
  | .int x :: .int i :: .ref a :: r => match hp[a]? with
    | some (.inl (0, n, .inl f)) => if mv_out i n = true then none else some (.inl (pc + 1, l, r, hp.set a (.inl (0, n, .inl (upd f i.toNatClampNeg x))), cb, sb))
    | _ => none
  | _ => none
def mv_bast : Option mv_R := match st with
  | .int x :: .int i :: .ref a :: r => match hp[a]? with
    | some (.inl (t, n, .inl f)) => if mv_out i n = false then
        if t = 1 then some (.inl (pc + 1, l, r, hp.set a (.inl (t, n, .inl (upd f i.toNatClampNeg (vp_nar .byte x)))), cb, sb))
        else if t = 2 then some (.inl (pc + 1, l, r, hp.set a (.inl (t, n, .inl (upd f i.toNatClampNeg (vp_nar .boolean x)))), cb, sb)) else none
      else none
    | _ => none
  | _ => none
def mv_alen : Option mv_R := match st with
  | .ref a :: r => match hp[a]? with
    | some (.inl (t, n, _)) => match mv_gY G t with
      | some _ => some (.inl (pc + 1, l, .int (Int32.ofNat n) :: r, hp, cb, sb))
      | none => none
    | _ => none
  | _ => none
end
/-! rows of it -/
def mv_tys (dA : Nat → Nat) (L : List FieldType) : List (ClassId × FieldType) := (List.range L.length).filterMap (fun t => (L[t]?).map (fun ty => (dA t, ty)))
theorem mv_tys_mem {dA : Nat → Nat} {L : List FieldType} {t : Nat} {ty : FieldType} (h : L[t]? = some ty) : ∃ k : Nat, (mv_tys dA L)[k]? = some (dA t, ty) := by
  have : (dA t, ty) ∈ mv_tys dA L := List.mem_filterMap.mpr ⟨t, List.mem_range.mpr (List.getElem?_eq_some_iff.mp h).1, by rw [h]; rfl⟩
  exact List.mem_iff_getElem?.mp this
theorem mv_D {base : Nat} {kt dA : Nat → Nat} {hp : List va_E} (h : hp.length ≤ mv_big) : va_D (fun q => base ≤ q) (mv_w (mv_ad base kt) dA 0 hp) := by
  have key : ∀ (i : Nat) (q : Nat × va_E), (mv_w (mv_ad base kt) dA 0 hp)[i]? = some q → q.1 = base + i := by
    intro i q hq
    obtain ⟨e, he, rfl⟩ := mv_w_of hq
    have hi : i < hp.length := (List.getElem?_eq_some_iff.mp he).1
    show mv_ad base kt (0 + i) = base + i
    rw [Nat.zero_add, mv_ad, if_pos (by omega)]
  refine ⟨fun i j a b hi hj hab => ?_, fun k q hk => ?_⟩
  · have h1 := key i a hi
    have h2 := key j b hj
    omega
  · have h1 := key k q hk
    show base ≤ q.1
    omega
section MVH
variable {base : Nat} {kt dA : Nat → Nat} {D : va_G} {cl : List vw_C} {nL : Nat} {p : Program} {l : Launch} {e : Env} {R : Room} {s : State} {m : MethodId} {args : Array Value} {below : List Frame} {meth : Method} {c : Code} {Q : State → Prop} {cc : ByteArray} {G : mv_G} {y pc : Nat} {lo : List (Nat × Value)} {st : List Value} {hp : List va_E} {cb sb : Nat} {S : mv_S}
theorem mv_inv_at {H : Heap} {ls : Array Slot} {locs : List Loc} {cells slots : Nat} (I : mv_inv base (mv_ad base kt) dA D cl nL R s (pc, lo, st, hp, cb, sb) H ls locs cells slots) {a : Nat} {e0 : va_E} (h : hp[a]? = some e0) : va_at D cl (mv_ad base kt a, mv_e (mv_ad base kt) dA e0) H ∧ mv_ad base kt a = base + a ∧ a < hp.length := by
  have h1 := I.2.1 a _ (mv_w_at (ad := mv_ad base kt) (dA := dA) hp 0 a e0 h)
  rw [Nat.zero_add] at h1
  have hl : a < hp.length := (List.getElem?_eq_some_iff.mp h).1
  have h7 : hp.length + cb ≤ mv_big := I.2.2.2.2.2.2
  refine ⟨h1, ?_, hl⟩
  rw [mv_ad, if_pos (by omega)]
theorem mv_inv_put {H H1 : Heap} {ls : Array Slot} {locs : List Loc} {cells slots pc' : Nat} {st' : List Value} (I : mv_inv base (mv_ad base kt) dA D cl nL R s (pc, lo, st, hp, cb, sb) H ls locs cells slots) {a k : Nat} {e0 e1 : va_E} (h : hp[a]? = some e0)
    (he : va_at D cl (mv_ad base kt a, mv_e (mv_ad base kt) dA e1) H1) (z : H1.size = H.size) (oq : ∀ q : Nat, q ≠ mv_ad base kt a → H1[q]? = H[q]?) : mv_inv base (mv_ad base kt) dA D cl nL R s (pc', lo, st', hp.set a e1, cb, sb) H1 ls (locs ++ [⟨mv_ad base kt a, k⟩]) cells slots := by
  obtain ⟨-, ha, hal⟩ := mv_inv_at I h
  obtain ⟨i1, i2, i3, i4, i5, i6, i7⟩ := I
  dsimp only at i1 i2 i3 i4 i5 i6 i7
  have hD := mv_D (base := base) (kt := kt) (dA := dA) (hp := hp) (by omega)
  have hw := mv_w_at (ad := mv_ad base kt) (dA := dA) hp 0 a e0 h
  refine ⟨i1, ?_, ?_, ?_, i5, i6, ?_⟩
  · show va_P D cl (mv_w (mv_ad base kt) dA 0 (hp.set a e1)) H1
    rw [← mv_w_set]
    rw [Nat.zero_add] at hw ⊢
    exact i2.set hD hw he oq
  · show H1.size = base + (hp.set a e1).length
    rw [List.length_set, z, i3]
  · exact i4.put z oq (by show base ≤ _; rw [ha]; omega)
  · show (hp.set a e1).length + cb ≤ mv_big
    rw [List.length_set]
    exact i7
theorem mv_inv_new {H H1 : Heap} {ls : Array Slot} {locs : List Loc} {cells slots pc' n : Nat} {st' : List Value} (I : mv_inv base (mv_ad base kt) dA D cl nL R s (pc, lo, st, hp, cb, sb) H ls locs cells slots) {e1 : va_E} (hc : 1 ≤ cb) (hs : n ≤ sb)
    (he : va_at D cl (H.size, mv_e (mv_ad base kt) dA e1) H1) (z : H1.size = H.size + 1) (oq : ∀ q : Nat, q < H.size → H1[q]? = H[q]?) : mv_inv base (mv_ad base kt) dA D cl nL R s (pc', lo, st', hp ++ [e1], cb - 1, sb - n) H1 ls locs (cells + 1) (slots + n) ∧ mv_ad base kt hp.length = H.size := by
  obtain ⟨i1, i2, i3, i4, i5, i6, i7⟩ := I
  dsimp only at i1 i2 i3 i4 i5 i6 i7
  have hz : mv_ad base kt hp.length = H.size := by
    rw [mv_ad, if_pos (by omega), i3]
  refine ⟨⟨i1, ?_, ?_, ⟨?_, ?_, i4.2.2⟩, ?_, ?_, ?_⟩, hz⟩
  · show va_P D cl (mv_w (mv_ad base kt) dA 0 (hp ++ [e1])) H1
    rw [mv_w_app]
    refine (i2.kept (fun k q hk => oq q.1 ((i2 k q hk).lt))).app (fun k q hk => ?_)
    have hz0 : k < 1 := (List.getElem?_eq_some_iff.mp hk).1
    rw [show k = 0 by omega] at hk
    cases hk
    show va_at D cl (mv_ad base kt (0 + hp.length), _) H1
    rw [Nat.zero_add, hz]
    exact he
  · show H1.size = base + (hp ++ [e1]).length
    rw [z, i3, List.length_append]
    rfl
  · have := i4.1
    omega
  · intro q h1 h2
    exact (oq q (Nat.lt_of_lt_of_le h1 i4.1)).trans (i4.2.1 q h1 h2)
  · show cells + 1 + (cb - 1) ≤ R.cells
    omega
  · show slots + n + (sb - n) ≤ R.slots
    omega
  · show (hp ++ [e1]).length + (cb - 1) ≤ mv_big
    rw [List.length_append]
    show hp.length + 1 + _ ≤ _
    omega
/-- what a field's constant pool number means -/
def mv_okF (cl : List vw_C) (Ts : List Cond) (own : String) (idx ci k : Nat) : Prop := ∃ (C : String) (T : u_T) (N : Nat), cl[ci]? = some (C, T, N) ∧ k < N ∧ (∀ w ∈ u_ws C T N, w ∈ Ts) ∧ (Cond.fieldLink own idx (T k).1 (T k).2.1 (T k).2.2.1 ∈ Ts ∨ ∃ host : String, Cond.fieldLinkNest own idx (T k).1 (T k).2.1 (T k).2.2.1 host ∈ Ts)
theorem mr_get (hx : p.tables.exec = Jvm.exec) (hb : c.code = cc) {Ts : List Cond} (hts : ∀ w ∈ Ts, w.before args s = true) {own : String} (hown : s.vm.findClass own = some m.cls) {tys : List (ClassId × FieldType)} (hK : va_K D cl tys s) {idx : Nat} (hdg : decode cc pc = .ok (.getfield idx, 3)) (hok : ∀ ci k, mv_gF G y idx = some (ci, k) → mv_okF cl Ts own idx ci k)
    (h : mv_get G y pc lo st hp cb sb idx = some (.inl S)) (k : mv_K base (mv_ad base kt) dA D cl nL p l e R s m args below meth c Q S) : mv_K base (mv_ad base kt) dA D cl nL p l e R s m args below meth c Q (pc, lo, st, hp, cb, sb) := by
  intro H ls locs cells slots I
  unfold mv_get at h
  split at h
  · rename_i a r
    split at h
    · rename_i ci fs cj k0 he hf
      split at h
      · rename_i hc
        subst hc
        split at h
        · rename_i v hv
          cases h
          obtain ⟨C, T, N, h1, h2, h3, h4⟩ := hok _ _ hf
          have hw := mv_w_at (ad := mv_ad base kt) (dA := dA) hp 0 a _ he
          rw [Nat.zero_add] at hw
          have hv' : (fs.map (mv_v (mv_ad base kt)))[k0]? = some (mv_v (mv_ad base kt) v) := by rw [List.getElem?_map, hv]; rfl
          rcases h4 with h4 | ⟨host, h4⟩
          · exact va_get hx hb hts h3 hown hK I.2.1 a hw h1 k0 h2 (hts _ h4) (fun _ h => h) hv' hdg (k H ls locs cells slots I)
          · exact va_getN hx hb hts h3 hown hK I.2.1 a hw h1 k0 h2 (hts _ h4) (fun _ h => h) hv' hdg (k H ls locs cells slots I)
        · cases h
      · cases h
    · cases h
  · cases h
theorem mr_iald (hx : p.tables.exec = Jvm.exec) (hb : c.code = cc) {L : List FieldType} (hK : va_K D cl (mv_tys dA L) s) (h0 : L[0]? = some .int) (hdg : decode cc pc = .ok (.iaload, 1))
    (h : mv_iald pc lo st hp cb sb = some (.inl S)) (k : mv_K base (mv_ad base kt) dA D cl nL p l e R s m args below meth c Q S) : mv_K base (mv_ad base kt) dA D cl nL p l e R s m args below meth c Q (pc, lo, st, hp, cb, sb) := by
  intro H ls locs cells slots I
  unfold mv_iald at h
  split at h
  · rename_i i a r
    split at h
    · rename_i n f he
      split at h
      · cases h
      · rename_i ho
        cases h
        have hw := mv_w_at (ad := mv_ad base kt) (dA := dA) hp 0 a _ he
        rw [Nat.zero_add] at hw
        obtain ⟨t0, ht0⟩ := mv_tys_mem (dA := dA) h0
        exact va_iald hx hb hK I.2.1 a t0 hw ht0 (fun q => ho (decide_eq_true q)) hdg (k H ls locs cells slots I)
    · cases h
  · cases h
theorem mr_bald (hx : p.tables.exec = Jvm.exec) (hb : c.code = cc) {L : List FieldType} (hK : va_K D cl (mv_tys dA L) s) (h1 : L[1]? = some .byte) (h2 : L[2]? = some .boolean) (hdg : decode cc pc = .ok (.baload, 1))
    (h : mv_bald pc lo st hp cb sb = some (.inl S)) (k : mv_K base (mv_ad base kt) dA D cl nL p l e R s m args below meth c Q S) : mv_K base (mv_ad base kt) dA D cl nL p l e R s m args below meth c Q (pc, lo, st, hp, cb, sb) := by
  intro H ls locs cells slots I
  unfold mv_bald at h
  split at h
  · rename_i i a r
    split at h
    · rename_i t n f he
      split at h
      · rename_i ho
        cases h
        have hw := mv_w_at (ad := mv_ad base kt) (dA := dA) hp 0 a _ he
        rw [Nat.zero_add] at hw
        obtain ⟨hq, ho⟩ := ho
        rcases hq with rfl | rfl
        · obtain ⟨t0, ht0⟩ := mv_tys_mem (dA := dA) h1
          exact va_bald hx hb hK I.2.1 a t0 hw ht0 (fun q => of_decide_eq_false ho q) hdg (k H ls locs cells slots I)
        · obtain ⟨t0, ht0⟩ := mv_tys_mem (dA := dA) h2
          exact va_zald hx hb hK I.2.1 a t0 hw ht0 (fun q => of_decide_eq_false ho q) hdg (k H ls locs cells slots I)
      · cases h
    · cases h
  · cases h
theorem mv_v_rf (ad : Nat → Nat) (o : Option Nat) : mv_v ad (va_rf o) = va_rf (o.map ad) := by cases o <;> rfl
theorem mr_aald (hx : p.tables.exec = Jvm.exec) (hb : c.code = cc) {L : List FieldType} (hK : va_K D cl (mv_tys dA L) s) (hY : ∀ t ty, mv_gY G t = some ty → L[t]? = some ty) (hdg : decode cc pc = .ok (.aaload, 1))
    (h : mv_aald G pc lo st hp cb sb = some (.inl S)) (k : mv_K base (mv_ad base kt) dA D cl nL p l e R s m args below meth c Q S) : mv_K base (mv_ad base kt) dA D cl nL p l e R s m args below meth c Q (pc, lo, st, hp, cb, sb) := by
  intro H ls locs cells slots I
  unfold mv_aald at h
  split at h
  · rename_i i a r
    split at h
    · rename_i t n g he
      split at h
      · rename_i ty hty
        split at h
        · rename_i ho
          cases h
          obtain ⟨hr, ho⟩ := ho
          have hin := of_decide_eq_false ho
          obtain ⟨t0, ht0⟩ := mv_tys_mem (dA := dA) (hY _ _ hty)
          obtain ⟨hat, -, -⟩ := mv_inv_at I he
          have hlt : i.toNatClampNeg < n := Nat.not_le.mp fun q => hin (Or.inr q)
          have hk := k H ls locs cells slots I
          refine W.aald (v := va_rf ((g i.toNatClampNeg).map (mv_ad base kt))) (ty := ty) hx hb hat ((hK.2 t0 _ ht0).1 n (fun j => va_rf ((g j).map (mv_ad base kt)))) hr (fun q => by cases q) (by show ¬ (i < 0 ∨ (arrV _ _ _).slots.size ≤ _); rw [arrV_size]; exact hin) (by show (arrV _ _ _).slots[_]? = _; rw [arrV_read _ _ hlt]) rfl rfl hdg ?_
          have e1 : (va_rf (g i.toNatClampNeg) :: r).map (mv_v (mv_ad base kt)) = va_rf ((g i.toNatClampNeg).map (mv_ad base kt)) :: r.map (mv_v (mv_ad base kt)) := by rw [List.map_cons, mv_v_rf]
          dsimp only at hk
          rw [e1] at hk
          exact hk
        · cases h
      · cases h
    · cases h
  · cases h
theorem mr_alen (hx : p.tables.exec = Jvm.exec) (hb : c.code = cc) {L : List FieldType} (hK : va_K D cl (mv_tys dA L) s) (hY : ∀ t ty, mv_gY G t = some ty → L[t]? = some ty) (hdg : decode cc pc = .ok (.arraylength, 1))
    (h : mv_alen G pc lo st hp cb sb = some (.inl S)) (k : mv_K base (mv_ad base kt) dA D cl nL p l e R s m args below meth c Q S) : mv_K base (mv_ad base kt) dA D cl nL p l e R s m args below meth c Q (pc, lo, st, hp, cb, sb) := by
  intro H ls locs cells slots I
  unfold mv_alen at h
  split at h
  · rename_i a r
    split at h
    · rename_i t n z he
      split at h
      · rename_i ty hty
        cases h
        obtain ⟨t0, ht0⟩ := mv_tys_mem (dA := dA) (hY _ _ hty)
        have hw := mv_w_at (ad := mv_ad base kt) (dA := dA) hp 0 a _ he
        rw [Nat.zero_add] at hw
        rcases z with z | z | z | z | z <;> exact va_alen hx hb hK I.2.1 a t0 hw ht0 rfl hdg (k H ls locs cells slots I)
      · cases h
    · cases h
  · cases h
end MVH
end
section
/-! the small machine: stores, and what makes cells -/
theorem mv_nar {ad : Nat → Nat} {ty : FieldType} {v : Value} (h : narrow ty v = v) : narrow ty (mv_v ad v) = mv_v ad v := by
  cases v with
  | ref a => cases ty <;> rfl
  | _ => exact h
theorem mv_fit {ad : Nat → Nat} {ty : FieldType} {v : Value} (h : fits ty v = true) : fits ty (mv_v ad v) = true := by
  cases v with
  | ref a => cases ty <;> first | rfl | cases h
  | _ => exact h
/-- what is to be known of a class -/
def mv_okC (cl : List vw_C) (Ts : List Cond) (G : mv_G) (ci : Nat) : Prop := ∃ (C : String) (T : u_T) (N : Nat) (ty0 : Nat → FieldType), cl[ci]? = some (C, T, N) ∧ (∀ w ∈ u_ws C T N, w ∈ Ts) ∧ (∀ k, k < N → parseFieldDescriptor (T k).2.2.1 = some (ty0 k)) ∧ (∀ a, a < N → ∀ b, b < N → a ≠ b → (T a).2.1 ≠ (T b).2.1) ∧ (∀ k, k < N → mv_gT G ci k = some (ty0 k)) ∧ (∀ k, k < N → mv_gP G ci k = (T k).2.2.2) ∧ (∀ j, j < N → defaultValue (ty0 j) = vp_V (mv_gD G ci) j) ∧ ∀ ad : Nat → Nat, (mv_gD G ci).map (mv_v ad) = mv_gD G ci
/-- a final field's put, in a constructor of its own class -/
def mv_okP (cl : List vw_C) (Ts : List Cond) (meth : Method) (own : String) (idx ci k : Nat) : Prop := ∃ (C : String) (T : u_T) (N : Nat), cl[ci]? = some (C, T, N) ∧ (T k).1 = own ∧ Cond.fieldLink own idx (T k).1 (T k).2.1 (T k).2.2.1 ∈ Ts ∧ meth.name = "<init>"
section MVH2
variable {base : Nat} {kt dA : Nat → Nat} {D : va_G} {cl : List vw_C} {nL : Nat} {p : Program} {l : Launch} {e : Env} {R : Room} {s : State} {m : MethodId} {args : Array Value} {below : List Frame} {meth : Method} {c : Code} {Q : State → Prop} {cc : ByteArray} {G : mv_G} {y pc : Nat} {lo : List (Nat × Value)} {st : List Value} {hp : List va_E} {cb sb : Nat} {S : mv_S}
theorem mr_put (hx : p.tables.exec = Jvm.exec) (hb : c.code = cc) {Ts : List Cond} (hts : ∀ w ∈ Ts, w.before args s = true) {own : String} (hown : s.vm.findClass own = some m.cls) {tys : List (ClassId × FieldType)} (hK : va_K D cl tys s) {idx : Nat} (hdg : decode cc pc = .ok (.putfield idx, 3)) (hok : ∀ ci k, mv_gF G y idx = some (ci, k) → mv_okF cl Ts own idx ci k) (hokC : ∀ ci k, mv_gF G y idx = some (ci, k) → mv_okC cl Ts G ci) (hokP : ∀ ci k, mv_gF G y idx = some (ci, k) → mv_gP G ci k = true → mv_gQ G y ci = true → mv_okP cl Ts meth own idx ci k)
    (h : mv_put G y pc lo st hp cb sb idx = some (.inl S)) (k : mv_K base (mv_ad base kt) dA D cl nL p l e R s m args below meth c Q S) : mv_K base (mv_ad base kt) dA D cl nL p l e R s m args below meth c Q (pc, lo, st, hp, cb, sb) := by
  intro H ls locs cells slots I
  unfold mv_put at h
  split at h
  · rename_i v a r
    split at h
    · rename_i ci fs cj k0 he hf
      split at h
      · rename_i ty hty
        split at h
        · rename_i hc
          obtain ⟨rfl, hnar, hfit, hlen, hfinal⟩ := hc
          cases h
          obtain ⟨C, T, N, h1, h2, h3, h4⟩ := hok _ _ hf
          obtain ⟨C', T', N', ty0, g1, -, g3, g4, g5, g6, -, -⟩ := hokC _ _ hf
          cases h1.symm.trans g1
          have hty0 : ty = ty0 k0 := by
            have := g5 k0 h2
            rw [hty] at this
            exact Option.some.inj this
          obtain ⟨hat, -, -⟩ := mv_inv_at I he
          have hap := va_apart (own := own) hts h3 ty0 g3 g4 hK h1
          obtain ⟨rr, r1, cell, q1, q2, q3, q4⟩ := hat
          have hr : rr = (C, T, N) := Option.some.inj (r1.symm.trans h1)
          subst hr
          obtain ⟨hS, hfc, kC, hkC, hkind⟩ := hK.1 ci _ h1
          obtain ⟨cf, kf, fi, f, hi, hsl⟩ := hS k0 h2
          have hst := (u_facts hfc hkC (u_lays hts h3 h2) hi).1
          have hd : parseFieldDescriptor (T k0).2.2.1 = some ty := by rw [hty0]; exact g3 k0 h2
          have hlen' : k0 < (fs.map (mv_v (mv_ad base kt))).length := by rw [List.length_map]; exact hlen
          have fin : ∀ (H1 : Heap) (x : Cell), H1[mv_ad base kt a]? = some (cell.setSlot (D.2 ci k0) (mv_v (mv_ad base kt) v)) → H1.size = H.size → (∀ q : Nat, q ≠ mv_ad base kt a → H1[q]? = H[q]?) → ∀ i9 : Nat, mv_inv base (mv_ad base kt) dA D cl nL R s (pc + 3, lo, r, hp.set a (.inr (ci, fs.set k0 v)), cb, sb) H1 ls (locs ++ [⟨mv_ad base kt a, i9⟩]) cells slots := by
            intro H1 x e1 z oq i9
            refine mv_inv_put I he ?_ z oq
            show va_at D cl (mv_ad base kt a, .inr (ci, (fs.set k0 v).map (mv_v (mv_ad base kt)))) H1
            rw [List.map_set]
            exact ⟨_, h1, t_OB.to (V := updV (vp_V (fs.map (mv_v (mv_ad base kt)))) k0 (mv_v (mv_ad base kt) v)) ⟨_, e1, q2, q3, t_set q4 hap h2 _⟩ (fun j _ => vp_updV_set hlen' _ j)⟩
          have hlay := hts _ (h3 _ (u_in_lay h2))
          unfold u_lay at hlay
          by_cases hfin : (T k0).2.2.2 = true
          · obtain ⟨C2, T2, N2, p1, p2, p3, p4⟩ := hokP _ _ hf (by rw [g6 k0 h2]; exact hfin) (hfinal (by rw [g6 k0 h2]; exact hfin))
            cases h1.symm.trans p1
            rw [if_pos hfin] at hlay
            have hcf : m.cls = cf := by
              obtain ⟨_, _, c', _, _, _, -, -, hf', -, -, -, hown2, -⟩ := Cond.laysFinal_spec hlay
              have e1 : c' = cf := by have := hi.symm.trans hf'; simp at this; exact this.1.symm
              rw [p2] at hown2
              rw [← e1]; exact Option.some.inj (hown.symm.trans hown2)
            have h6 := u_fits hfc hkC hkind (Or.inr hlay) hi hd (mv_nar hnar) (mv_fit (ad := mv_ad base kt) hfit)
            refine W.putFinK hx hb hown (hts _ p3) hi hst hcf p4 (by rw [q2]; exact h6) q1 q3 (by rw [hsl]; exact k2_hasslot (q4 k0 h2)) rfl rfl hdg fun H' e1 e2 e3 => ?_
            rw [hsl] at e1 ⊢
            exact k H' ls _ cells slots (fin H' cell e1 e2 e3 _)
          · rw [if_neg hfin] at hlay
            have h6 := u_store hfc hkC hkind hlay hi hd (mv_nar hnar) (mv_fit (ad := mv_ad base kt) hfit)
            rcases h4 with h4 | ⟨host, h4⟩
            · refine W.putK hx hb (f := f) ⟨hown, hts _ h4, ⟨_, _, _, hi⟩, hst⟩ (by rw [q2]; exact h6) q1 q3 (by rw [hsl]; exact k2_hasslot (q4 k0 h2)) rfl rfl hdg fun H' e1 e2 e3 => ?_
              rw [hsl] at e1 ⊢
              exact k H' ls _ cells slots (fin H' cell e1 e2 e3 _)
            · refine va_WputK hx hb (f := f) hown (hts _ h4) hi hst (by rw [q2]; exact h6) q1 q3 (by rw [hsl]; exact k2_hasslot (q4 k0 h2)) rfl rfl hdg fun H' e1 e2 e3 => ?_
              rw [hsl] at e1 ⊢
              exact k H' ls _ cells slots (fin H' cell e1 e2 e3 _)
        · cases h
      · cases h
    · cases h
  · cases h
theorem mr_iast (hx : p.tables.exec = Jvm.exec) (hb : c.code = cc) {L : List FieldType} (hK : va_K D cl (mv_tys dA L) s) (h0 : L[0]? = some .int) (hdg : decode cc pc = .ok (.iastore, 1))
    (h : mv_iast pc lo st hp cb sb = some (.inl S)) (k : mv_K base (mv_ad base kt) dA D cl nL p l e R s m args below meth c Q S) : mv_K base (mv_ad base kt) dA D cl nL p l e R s m args below meth c Q (pc, lo, st, hp, cb, sb) := by
  intro H ls locs cells slots I
  unfold mv_iast at h
  split at h
  · rename_i x i a r
    split at h
    · rename_i n f he
      split at h
      · cases h
      · rename_i ho
        cases h
        obtain ⟨t0, ht0⟩ := mv_tys_mem (dA := dA) h0
        obtain ⟨hat, -, -⟩ := mv_inv_at I he
        have hin : vp_in i n := fun q => ho (decide_eq_true q)
        refine W.iast hx hb hat ((hK.2 t0 _ ht0).1 n (fun j => .int (f j))) (fun q => by cases q) (by show ¬ (i < 0 ∨ (arrV _ _ _).slots.size ≤ _); rw [arrV_size]; exact hin) rfl rfl hdg fun H1 e1 z oq => k H1 ls _ cells slots (mv_inv_put I he ?_ z oq)
        show H1[mv_ad base kt a]? = some (vp_cell (dA 0) (n, .inl (upd f i.toNatClampNeg x)))
        rw [e1]
        show some ((vp_cell (dA 0) (n, .inl f)).setSlot _ _) = _
        rw [vp_cell_i, vp_cell_i, arrV_store]
        congr 2
        funext q
        by_cases hq : q = i.toNatClampNeg
        · subst hq
          simp [updV, upd]
        · simp [updV, upd, hq]
    · cases h
  · cases h
theorem mr_bast (hx : p.tables.exec = Jvm.exec) (hb : c.code = cc) {L : List FieldType} (hK : va_K D cl (mv_tys dA L) s) (h1 : L[1]? = some .byte) (h2 : L[2]? = some .boolean) (hdg : decode cc pc = .ok (.bastore, 1))
    (h : mv_bast pc lo st hp cb sb = some (.inl S)) (k : mv_K base (mv_ad base kt) dA D cl nL p l e R s m args below meth c Q S) : mv_K base (mv_ad base kt) dA D cl nL p l e R s m args below meth c Q (pc, lo, st, hp, cb, sb) := by
  intro H ls locs cells slots I
  unfold mv_bast at h
  split at h
  · rename_i x i a r
    split at h
    · rename_i t n f he
      split at h
      · rename_i ho
        have hin : vp_in i n := fun q => of_decide_eq_false ho q
        obtain ⟨hat, -, -⟩ := mv_inv_at I he
        split at h
        · rename_i hq
          subst hq
          cases h
          obtain ⟨t0, ht0⟩ := mv_tys_mem (dA := dA) h1
          refine W.bast hx hb hat ((hK.2 t0 _ ht0).1 n (fun j => .int (f j))) (fun q => by cases q) (by show ¬ (i < 0 ∨ (arrV _ _ _).slots.size ≤ _); rw [arrV_size]; exact hin) rfl rfl hdg fun H1 e1 z oq => k H1 ls _ cells slots (mv_inv_put I he ?_ z oq)
          show H1[mv_ad base kt a]? = some (vp_cell (dA 1) (n, .inl (upd f i.toNatClampNeg (vp_nar .byte x))))
          rw [e1]
          show some ((vp_cell (dA 1) (n, .inl f)).setSlot _ _) = _
          rw [vp_cell_i, vp_cell_i, arrV_store]
          congr 2
          funext q
          by_cases hq : q = i.toNatClampNeg
          · subst hq
            simp [updV, upd, vp_nar]
            try rfl
          · simp [updV, upd, hq]
        · split at h
          · rename_i hq
            subst hq
            cases h
            obtain ⟨t0, ht0⟩ := mv_tys_mem (dA := dA) h2
            refine W.zast hx hb hat ((hK.2 t0 _ ht0).1 n (fun j => .int (f j))) (fun q => by cases q) (by show ¬ (i < 0 ∨ (arrV _ _ _).slots.size ≤ _); rw [arrV_size]; exact hin) rfl rfl hdg fun H1 e1 z oq => k H1 ls _ cells slots (mv_inv_put I he ?_ z oq)
            show H1[mv_ad base kt a]? = some (vp_cell (dA 2) (n, .inl (upd f i.toNatClampNeg (vp_nar .boolean x))))
            rw [e1]
            show some ((vp_cell (dA 2) (n, .inl f)).setSlot _ _) = _
            rw [vp_cell_i, vp_cell_i, arrV_store]
            congr 2
            funext q
            by_cases hq : q = i.toNatClampNeg
            · subst hq
              simp [updV, upd, vp_nar]
              try rfl
            · simp [updV, upd, hq]
          · cases h
      · cases h
    · cases h
  · cases h
theorem mv_new_eq {H : Heap} {ls : Array Slot} {locs : List Loc} {cells slots : Nat} {r : List Value} (hz : mv_ad base kt hp.length = H.size) {pc' cb' sb' : Nat} {hp' : List va_E} {H1 : Heap} (k : mv_K base (mv_ad base kt) dA D cl nL p l e R s m args below meth c Q (pc', lo, .ref hp.length :: r, hp', cb', sb')) (I : mv_inv base (mv_ad base kt) dA D cl nL R s (pc', lo, .ref hp.length :: r, hp', cb', sb') H1 ls locs cells slots) : W p l e R s m args below meth c H1 locs cells slots Q (F0 m pc' ls (.ref H.size :: r.map (mv_v (mv_ad base kt)))) := by
  have h := k H1 ls locs cells slots I
  have e1 : (Value.ref hp.length :: r).map (mv_v (mv_ad base kt)) = .ref H.size :: r.map (mv_v (mv_ad base kt)) := by
    rw [List.map_cons]
    show Value.ref (mv_ad base kt hp.length) :: _ = _
    rw [hz]
  dsimp only at h
  rw [e1] at h
  exact h
theorem mr_new (hx : p.tables.exec = Jvm.exec) (hb : c.code = cc) {Ts : List Cond} (hts : ∀ w ∈ Ts, w.before args s = true) {own : String} (hown : s.vm.findClass own = some m.cls) {tys : List (ClassId × FieldType)} (hK : va_K D cl tys s) {idx : Nat} (hdg : decode cc pc = .ok (.new idx, 3)) (hokC : ∀ ci, mv_gN G y idx = some ci → mv_okC cl Ts G ci) (hokN : ∀ ci C T N, mv_gN G y idx = some ci → cl[ci]? = some (C, T, N) → Cond.classLink own idx C ∈ Ts ∧ Cond.instantiable C (mv_gZ G ci) ∈ Ts ∧ Cond.initialized C ∈ Ts)
    (h : mv_new G y pc lo st hp cb sb idx = some (.inl S)) (k : mv_K base (mv_ad base kt) dA D cl nL p l e R s m args below meth c Q S) : mv_K base (mv_ad base kt) dA D cl nL p l e R s m args below meth c Q (pc, lo, st, hp, cb, sb) := by
  intro H ls locs cells slots I
  unfold mv_new at h
  split at h
  · rename_i ci hci
    split at h
    · rename_i hc
      cases h
      obtain ⟨C, T, N, ty0, g1, g2, g3, g4, g5, g6, g7, g8⟩ := hokC _ hci
      obtain ⟨n1, n2, n3⟩ := hokN _ _ _ _ hci g1
      have hKn := hK.1 ci _ g1
      have I5 : cells + cb ≤ R.cells := I.2.2.2.2.1
      have I6 : slots + sb ≤ R.slots := I.2.2.2.2.2.1
      refine W.newcK hx hb hown (hts _ n1) (hts _ n2) (hts _ n3) rfl hdg (by omega) (by omega) hKn.2.1 rfl fun H1 kC hkC e1 z1 o1 => ?_
      obtain ⟨I', hz⟩ := mv_inv_new (pc' := pc + 3) (st' := .ref hp.length :: st) (H1 := H1) I (e1 := .inr (ci, mv_gD G ci)) hc.1 hc.2 (by
        show va_at D cl (H.size, .inr (ci, (mv_gD G ci).map (mv_v (mv_ad base kt)))) H1
        rw [g8]
        exact ⟨_, g1, (u_born ty0 hts g2 hKn hkC e1 g3).to g7⟩) z1 o1
      exact mv_new_eq hz k I'
    · cases h
  · cases h
theorem mv_RAof {ty : FieldType} {cA cB : ClassId} (h : va_RA s cA ty) (h2 : s.vm.findClass ("[" ++ ty.toString) = some cB) : cB = cA := by
  cases ty with
  | object C =>
    obtain ⟨_, _, _, _, _, h4⟩ := h
    exact Option.some.inj (h2.symm.trans h4)
  | _ => exact Option.some.inj (h2.symm.trans h)
theorem mr_newa (hx : p.tables.exec = Jvm.exec) (hb : c.code = cc) {Ts : List Cond} (hts : ∀ w ∈ Ts, w.before args s = true) {L : List FieldType} (hK : va_K D cl (mv_tys dA L) s) (h0 : L[0]? = some .int) (h1 : L[1]? = some .byte) (h2 : L[2]? = some .boolean) (a0 : Cond.arrayClass .int ∈ Ts) (a1 : Cond.arrayClass .byte ∈ Ts) (a2 : Cond.arrayClass .boolean ∈ Ts) {at_ : ArrayType} (hdg : decode cc pc = .ok (.newarray at_, 2))
    (h : mv_newa pc lo st hp cb sb at_ = some (.inl S)) (k : mv_K base (mv_ad base kt) dA D cl nL p l e R s m args below meth c Q S) : mv_K base (mv_ad base kt) dA D cl nL p l e R s m args below meth c Q (pc, lo, st, hp, cb, sb) := by
  intro H ls locs cells slots I
  unfold mv_newa at h
  split at h
  · rename_i n r
    split at h
    · rename_i t ht
      split at h
      · rename_i hc
        obtain ⟨hn, hm, hc1, hc2⟩ := hc
        cases h
        have I5 : cells + cb ≤ R.cells := I.2.2.2.2.1
        have I6 : slots + sb ≤ R.slots := I.2.2.2.2.2.1
        have fin : ∀ (ty : FieldType), L[t]? = some ty → defaultValue ty = .int 0 → newarray.typeOf at_ = ty → (Cond.arrayClass ty).before args s = true → componentBytes ty ≤ 4 → W p l e R s m args below meth c H locs cells slots Q (F0 m pc ls (.int n :: r.map (mv_v (mv_ad base kt)))) := by
          intro ty hL hdef hty har hcb
          obtain ⟨t0, ht0⟩ := mv_tys_mem (dA := dA) hL
          have hbytes : n.toNatClampNeg * componentBytes ty ≤ 536870912 := Nat.le_trans (Nat.mul_le_mul hm hcb) (by decide)
          subst hty
          refine va_newaK hx hb har rfl hdg rfl hn rfl hbytes (by omega) (by omega) rfl fun H1 cA e1 z1 o1 _ hfc => ?_
          have hcA := mv_RAof (hK.2 t0 _ ht0).2 hfc
          subst hcA
          obtain ⟨I', hz⟩ := mv_inv_new (pc' := pc + 2) (st' := .ref hp.length :: r) (H1 := H1) I (e1 := .inl (t, n.toNatClampNeg, .inl (fun _ => 0))) hc1 hc2 (by
            show H1[H.size]? = some (vp_cell (dA t) (n.toNatClampNeg, .inl (fun _ => 0)))
            rw [e1, hdef, vp_cell_i]) z1 o1
          exact mv_new_eq hz k I'
        cases at_ <;> simp [mv_prim] at ht
        · subst ht
          exact fin .boolean h2 rfl rfl (hts _ a2) (by decide)
        · subst ht
          exact fin .byte h1 rfl rfl (hts _ a1) (by decide)
        · subst ht
          exact fin .int h0 rfl rfl (hts _ a0) (by decide)
      · cases h
    · cases h
  · cases h
theorem mr_anew (hx : p.tables.exec = Jvm.exec) (hb : c.code = cc) {Ts : List Cond} (hts : ∀ w ∈ Ts, w.before args s = true) {own : String} (hown : s.vm.findClass own = some m.cls) {L : List FieldType} (hK : va_K D cl (mv_tys dA L) s) {idx : Nat} (hdg : decode cc pc = .ok (.anewarray idx, 3)) (hokA : ∀ t, mv_gA G y idx = some t → (∃ C : String, L[t]? = some (.object C) ∧ Cond.classLink own idx C ∈ Ts ∧ Cond.arrayOver (.object C) ∈ Ts) ∨ ∃ ty : FieldType, L[t]? = some (.array ty) ∧ Cond.classLink own idx (FieldType.array ty).toString ∈ Ts ∧ Cond.arrayOver (.array ty) ∈ Ts)
    (h : mv_anew G y pc lo st hp cb sb idx = some (.inl S)) (k : mv_K base (mv_ad base kt) dA D cl nL p l e R s m args below meth c Q S) : mv_K base (mv_ad base kt) dA D cl nL p l e R s m args below meth c Q (pc, lo, st, hp, cb, sb) := by
  intro H ls locs cells slots I
  unfold mv_anew at h
  split at h
  · rename_i n r
    split at h
    · rename_i t ht
      split at h
      · rename_i hc
        obtain ⟨hn, hm, hc1, hc2⟩ := hc
        cases h
        have I5 : cells + cb ≤ R.cells := I.2.2.2.2.1
        have I6 : slots + sb ≤ R.slots := I.2.2.2.2.2.1
        have fin : ∀ (ty : FieldType) (cA : ClassId), L[t]? = some ty → s.vm.findClass ("[" ++ ty.toString) = some cA → W p l e R s m args below meth c (H.push ({ cls := cA, slots := Array.replicate n.toNatClampNeg .null, vm := .none } : Cell)) locs (cells + 1) (slots + n.toNatClampNeg) Q (F0 m (pc + 3) ls (.ref H.size :: r.map (mv_v (mv_ad base kt)))) := by
          intro ty cA hL hfc
          obtain ⟨t0, ht0⟩ := mv_tys_mem (dA := dA) hL
          have hcA := mv_RAof (hK.2 t0 _ ht0).2 hfc
          subst hcA
          generalize hH1 : H.push ({ cls := dA t, slots := Array.replicate n.toNatClampNeg .null, vm := .none } : Cell) = H1
          obtain ⟨I', hz⟩ := mv_inv_new (pc' := pc + 3) (st' := .ref hp.length :: r) (H1 := H1) I (e1 := .inl (t, n.toNatClampNeg, .inr (.inr (.inr (.inr (fun _ => none)))))) hc1 hc2 (by
            show H1[H.size]? = some (vp_cell (dA t) (n.toNatClampNeg, .inr (.inr (.inr (.inr (fun _ => none))))))
            rw [← hH1, Array.getElem?_push_size, arrV_new, vp_cell_q]
            rfl) (by rw [← hH1, Array.size_push]) (fun q hq => by rw [← hH1, Array.getElem?_push, if_neg (Nat.ne_of_lt hq)])
          exact mv_new_eq hz k I'
        rcases hokA _ ht with ⟨C, hL, k1, k2⟩ | ⟨ty, hL, k1, k2⟩
        · exact W.anew hx hb hown (hts _ k1) (hts _ k2) rfl hdg rfl hn (by omega) (by omega) (by omega) fun cA _ _ f1 _ _ _ => fin _ cA hL f1
        · exact W.anewA hx hb hown (hts _ k1) (hts _ k2) rfl hdg rfl hn (by omega) (by omega) (by omega) fun cA _ _ f1 _ _ _ => fin _ cA hL f1
      · cases h
    · cases h
  · cases h
end MVH2
end
section
/-! the small machine: how a call ends -/
section
variable (G : mv_G) (y pc : Nat) (st : List Value)
def mv_iret : Option mv_R := match st with
  | [.int v] => match mv_gR G y with
    | some ty => if narrow ty (.int v) = .int v then some (.inr (.inr (.inl (some (.int v))))) else none
    | none => none
  | _ => none
def mv_aret : Option mv_R := match st with
  | [v] => match mv_gR G y with
    | some ty => if ty.isReference = true ∧ mv_rfv v = true then some (.inr (.inr (.inl (some v)))) else none
    | none => none
  | _ => none
def mv_vret : Option mv_R := match st with
  | [] => match mv_gR G y with
    | none => some (.inr (.inr (.inl none)))
    | some _ => none
  | _ => none
def mv_throw : Option mv_R := match st with
  | .ref a :: _ => some (.inr (.inr (.inr a)))
  | _ => none
end
def mv_o (ad : Nat → Nat) : Nat ⊕ Option Value → Outcome
  | .inl a => .threw (ad a)
  | .inr v => .returned (v.map (mv_v ad))
/-- the end of a call, E, in the real machine: s behind its beginning, t at its end -/
def mv_end (base : Nat) (ad dA : Nat → Nat) (D : va_G) (cl : List vw_C) (R : Room) (s : State) (E : mv_E) (o : Outcome) (t : State) : Prop :=
  o = mv_o ad E.1 ∧ va_P D cl (mv_w ad dA 0 E.2.1) t.heap ∧ t.heap.size = base + E.2.1.length ∧ (∀ q : Nat, q < base → t.heap[q]? = s.heap[q]?) ∧ s.WarmedH t.vm ∧ (∃ (L : List Loc) (k n : Nat), k + E.2.2.1 ≤ R.cells ∧ n + E.2.2.2 ≤ R.slots ∧ s.sameButNew ({ t with vm := s.vm } : State) L k n ∧ ∀ q ∈ L, base ≤ q.base) ∧ E.2.1.length + E.2.2.1 ≤ mv_big
def mv_Z (base : Nat) (ad dA : Nat → Nat) (D : va_G) (cl : List vw_C) (R : Room) (s : State) (below : List Frame) (E : mv_E) : State → Prop := fun t => ∃ o, t.status = .running ∧ Ended t below o ∧ mv_end base ad dA D cl R s E o t
/-- the real machine goes on well where, standing at S, a has been thrown -/
def mv_KT (base : Nat) (ad dA : Nat → Nat) (D : va_G) (cl : List vw_C) (nL : Nat) (p : Program) (l : Launch) (e : Env) (R : Room) (s : State) (m : MethodId) (args : Array Value) (below : List Frame) (meth : Method) (c : Code) (Q : State → Prop) (S : mv_S) (a : Nat) : Prop :=
  ∀ (H : Heap) (ls : Array Slot) (locs : List Loc) (cells slots : Nat) (st : List Value), mv_inv base ad dA D cl nL R s S H ls locs cells slots → ∀ T : State, T.heap = H → Stand p l e R s m args below meth c T locs cells slots → ∃ t, Steps p.tables e below ((T.setTop (F0 m S.1 ls st)).pushFrame (.throwing (ad a))) t ∧ Q t
abbrev mv_MQ (base : Nat) (ad : Nat → Nat) (below : List Frame) (args : Array Value) (s : State) (cells slots : Nat) (H : Heap) (v : Option Value) : State → Prop := MQ below (fun _ _ o t => o = .returned (v.map (mv_v ad)) ∧ t.heap = H) args s cells slots (fun q => base ≤ q)
section MVE
variable {base : Nat} {kt dA : Nat → Nat} {D : va_G} {cl : List vw_C} {nL : Nat} {p : Program} {l : Launch} {e : Env} {R : Room} {s : State} {m : MethodId} {args : Array Value} {below : List Frame} {meth : Method} {c : Code} {Q : State → Prop} {cc : ByteArray} {G : mv_G} {y pc : Nat} {lo : List (Nat × Value)} {st : List Value} {hp : List va_E} {cb sb : Nat} {S : mv_S}
theorem mv_mono {H : Heap} {locs : List Loc} {cells slots : Nat} {Q' : State → Prop} {g : JFrame} (h : ∀ t, Q t → Q' t) (k : W p l e R s m args below meth c H locs cells slots Q g) : W p l e R s m args below meth c H locs cells slots Q' g := fun T hT X => by
  obtain ⟨t, a, b⟩ := k T hT X
  exact ⟨t, a, h t b⟩
theorem mv_end_ret {H : Heap} {ls : Array Slot} {locs : List Loc} {cells slots : Nat} {v : Option Value} (hbase : base ≤ s.heap.size) (I : mv_inv base (mv_ad base kt) dA D cl nL R s (pc, lo, st, hp, cb, sb) H ls locs cells slots) {t : State} (h : mv_MQ base (mv_ad base kt) below args s cells slots H v t) : mv_Z base (mv_ad base kt) dA D cl R s below (.inr v, hp, cb, sb) t := by
  obtain ⟨o, h1, h2, ⟨h3, h4⟩, L, ⟨h5, h6, h7⟩, h8⟩ := h
  obtain ⟨i1, i2, i3, i4, i5, i6, i7⟩ := I
  refine ⟨o, h1, h2, h3, by rw [h4]; exact i2, by rw [h4]; exact i3, fun q hq => ?_, h6, ⟨L, cells, slots, i5, i6, h7, h8⟩, i7⟩
  rw [h4]
  exact i4.2.1 q (by omega) (by omega)
theorem mr_iret (hx : p.tables.exec = Jvm.exec) (hb : c.code = cc) (hlocks : meth.locks = false) (hr : meth.sig.returnType = mv_gR G y) (hbase : base ≤ s.heap.size) (hdg : decode cc pc = .ok (.ireturn, 1)) {v : Option Value} (h : mv_iret G y st = some (.inr (.inr (.inl v)))) : mv_K base (mv_ad base kt) dA D cl nL p l e R s m args below meth c (mv_Z base (mv_ad base kt) dA D cl R s below (.inr v, hp, cb, sb)) (pc, lo, st, hp, cb, sb) := by
  intro H ls locs cells slots I
  unfold mv_iret at h
  split at h
  · rename_i x
    split at h
    · rename_i ty hty
      split at h
      · rename_i hn
        cases h
        refine mv_mono (Q := mv_MQ base (mv_ad base kt) below args s cells slots H _) (fun t => mv_end_ret hbase I) ?_
        exact W.zret (ty := ty) hx hb (hr.trans hty) hn (fun t ht _ => ⟨rfl, ht⟩) I.2.2.2.1.2.2 hdg
      · cases h
    · cases h
  · cases h
theorem mr_aret (hx : p.tables.exec = Jvm.exec) (hb : c.code = cc) (hlocks : meth.locks = false) (hr : meth.sig.returnType = mv_gR G y) (hbase : base ≤ s.heap.size) (hdg : decode cc pc = .ok (.areturn, 1)) {v : Option Value} (h : mv_aret G y st = some (.inr (.inr (.inl v)))) : mv_K base (mv_ad base kt) dA D cl nL p l e R s m args below meth c (mv_Z base (mv_ad base kt) dA D cl R s below (.inr v, hp, cb, sb)) (pc, lo, st, hp, cb, sb) := by
  intro H ls locs cells slots I
  unfold mv_aret at h
  split at h
  · rename_i x
    split at h
    · rename_i ty hty
      split at h
      · rename_i hn
        cases h
        refine mv_mono (Q := mv_MQ base (mv_ad base kt) below args s cells slots H _) (fun t => mv_end_ret hbase I) ?_
        have hrt : (∃ n, ty = .object n) ∨ ∃ t, ty = .array t := by
          cases ty <;> first | exact Or.inl ⟨_, rfl⟩ | exact Or.inr ⟨_, rfl⟩ | exact absurd hn.1 (by decide)
        have hv : mv_v (mv_ad base kt) x = .null ∨ ∃ a, mv_v (mv_ad base kt) x = .ref a := by
          cases x <;> first | exact Or.inl rfl | exact Or.inr ⟨_, rfl⟩ | exact absurd hn.2 (by simp [mv_rfv])
        exact W.aret (rt := ty) hx hb (hr.trans hty) hrt hv (fun t ht _ => ⟨rfl, ht⟩) I.2.2.2.1.2.2 hdg
      · cases h
    · cases h
  · cases h
theorem mr_vret (hx : p.tables.exec = Jvm.exec) (hb : c.code = cc) (hlocks : meth.locks = false) (hr : meth.sig.returnType = mv_gR G y) (hbase : base ≤ s.heap.size) (hdg : decode cc pc = .ok (.return_, 1)) {v : Option Value} (h : mv_vret G y st = some (.inr (.inr (.inl v)))) : mv_K base (mv_ad base kt) dA D cl nL p l e R s m args below meth c (mv_Z base (mv_ad base kt) dA D cl R s below (.inr v, hp, cb, sb)) (pc, lo, st, hp, cb, sb) := by
  intro H ls locs cells slots I
  unfold mv_vret at h
  split at h
  · split at h
    · rename_i hty
      cases h
      refine mv_mono (Q := mv_MQ base (mv_ad base kt) below args s cells slots H _) (fun t => mv_end_ret hbase I) ?_
      exact W.vret hx hb (hr.trans hty) (fun t ht _ => ⟨rfl, ht⟩) I.2.2.2.1.2.2 hdg
    · cases h
  · cases h
/-- an object is thrown by the instruction -/
theorem mr_throw (hx : p.tables.exec = Jvm.exec) (hb : c.code = cc) (hdg : decode cc pc = .ok (.athrow, 1)) {a : Nat} (h : mv_throw st = some (.inr (.inr (.inr a)))) (k : mv_KT base (mv_ad base kt) dA D cl nL p l e R s m args below meth c Q (pc, lo, st, hp, cb, sb) a) : mv_K base (mv_ad base kt) dA D cl nL p l e R s m args below meth c Q (pc, lo, st, hp, cb, sb) := by
  intro H ls locs cells slots I
  unfold mv_throw at h
  split at h
  · rename_i b r
    cases h
    intro T hT X
    obtain ⟨t, h1, h2⟩ := k H ls locs cells slots (r.map (mv_v (mv_ad base kt))) I T hT X
    refine ⟨t, ?_, h2⟩
    show Steps p.tables e below (T.setTop (F0 m pc ls (.ref (mv_ad base kt a) :: r.map (mv_v (mv_ad base kt))))) t
    jvm_step X.here [X.here.top, hx, hb, hdg, athrow.wp_sem]
    exact h1
  · cases h
/-- nothing in the method takes it -/
theorem mr_out (hlocks : meth.locks = false) (hbase : base ≤ s.heap.size) (hout : ∀ x ∈ c.exceptionTable.toList, covers x pc = false) (a : Nat) : mv_KT base (mv_ad base kt) dA D cl nL p l e R s m args below meth c (mv_Z base (mv_ad base kt) dA D cl R s below (.inl a, hp, cb, sb)) (pc, lo, st, hp, cb, sb) a := by
  intro H ls locs cells slots st9 I T hT X
  obtain ⟨h1, h2, h3, h4, h5⟩ := X.leaveThrown (mv_ad base kt a) (g := F0 m pc ls st9) rfl rfl rfl hout
  obtain ⟨i1, i2, i3, i4, i5, i6, i7⟩ := I
  have hh : (T.setFrames (.throwing (mv_ad base kt a) :: below)).heap = H := hT
  refine ⟨_, h1, _, h2, h3, rfl, by rw [hh]; exact i2, by rw [hh]; exact i3, fun q hq => ?_, h4, ⟨locs, cells, slots, i5, i6, h5, i4.2.2⟩, i7⟩
  rw [hh]
  exact i4.2.1 q (by omega) (by omega)
end MVE
/-! a handler, cold or warm -/
theorem mv_go_cold {Et : CtlPost} {e : Env} {d : Bool} {acts : List Action} {s : State} {f : JFrame} {a : Addr} {Q : Handler → Pre} {x : ExceptionTableEntry} {t : List ExceptionTableEntry} {c : ClassId} {vm' : Vm} {cell : Cell} (hx : covers x f.pc = true) (h0 : x.catchType ≠ 0)
    (hg : (Jvm.resolveClass f.method.cls x.catchType).Gives e.toSetting s.vm (.ok c) vm') (hsz : vm'.classes.size ≤ s.vm.classes.size) (hcell : s.heap[a]? = some cell) (hobj : ∀ k, cell.vm ≠ .statics k)
    (hk : ∃ k, vm'.classes[cell.cls]? = some k) (hc : ∃ k, vm'.classes[c]? = some k) (hfit : vm'.assignable cell.cls c = true) :
    wp (findHandler.go f a (x :: t)) Q Et e d acts s ↔ Q (.found x.handlerPc) d acts (s.setVm vm') := by
  simp only [covers] at hx
  obtain ⟨ha, ht⟩ := hg.op (op := VmOp.resolveClass f.method.cls x.catchType) rfl
  simp [findHandler.go, hx, h0, ha, ht, hsz, hcell, hobj, hk, hc, hfit, VmOp.dirties, VmOp.acts]
end
section
/-! the small machine: handlers -/
def mv_hand : List (Nat × Nat × Nat × Nat) → Nat → Option (Nat × Nat)
  | [], _ => none
  | (a, b, h, ct) :: r, pc => if a ≤ pc ∧ pc < b then some (h, ct) else mv_hand r pc
abbrev mv_proj (h : ExceptionTableEntry) : Nat × Nat × Nat × Nat := (h.startPc, h.endPc, h.handlerPc, h.catchType)
theorem mv_hand_none {pc : Nat} : ∀ (L : List ExceptionTableEntry), mv_hand (L.map mv_proj) pc = none → ∀ x ∈ L, covers x pc = false
  | [], _, x, hx => by cases hx
  | z :: r, h, x, hx => by
    rw [List.map_cons] at h
    unfold mv_hand at h
    split at h
    · cases h
    · rename_i hn
      rcases List.mem_cons.mp hx with rfl | hx
      · show (decide (x.startPc ≤ pc) && decide (pc < x.endPc)) = false
        simp only [Bool.and_eq_false_iff, decide_eq_false_iff_not]
        by_cases h1 : x.startPc ≤ pc
        · exact Or.inr (fun h2 => hn ⟨h1, h2⟩)
        · exact Or.inl h1
      · exact mv_hand_none r h x hx
theorem mv_hand_some {pc h ct : Nat} : ∀ (L : List ExceptionTableEntry), mv_hand (L.map mv_proj) pc = some (h, ct) → ∃ (pre : List ExceptionTableEntry) (x : ExceptionTableEntry) (rest : List ExceptionTableEntry), L = pre ++ x :: rest ∧ (∀ z ∈ pre, covers z pc = false) ∧ covers x pc = true ∧ x.handlerPc = h ∧ x.catchType = ct
  | [], q => by cases q
  | z :: r, q => by
    rw [List.map_cons] at q
    unfold mv_hand at q
    split at q
    · rename_i hc
      cases q
      refine ⟨[], z, r, rfl, (fun w hw => absurd hw List.not_mem_nil), ?_, rfl, rfl⟩
      show (decide (z.startPc ≤ pc) && decide (pc < z.endPc)) = true
      simp only [Bool.and_eq_true, decide_eq_true_eq]
      exact hc
    · rename_i hn
      obtain ⟨pre, x, rest, h1, h2, h3, h4, h5⟩ := mv_hand_some r q
      refine ⟨z :: pre, x, rest, by rw [h1]; rfl, fun w hw => ?_, h3, h4, h5⟩
      rcases List.mem_cons.mp hw with rfl | hw
      · show (decide (w.startPc ≤ pc) && decide (pc < w.endPc)) = false
        simp only [Bool.and_eq_false_iff, decide_eq_false_iff_not]
        by_cases g1 : w.startPc ≤ pc
        · exact Or.inr (fun g2 => hn ⟨g1, g2⟩)
        · exact Or.inl g1
      · exact h2 w hw
theorem mv_stepCatch {e : Env} {s : State} {a : Addr} {f : JFrame} {r : List Frame} {pc : Nat} {vm' : Vm} (hfind : ∀ (Q : Handler → Pre) (Et : CtlPost) (d : Bool) (acts : List Action), wp (findHandler f a) Q Et e d acts s ↔ Q (.found pc) d acts (s.setVm vm')) :
    (stepThrowing e s a (.java f :: r)).1 = (s.setVm vm').setFrames (.java { f with pc := pc, stack := [.ref a] } :: r) := by
  simp only [stepThrowing, searchFrame, vmDo]
  generalize hr : Sem.go _ e false [] s = res
  obtain ⟨as, rfl, ha⟩ := Sem.eq_ok_of hr (a := Handler.found pc) (s' := s.setVm vm') (acts' := []) (by simp [hfind _ _ _ _])
  rfl
theorem mv_stepsCatch {tb : Tables} {e : Env} {s target : State} {g : JFrame} {c : Code} {below : List Frame} {a : Addr} (h : At s g.method c below) {pc : Nat} {vm' : Vm} (hfind : ∀ (Q : Handler → Pre) (Et : CtlPost) (d : Bool) (acts : List Action), wp (findHandler g a) Q Et e d acts ((s.setTop g).pushFrame (.throwing a)) ↔ Q (.found pc) d acts (((s.setTop g).pushFrame (.throwing a)).setVm vm'))
    (hrest : Steps tb e below ((s.setVm vm').setTop { g with pc := pc, stack := [.ref a] }) target) : Steps tb e below ((s.setTop g).pushFrame (.throwing a)) target := by
  obtain ⟨hgo, hw⟩ := h.throwing a
  refine Steps.head hgo hw ?_
  rw [stepThread_throwing (frames_entered h.top _), mv_stepCatch (s := (s.setTop g).pushFrame (.throwing a)) hfind]
  obtain ⟨g₀, hg⟩ := Option.isSome_iff_exists.mp h.top
  obtain ⟨r, hr⟩ := State.topJava?_eq_some.mp hg
  have hr2 : (s.setVm vm').frames = .java g₀ :: r := hr
  rw [State.setTop_of_frames _ hr2] at hrest
  have e1 : (((s.setTop g).pushFrame (.throwing a)).setVm vm').setFrames (.java { g with pc := pc, stack := [.ref a] } :: s.frames.tail) = (s.setVm vm').setFrames (.java { g with pc := pc, stack := [.ref a] } :: r) := by
    rw [State.pushFrame, State.setTop_of_frames _ hr, hr]
    show (((s.setFrames _).setFrames _).setVm vm').setFrames _ = _
    rw [State.setFrames_setFrames]
    show ((s.setFrames _).setFrames _).setVm vm' = _
    rw [State.setFrames_setFrames]
    rfl
  rw [e1]
  exact hrest
section MVC
variable {base : Nat} {kt dA : Nat → Nat} {D : va_G} {cl : List vw_C} {nL : Nat} {p : Program} {l : Launch} {e : Env} {R : Room} {s : State} {m : MethodId} {args : Array Value} {below : List Frame} {meth : Method} {c : Code} {Q : State → Prop} {cc : ByteArray} {G : mv_G} {y pc : Nat} {lo : List (Nat × Value)} {st : List Value} {hp : List va_E} {cb sb : Nat} {S : mv_S}
/-- a handler of the method takes it -/
theorem mr_catch {Ts : List Cond} (hts : ∀ w ∈ Ts, w.before args s = true) {own : String} (hown : s.vm.findClass own = some m.cls) {tys : List (ClassId × FieldType)} (hK : va_K D cl tys s) {hh : List (Nat × Nat × Nat × Nat)} (hh1 : c.exceptionTable.toList.map mv_proj = hh) {h ct a ci : Nat} {fs : List Value} (hf : mv_hand hh pc = some (h, ct)) (ho : hp[a]? = some (.inr (ci, fs))) {C : String} {T0 : u_T} {N : Nat} (hC : cl[ci]? = some (C, T0, N)) (hct : ct ≠ 0) (hlink : Cond.classLink own ct C ∈ Ts)
    (k : mv_K base (mv_ad base kt) dA D cl nL p l e R s m args below meth c Q (h, lo, [.ref a], hp, cb, sb)) : mv_KT base (mv_ad base kt) dA D cl nL p l e R s m args below meth c Q (pc, lo, st, hp, cb, sb) a := by
  intro H ls locs cells slots st9 I T hT X
  rw [← hh1] at hf
  obtain ⟨pre, x, rest, h1, h2, h3, h4, h5⟩ := mv_hand_some _ hf
  have hpl : e.platform.magicAccessors = ({} : Platform).magicAccessors := by rw [X.admits.platform]
  obtain ⟨cc9, hfcc, hcl⟩ := Cond.classLink_spec hown (hts _ hlink) e.platform hpl
  obtain ⟨hg₁, hwarm₁, hready₁⟩ := State.classEntry (e := e) X.warmed hcl
  obtain ⟨hS, hfc, kC, hkC, hkind⟩ := hK.1 ci _ hC
  cases hfc.symm.trans hfcc
  obtain ⟨hat, -, -⟩ := mv_inv_at I ho
  obtain ⟨rr, r1, cell, q1, q2, q3, q4⟩ := hat
  have hsz : (T.vm.noted m.cls ct (.cls (D.1 ci))).classes.size ≤ T.vm.classes.size := Nat.le_of_eq (Vm.size_noted _ _ _ _)
  obtain ⟨k1, hk1, -⟩ := hwarm₁.alike.2.2 _ _ hkC
  generalize hvm : T.vm.noted m.cls ct (.cls (D.1 ci)) = vm₁ at hg₁ hwarm₁ hready₁ hsz hk1
  have hmt : T.vm.method? m = some meth := X.method'
  have X₁ := X.noted hwarm₁
  obtain ⟨t, a1, b1⟩ := k H ls locs cells slots I (T.setVm vm₁) hT X₁
  refine ⟨t, mv_stepsCatch (g := F0 m pc ls st9) X.here (pc := h) (vm' := vm₁) (fun Q9 Et d acts => ?_) a1, b1⟩
  have e1 : ((T.setTop (F0 m pc ls st9)).pushFrame (.throwing (mv_ad base kt a))).vm = T.vm := Stand.throwing_vm T _ _
  have e2 : ((T.setTop (F0 m pc ls st9)).pushFrame (.throwing (mv_ad base kt a))).heap = T.heap := Stand.throwing_heap T _ _
  rw [W.findHandler_eq (meth := meth) (code := c) (by rw [e1]; exact hmt) X.code, h1]
  clear h1
  induction pre with
  | nil =>
    subst h4
    rw [List.nil_append]
    exact mv_go_cold (c := D.1 ci) (cell := cell) h3 (by rw [h5]; exact hct) (by rw [h5, e1]; exact hg₁) (by rw [e1]; exact hsz) (by rw [e2, hT]; exact q1) (fun z => by rw [q3]; exact fun q => by cases q) ⟨k1, by rw [q2]; exact hk1⟩ ⟨k1, hk1⟩ (by rw [q2]; exact va_asg _ _)
  | cons z r ih =>
    rw [List.cons_append, W.findHandler_go_skip (h2 z List.mem_cons_self)]
    exact ih (fun w hw => h2 w (List.mem_cons_of_mem _ hw))
end MVC
end
section
/-! the small machine: calls -/
section
variable (G : mv_G) (y pc : Nat) (l : List (Nat × Value)) (st : List Value) (hp : List va_E) (cb sb : Nat)
def mv_callS (idx : Nat) : Option mv_R := match mv_gC G y idx with
  | some (kd, z, n) => if (kd = 0 ∨ kd = 1) ∧ n ≤ st.length then some (.inr (.inl (z, (st.take n).reverse, st.drop n, 3))) else none
  | none => none
def mv_callV (idx : Nat) : Option mv_R := match mv_gC G y idx with
  | some (kd, z, n) => match st.drop n with
    | .ref a :: r => match hp[a]? with
      | some (.inr (ci, _)) => if (kd = 2 ∨ kd = 3) ∧ ci = mv_gW G z then some (.inr (.inl (z, .ref a :: (st.take n).reverse, r, 3))) else none
      | _ => none
    | _ => none
  | none => none
def mv_callI (idx : Nat) : Option mv_R := match mv_gC G y idx with
  | some (kd, z, n) => match st.drop n with
    | .ref a :: r => if kd = 4 ∨ kd = 5 then some (.inr (.inl (z, .ref a :: (st.take n).reverse, r, 3))) else none
    | _ => none
  | none => none
end
/-- a method's code is in the tables -/
def mv_okM (Nm : Nat → MethodName) (Cd : Nat → ByteArray) (Ts : List Cond) (G : mv_G) (z : Nat) : Prop := ((Cond.code (Nm z) (Cd z) (mv_gL G z) (mv_gR G z) ∈ Ts ∧ mv_gH G z = []) ∨ Cond.codeWith (Nm z) (Cd z) (mv_gL G z) (mv_gR G z) (mv_gH G z) ∈ Ts) ∧ plainFor (Nm z) = true ∧ ((Nm z).cls ≠ "java/lang/invoke/MethodHandle" ∧ (Nm z).cls ≠ "java/lang/invoke/VarHandle")
def mv_okK (Ts : List Cond) (own : String) (idx : Nat) (x : MethodName) : Prop := Cond.methodLink own idx x ∈ Ts ∨ ∃ host : String, Cond.methodLinkNest own idx x host ∈ Ts
def mv_okN (x : MethodName) (n : Nat) : Prop := ∀ sig, parseMethodDescriptor x.desc = some sig → n = sig.parameters.length
def mv_okS (Nm : Nat → MethodName) (Ts : List Cond) (own : String) (idx z n : Nat) : Prop := mv_okK Ts own idx (Nm z) ∧ Cond.static (Nm z) ∈ Ts ∧ Cond.initialized (Nm z).cls ∈ Ts ∧ mv_okN (Nm z) n
def mv_okV (Nm : Nat → MethodName) (cl : List vw_C) (Ts : List Cond) (G : mv_G) (own : String) (idx z n : Nat) : Prop := mv_okK Ts own idx (Nm z) ∧ Cond.instanceMethod (Nm z) ∈ Ts ∧ Cond.selects (Nm z).cls (Nm z) (Nm z) ∈ Ts ∧ (∃ (T : u_T) (N : Nat), cl[mv_gW G z]? = some ((Nm z).cls, T, N)) ∧ mv_okN (Nm z) n
def mv_okI (Nm : Nat → MethodName) (Cd : Nat → ByteArray) (Ts : List Cond) (G : mv_G) (own : String) (idx z n : Nat) : Prop := mv_okK Ts own idx (Nm z) ∧ Cond.instanceMethod (Nm z) ∈ Ts ∧ (Nm z).name = "<init>" ∧ Cond.code (Nm z) (Cd z) (mv_gL G z) none ∈ Ts ∧ mv_okN (Nm z) n
/-- a method's code in a state whose tables hold its word -/
theorem mv_meth {Nm : Nat → MethodName} {Cd : Nat → ByteArray} {Ts : List Cond} {G : mv_G} {z : Nat} {s : State} {args : Array Value} (hok : mv_okM Nm Cd Ts G z) (hts : ∀ w ∈ Ts, w.before args s = true) : ∃ (mk : MethodId) (methk : Method) (ck : Code), s.methodNamed? (Nm z) = some mk ∧ s.vm.method? mk = some methk ∧ methk.code = some ck ∧ ck.code = Cd z ∧ ck.maxLocals = mv_gL G z ∧ methk.sig.returnType = mv_gR G z ∧ methk.locks = false ∧ ck.exceptionTable.toList.map mv_proj = mv_gH G z ∧ parseMethodDescriptor (Nm z).desc = some methk.sig := by
  obtain ⟨h | h, -⟩ := hok
  · obtain ⟨mk, hn⟩ := Cond.code_named (hts _ h.1)
    obtain ⟨methk, ck, h1, h2, h3, h4, h5, h6, h7, h8⟩ := Cond.code_spec hn (hts _ h.1)
    refine ⟨mk, methk, ck, hn, h1, h2, h3, h4, h5, h6, ?_, h8⟩
    have h0 : ck.exceptionTable.size = 0 := by simpa [Array.isEmpty] using h7
    have h9 : ck.exceptionTable.toList = [] := List.eq_nil_of_length_eq_zero (by simpa using h0)
    rw [h9, h.2]
    rfl
  · obtain ⟨mk, methk, ck, hn, h1, h2, h3, h4, h5, h6, h7, h8⟩ := Cond.codeWith_spec (hts _ h)
    exact ⟨mk, methk, ck, hn, h1, h2, h3, h4, h6, h7, h5, h8⟩
section MVA
variable {base : Nat} {ad dA : Nat → Nat} {D : va_G} {cl : List vw_C} {p : Program} {l : Launch} {e : Env} {R : Room} {s : State} {m : MethodId} {args : Array Value} {below : List Frame} {meth : Method} {c : Code} {cc : ByteArray} {G : mv_G} {y pc : Nat} {st : List Value} {T : State} {locs : List Loc} {cells slots : Nat} {ls : Array Slot} {Nm : Nat → MethodName} {Cd : Nat → ByteArray} {Ts : List Cond} {own : String} {idx z n : Nat}
/-- the real machine comes to the invocation of z with these arguments, r on the stack below them -/
def mv_Arr (p : Program) (l : Launch) (e : Env) (R : Room) (s : State) (m : MethodId) (args : Array Value) (below : List Frame) (meth : Method) (c : Code) (T : State) (locs : List Loc) (cells slots : Nat) (x : MethodName) (pc : Nat) (ls : Array Slot) (stk : List Value) (as r : List Value) : Prop :=
  ∃ (mk : MethodId) (vm₁ : Vm), Stand p l e R s m args below meth c (T.setVm vm₁) locs cells slots ∧ s.methodNamed? x = some mk ∧ ∀ target, Steps p.tables e below (doInvoke e ((T.setVm vm₁).setTop (F0 m pc ls r)) [] mk as.toArray).1 target → Steps p.tables e below (T.setTop (F0 m pc ls stk)) target
theorem mv_split (ad : Nat → Nat) (st : List Value) (n : Nat) : st.map (mv_v ad) = ((st.take n).reverse.map (mv_v ad)).reverse ++ (st.drop n).map (mv_v ad) := by
  rw [List.map_reverse, List.reverse_reverse, ← List.map_append, List.take_append_drop]
theorem mv_arrS (X : Stand p l e R s m args below meth c T locs cells slots) (hx : p.tables.exec = Jvm.exec) (hb : c.code = cc) (hown : s.vm.findClass own = some m.cls) (hts : ∀ w ∈ Ts, w.before args s = true) (hM : mv_okM Nm Cd Ts G z) (hok : mv_okS Nm Ts own idx z n) (hn : n ≤ st.length) (hdg : decode cc pc = .ok (.invokestatic idx, 3)) :
    mv_Arr p l e R s m args below meth c T locs cells slots (Nm z) pc ls (st.map (mv_v ad)) ((st.take n).reverse.map (mv_v ad)) ((st.drop n).map (mv_v ad)) := by
  obtain ⟨mk, methk, ck, hnm, h1, h2, h3, h4, h5, h6, h7, h8⟩ := mv_meth hM hts
  obtain ⟨hl, o1, o2, o3⟩ := hok
  have hstatic : methk.isStatic = true := Cond.static_spec hnm h1 (hts _ o1)
  obtain ⟨kP, hkP, -⟩ := className_of_methodNamed hnm
  have hinitP : kP.init = .initialized := Cond.initialized_spec (findClass_of_methodNamed hnm) hkP (hts _ o2)
  have hlen : ((st.take n).reverse.map (mv_v ad)).length = methk.sig.parameters.length := by
    rw [List.length_map, List.length_reverse, List.length_take, Nat.min_eq_left hn]
    exact o3 _ h8
  rcases hl with hl | ⟨host, hl⟩
  · obtain ⟨vm₁, X₁, st₁⟩ := X.invokestatic hx hown (hts _ hl) hnm h1 hstatic hkP hinitP hM.2.2 (g := F0 m pc ls (st.map (mv_v ad))) rfl hlen (mv_split ad st n) (by rw [hb]; exact hdg)
    exact ⟨mk, vm₁, X₁, hnm, fun target h => st₁ target fun acts => by rw [doInvoke_state]; exact h⟩
  · obtain ⟨vm₁, X₁, st₁⟩ := X.invokestaticNest hx hown (hts _ hl) hnm h1 hstatic hkP hinitP hM.2.2 (g := F0 m pc ls (st.map (mv_v ad))) rfl hlen (mv_split ad st n) (by rw [hb]; exact hdg)
    exact ⟨mk, vm₁, X₁, hnm, fun target h => st₁ target fun acts => by rw [doInvoke_state]; exact h⟩
theorem mv_split1 {ad : Nat → Nat} {st : List Value} {n a : Nat} {r : List Value} (h : st.drop n = .ref a :: r) : st.map (mv_v ad) = ((st.take n).reverse.map (mv_v ad)).reverse ++ .ref (ad a) :: r.map (mv_v ad) ∧ n ≤ st.length := by
  refine ⟨?_, ?_⟩
  · rw [mv_split ad st n, h]
    rfl
  · rcases Nat.le_total n st.length with q | q
    · exact q
    · rw [List.drop_eq_nil_of_le q] at h
      cases h
theorem mv_arrV (X : Stand p l e R s m args below meth c T locs cells slots) (hx : p.tables.exec = Jvm.exec) (hb : c.code = cc) (hown : s.vm.findClass own = some m.cls) (hts : ∀ w ∈ Ts, w.before args s = true) (hM : mv_okM Nm Cd Ts G z) (hok : mv_okV Nm cl Ts G own idx z n) {tys : List (ClassId × FieldType)} (hK : va_K D cl tys s) {a : Nat} {fs r : List Value} (hst : st.drop n = .ref a :: r) (hat : va_at D cl (ad a, .inr (mv_gW G z, fs)) T.heap) (hdg : decode cc pc = .ok (.invokevirtual idx, 3)) :
    mv_Arr p l e R s m args below meth c T locs cells slots (Nm z) pc ls (st.map (mv_v ad)) (.ref (ad a) :: (st.take n).reverse.map (mv_v ad)) (r.map (mv_v ad)) := by
  obtain ⟨mk, methk, ck, hnm, h1, h2, h3, h4, h5, h6, h7, h8⟩ := mv_meth hM hts
  obtain ⟨hl, o1, o2, ⟨T0, N0, o3⟩, o4⟩ := hok
  obtain ⟨mk', methM, hnamed, hmethM, hstM, habM⟩ := Cond.instanceMethod_spec (hts _ o1)
  cases hnm.symm.trans hnamed
  cases h1.symm.trans hmethM
  obtain ⟨hS, hfc, kC, hkC, hkind⟩ := hK.1 _ _ o3
  obtain ⟨rr, r1, cell, q1, q2, q3, q4⟩ := hat
  obtain ⟨c2, r2, m2, g1, g2, g3, g4, kP, hkP, hkPi⟩ := Cond.selects_spec (hts _ o2)
  cases hfc.symm.trans g1
  cases (State.methodFound?_of_named hnm hM.2.2).symm.trans g2
  cases hnm.symm.trans g3
  have hselP : selectMethod e.platform s.vm cell.cls mk = .method mk := by rw [Launch.admits_selectMethod X.admits, q2]; exact g4
  obtain ⟨hs1, hs2⟩ := mv_split1 (ad := ad) hst
  have hlen : ((st.take n).reverse.map (mv_v ad)).length = methk.sig.parameters.length := by
    rw [List.length_map, List.length_reverse, List.length_take, Nat.min_eq_left hs2]
    exact o4 _ h8
  rcases hl with hl | ⟨host, hl⟩
  · obtain ⟨vm₁, X₁, st₁⟩ := X.invokevirtual hx hown (hts _ hl) hnm h1 hstM hkP hkPi hM.2.2 (a := ad a) (cell := cell) q1 (fun q h => by rw [q3] at h; cases h) hselP h1 habM hkP hkPi (g := F0 m pc ls (st.map (mv_v ad))) rfl hlen hs1 (by rw [hb]; exact hdg)
    exact ⟨mk, vm₁, X₁, hnm, fun target h => st₁ target fun acts => by rw [doInvoke_state]; exact h⟩
  · obtain ⟨vm₁, X₁, st₁⟩ := X.invokevirtualNest hx hown (hts _ hl) hnm h1 hstM hkP hkPi hM.2.2 (a := ad a) (cell := cell) q1 (fun q h => by rw [q3] at h; cases h) hselP h1 habM hkP hkPi (g := F0 m pc ls (st.map (mv_v ad))) rfl hlen hs1 (by rw [hb]; exact hdg)
    exact ⟨mk, vm₁, X₁, hnm, fun target h => st₁ target fun acts => by rw [doInvoke_state]; exact h⟩
theorem mv_arrI (X : Stand p l e R s m args below meth c T locs cells slots) (hx : p.tables.exec = Jvm.exec) (hb : c.code = cc) (hown : s.vm.findClass own = some m.cls) (hts : ∀ w ∈ Ts, w.before args s = true) (hM : mv_okM Nm Cd Ts G z) (hok : mv_okI Nm Cd Ts G own idx z n) {a : Nat} {r : List Value} (hst : st.drop n = .ref a :: r) (hdg : decode cc pc = .ok (.invokespecial idx, 3)) :
    mv_Arr p l e R s m args below meth c T locs cells slots (Nm z) pc ls (st.map (mv_v ad)) (.ref (ad a) :: (st.take n).reverse.map (mv_v ad)) (r.map (mv_v ad)) := by
  obtain ⟨hl, o1, o2, o3, o4⟩ := hok
  obtain ⟨hs1, hs2⟩ := mv_split1 (ad := ad) hst
  have hlen : ∀ sig, parseMethodDescriptor (Nm z).desc = some sig → ((st.take n).reverse.map (mv_v ad)).length = sig.parameters.length := fun sig h => by
    rw [List.length_map, List.length_reverse, List.length_take, Nat.min_eq_left hs2]
    exact o4 _ h
  have hpl : e.platform.magicAccessors = ({} : Platform).magicAccessors := by rw [X.admits.platform]
  rcases hl with hl | ⟨host, hl⟩
  · obtain ⟨mk, methM, cM, kP, vm₁, hnamed, -, -, -, -, -, -, -, hW₁, st₁⟩ := Steps.initColdArgs (tb := p.tables) (e := e) X.here hx X.warmed hpl hown o2 hM.2.2 (hts _ hl) (hts _ o1) (hts _ o3) (f := F0 m pc ls (st.map (mv_v ad))) rfl hlen hs1 (by rw [hb]; exact hdg)
    exact ⟨mk, vm₁, X.noted hW₁, hnamed, fun target h => st₁ target fun acts => by rw [doInvoke_state]; exact h⟩
  · obtain ⟨mk, methM, cM, kP, vm₁, hnamed, -, -, -, -, -, -, -, hW₁, st₁⟩ := Steps.initColdArgsNest (tb := p.tables) (e := e) X.here hx X.warmed hpl hown o2 hM.2.2 (hts _ hl) (hts _ o1) (hts _ o3) (f := F0 m pc ls (st.map (mv_v ad))) rfl hlen hs1 (by rw [hb]; exact hdg)
    exact ⟨mk, vm₁, X.noted hW₁, hnamed, fun target h => st₁ target fun acts => by rw [doInvoke_state]; exact h⟩
end MVA
end
section
/-! the small machine: constants; stores of references; the premises on the tables -/
section
variable (G : mv_G) (y pc : Nat) (l : List (Nat × Value)) (st : List Value) (hp : List va_E) (cb sb : Nat)
def mv_ldc (idx len : Nat) : Option mv_R := match mv_gK G y idx with
  | some (.int v) => some (.inl (pc + len, l, .int v :: st, hp, cb, sb))
  | some (.ref a) => some (.inl (pc + len, l, .ref a :: st, hp, cb, sb))
  | _ => none
def mv_aast : Option mv_R := match st with
  | v :: .int i :: .ref a :: r => match hp[a]? with
    | some (.inl (t, n, .inr (.inr (.inr (.inr g))))) => match mv_gE G t with
      | some ci => if mv_out i n = false then match v with
          | .null => some (.inl (pc + 1, l, r, hp.set a (.inl (t, n, .inr (.inr (.inr (.inr (va_up g i.toNatClampNeg none)))))), cb, sb))
          | .ref b => match hp[b]? with
            | some (.inr (cj, _)) => if cj = ci then some (.inl (pc + 1, l, r, hp.set a (.inl (t, n, .inr (.inr (.inr (.inr (va_up g i.toNatClampNeg (some b))))))), cb, sb)) else none
            | _ => none
          | _ => none
        else none
      | none => none
    | _ => none
  | _ => none
end
/-- the types of arrays -/
def mv_okL (L : List FieldType) (Ts : List Cond) (G : mv_G) : Prop := L[0]? = some .int ∧ L[1]? = some .byte ∧ L[2]? = some .boolean ∧ Cond.arrayClass .int ∈ Ts ∧ Cond.arrayClass .byte ∈ Ts ∧ Cond.arrayClass .boolean ∈ Ts ∧ (∀ t ty, mv_gY G t = some ty → L[t]? = some ty) ∧ ∀ t t2, mv_gB G t = some t2 → ∃ ty : FieldType, (ty = .byte ∨ ty = .array .byte) ∧ L[t]? = some (.array ty) ∧ L[t2]? = some ty ∧ Cond.arrayOver (.array ty) ∈ Ts
/-- the class of the places of an array of objects -/
def mv_okE (cl : List vw_C) (L : List FieldType) (G : mv_G) : Prop := ∀ t ci, mv_gE G t = some ci → ∃ (C : String) (T : u_T) (N : Nat), cl[ci]? = some (C, T, N) ∧ L[t]? = some (.object C)
/-- constants of text, as a state has them -/
def mv_okT (Nm : Nat → MethodName) (G : mv_G) (kt : Nat → Nat) (s : State) (y : Nat) : Prop := ∀ idx a, mv_gK G y idx = some (.ref a) → mv_big ≤ a ∧ ∃ tx : String, vk_R (Nm y).cls idx tx (kt (a - mv_big)) s
def mv_okQ (Nm : Nat → MethodName) (cl : List vw_C) (Ts : List Cond) (y idx ci k : Nat) : Prop := ∃ (C : String) (T : u_T) (N : Nat), cl[ci]? = some (C, T, N) ∧ (T k).1 = (Nm y).cls ∧ Cond.fieldLink (Nm y).cls idx (T k).1 (T k).2.1 (T k).2.2.1 ∈ Ts ∧ (Nm y).name = "<init>"
theorem mv_okP_of {Nm : Nat → MethodName} {cl : List vw_C} {Ts : List Cond} {y idx ci k : Nat} {meth : Method} (hname : meth.name = (Nm y).name) (h : mv_okQ Nm cl Ts y idx ci k) : mv_okP cl Ts meth (Nm y).cls idx ci k := by
  obtain ⟨C, T, N, h1, h2, h3, h4⟩ := h
  exact ⟨C, T, N, h1, h2, h3, hname.trans h4⟩
/-- a constant pool number of arrays of arrays: of two dimensions (types t, t1), or of three -/
def mv_okGr (L : List FieldType) (Ts : List Cond) (own : String) (idx t t1 t2 : Nat) : Prop := ∃ ty : FieldType, (ty = .int ∨ ty = .byte) ∧ Cond.arrayClass ty ∈ Ts ∧ ((t2 = 0 ∧ L[t]? = some (.array ty) ∧ L[t1]? = some ty ∧ Cond.arrayOver (.array ty) ∈ Ts ∧ Cond.classLink own idx ("[" ++ (FieldType.array ty).toString) ∈ Ts) ∨ (0 < t2 ∧ L[t]? = some (.array (.array ty)) ∧ L[t1]? = some (.array ty) ∧ L[t2]? = some ty ∧ Cond.arrayOver (.array (.array ty)) ∈ Ts ∧ Cond.arrayOver (.array ty) ∈ Ts ∧ Cond.classLink own idx ("[" ++ (FieldType.array (.array ty)).toString) ∈ Ts))
/-- the tables are right: instructions; fields; new; new arrays; constants; arrays of arrays; calls; handlers -/
def mv_okG (Nm : Nat → MethodName) (Cd : Nat → ByteArray) (cl : List vw_C) (L : List FieldType) (Ts : List Cond) (G : mv_G) : Prop :=
  (∀ y pc i n, mv_gI G y pc = some (i, n) → decode (Cd y) pc = .ok (i, n)) ∧
  (∀ y idx ci k, mv_gF G y idx = some (ci, k) → mv_okF cl Ts (Nm y).cls idx ci k ∧ mv_okC cl Ts G ci ∧ (mv_gP G ci k = true → mv_gQ G y ci = true → mv_okQ Nm cl Ts y idx ci k)) ∧
  (∀ y idx ci, mv_gN G y idx = some ci → mv_okC cl Ts G ci ∧ ∀ (C : String) (T : u_T) (N : Nat), cl[ci]? = some (C, T, N) → Cond.classLink (Nm y).cls idx C ∈ Ts ∧ Cond.instantiable C (mv_gZ G ci) ∈ Ts ∧ Cond.initialized C ∈ Ts) ∧
  (∀ y idx t, mv_gA G y idx = some t → (∃ C : String, L[t]? = some (.object C) ∧ Cond.classLink (Nm y).cls idx C ∈ Ts ∧ Cond.arrayOver (.object C) ∈ Ts) ∨ ∃ ty : FieldType, L[t]? = some (.array ty) ∧ Cond.classLink (Nm y).cls idx (FieldType.array ty).toString ∈ Ts ∧ Cond.arrayOver (.array ty) ∈ Ts) ∧
  (∀ y idx v, mv_gK G y idx = some (.int v) → Cond.constant (Nm y).cls idx v ∈ Ts) ∧
  (∀ y idx t t1 t2, mv_gM G y idx = some (t, t1, t2) → mv_okGr L Ts (Nm y).cls idx t t1 t2) ∧
  (∀ y idx kd z n, mv_gC G y idx = some (kd, z, n) → (kd = 0 ∨ kd = 1 → mv_okM Nm Cd Ts G z ∧ mv_okS Nm Ts (Nm y).cls idx z n) ∧ (kd = 2 ∨ kd = 3 → mv_okM Nm Cd Ts G z ∧ mv_okV Nm cl Ts G (Nm y).cls idx z n) ∧ (kd = 4 ∨ kd = 5 → mv_okM Nm Cd Ts G z ∧ mv_okI Nm Cd Ts G (Nm y).cls idx z n)) ∧
  (∀ y pc h ct, mv_hand (mv_gH G y) pc = some (h, ct) → ct ≠ 0 ∧ ∃ (C : String) (T : u_T) (N : Nat), cl[mv_gX G]? = some (C, T, N) ∧ Cond.classLink (Nm y).cls ct C ∈ Ts)
section MVL
variable {base : Nat} {kt dA : Nat → Nat} {D : va_G} {cl : List vw_C} {nL : Nat} {p : Program} {l : Launch} {e : Env} {R : Room} {s : State} {m : MethodId} {args : Array Value} {below : List Frame} {meth : Method} {c : Code} {Q : State → Prop} {cc : ByteArray} {G : mv_G} {y pc : Nat} {lo : List (Nat × Value)} {st : List Value} {hp : List va_E} {cb sb : Nat} {S : mv_S} {Nm : Nat → MethodName} {Ts : List Cond} {L : List FieldType}
theorem mv_ldcwS {H : Heap} {locs : List Loc} {cells slots : Nat} {ls : Array Slot} {rest : List Value} (hx : p.tables.exec = Jvm.exec) (hb : c.code = cc) {own tx : String} {index q : Nat} (hown : s.vm.findClass own = some m.cls) (hZ : vk_R own index tx q s) (hdg : decode cc pc = .ok (.ldc_w index, 3))
    (k : W p l e R s m args below meth c H locs cells slots Q (F0 m (pc + 3) ls (.ref q :: rest))) : W p l e R s m args below meth c H locs cells slots Q (F0 m pc ls rest) := by
  intro T hT X
  obtain ⟨t, a1, b1⟩ := k T hT X
  obtain ⟨kk, cf, i, a', hk, hcf, hcp, -, hr, hev'⟩ := Cond.stringRef_spec hown hZ.1
  cases hZ.2.symm.trans hev'
  obtain ⟨k', hk', he⟩ := X.warmed.alike.2.2 _ _ hk
  have hr' : k'.resolved[index]? = some (some (.string q)) := by
    rcases X.warmed.entry hk hk' index with h | ⟨h, -⟩
    · rw [h]; exact hr
    · rw [hr] at h; cases h
  refine ⟨t, ?_, b1⟩
  jvm_step X.here [X.here.top, hx, hb, hdg, ldc_w.wp_string (e := e) (s := T) (f := F0 m pc ls rest) X.here.top hk' (by rw [he]; exact hcf) hcp hr']
  exact a1
theorem mv_ldc_v {idx len : Nat} (hok : ∀ v, mv_gK G y idx = some (.int v) → Cond.constant (Nm y).cls idx v ∈ Ts) (hT : ∀ a, mv_gK G y idx = some (.ref a) → mv_big ≤ a ∧ ∃ tx : String, vk_R (Nm y).cls idx tx (kt (a - mv_big)) s) (h : mv_ldc G y pc lo st hp cb sb idx len = some (.inl S)) : (∃ v, S = (pc + len, lo, .int v :: st, hp, cb, sb) ∧ Cond.constant (Nm y).cls idx v ∈ Ts) ∨ ∃ (a : Nat) (tx : String), S = (pc + len, lo, .ref a :: st, hp, cb, sb) ∧ mv_ad base kt a = kt (a - mv_big) ∧ vk_R (Nm y).cls idx tx (kt (a - mv_big)) s := by
  unfold mv_ldc at h
  split at h
  · rename_i v hv
    cases h
    exact Or.inl ⟨v, rfl, hok _ hv⟩
  · rename_i a hv
    cases h
    obtain ⟨h1, tx, h2⟩ := hT _ hv
    exact Or.inr ⟨a, tx, rfl, by rw [mv_ad, if_neg (by omega)], h2⟩
  · cases h
theorem mr_ldc (hx : p.tables.exec = Jvm.exec) (hb : c.code = cc) (hts : ∀ w ∈ Ts, w.before args s = true) (hown : s.vm.findClass (Nm y).cls = some m.cls) {idx : Nat} (hdg : decode cc pc = .ok (.ldc idx, 2)) (hok : ∀ v, mv_gK G y idx = some (.int v) → Cond.constant (Nm y).cls idx v ∈ Ts) (hT : ∀ a, mv_gK G y idx = some (.ref a) → mv_big ≤ a ∧ ∃ tx : String, vk_R (Nm y).cls idx tx (kt (a - mv_big)) s)
    (h : mv_ldc G y pc lo st hp cb sb idx 2 = some (.inl S)) (k : mv_K base (mv_ad base kt) dA D cl nL p l e R s m args below meth c Q S) : mv_K base (mv_ad base kt) dA D cl nL p l e R s m args below meth c Q (pc, lo, st, hp, cb, sb) := by
  intro H ls locs cells slots I
  rcases mv_ldc_v (base := base) hok hT h with ⟨v, rfl, hc⟩ | ⟨a, tx, rfl, ha, hc⟩
  · exact lv_ldc hx hb hown (hts _ hc) hdg (k H ls locs cells slots I)
  · have hk := k H ls locs cells slots I
    refine va_ldcS hx hb hown hc hdg ?_
    rw [← ha]
    exact hk
theorem mr_ldcw (hx : p.tables.exec = Jvm.exec) (hb : c.code = cc) (hts : ∀ w ∈ Ts, w.before args s = true) (hown : s.vm.findClass (Nm y).cls = some m.cls) {idx : Nat} (hdg : decode cc pc = .ok (.ldc_w idx, 3)) (hok : ∀ v, mv_gK G y idx = some (.int v) → Cond.constant (Nm y).cls idx v ∈ Ts) (hT : ∀ a, mv_gK G y idx = some (.ref a) → mv_big ≤ a ∧ ∃ tx : String, vk_R (Nm y).cls idx tx (kt (a - mv_big)) s)
    (h : mv_ldc G y pc lo st hp cb sb idx 3 = some (.inl S)) (k : mv_K base (mv_ad base kt) dA D cl nL p l e R s m args below meth c Q S) : mv_K base (mv_ad base kt) dA D cl nL p l e R s m args below meth c Q (pc, lo, st, hp, cb, sb) := by
  intro H ls locs cells slots I
  rcases mv_ldc_v (base := base) hok hT h with ⟨v, rfl, hc⟩ | ⟨a, tx, rfl, ha, hc⟩
  · exact lv_ldcw hx hb hown (hts _ hc) hdg (k H ls locs cells slots I)
  · have hk := k H ls locs cells slots I
    refine mv_ldcwS hx hb hown hc hdg ?_
    rw [← ha]
    exact hk
theorem mv_up_map (f : Nat → Option Nat) (k : Nat) (v : Option Nat) (ad : Nat → Nat) : (fun i => (va_up f k v i).map ad) = va_up (fun i => (f i).map ad) k (v.map ad) := by
  funext i
  unfold va_up
  split <;> rfl
theorem mr_aast (hx : p.tables.exec = Jvm.exec) (hb : c.code = cc) (hK : va_K D cl (mv_tys dA L) s) (hE : mv_okE cl L G) (hdg : decode cc pc = .ok (.aastore, 1))
    (h : mv_aast G pc lo st hp cb sb = some (.inl S)) (k : mv_K base (mv_ad base kt) dA D cl nL p l e R s m args below meth c Q S) : mv_K base (mv_ad base kt) dA D cl nL p l e R s m args below meth c Q (pc, lo, st, hp, cb, sb) := by
  intro H ls locs cells slots I
  unfold mv_aast at h
  split at h
  · rename_i v i a r
    split at h
    · rename_i t n g he
      split at h
      · rename_i ci hci
        split at h
        · rename_i ho
          have hin : vp_in i n := fun q => of_decide_eq_false ho q
          have hlt : i.toNatClampNeg < n := Nat.not_le.mp fun q => hin (Or.inr q)
          have h0 : ¬ i < 0 := fun q => hin (Or.inl q)
          obtain ⟨C, T0, N, hC, hLt⟩ := hE _ _ hci
          obtain ⟨t0, ht0⟩ := mv_tys_mem (dA := dA) hLt
          obtain ⟨hat, -, -⟩ := mv_inv_at I he
          have fin : ∀ (H1 : Heap) (o : Option Nat) (i9 : Nat), H1[mv_ad base kt a]? = some ((vp_cell (dA t) (n, .inr (.inr (.inr (.inr (fun i => (g i).map (mv_ad base kt))))))).setSlot i.toNatClampNeg (va_rf (o.map (mv_ad base kt)))) → H1.size = H.size → (∀ q : Nat, q ≠ mv_ad base kt a → H1[q]? = H[q]?) → mv_inv base (mv_ad base kt) dA D cl nL R s (pc + 1, lo, r, hp.set a (.inl (t, n, .inr (.inr (.inr (.inr (va_up g i.toNatClampNeg o)))))), cb, sb) H1 ls (locs ++ [⟨mv_ad base kt a, i9⟩]) cells slots := by
            intro H1 o i9 e1 z oq
            refine mv_inv_put I he ?_ z oq
            show H1[mv_ad base kt a]? = some (vp_cell (dA t) (n, .inr (.inr (.inr (.inr (fun j => (va_up g i.toNatClampNeg o j).map (mv_ad base kt)))))))
            rw [e1, mv_up_map, vp_cell_q, vp_cell_q, arrV_store]
            congr 2
            funext q
            by_cases hq : q = i.toNatClampNeg
            · subst hq
              simp [updV, va_up]
            · simp [updV, va_up, hq]
          split at h
          · cases h
            refine va_WaastN (C := C) hx hb hat ((hK.2 t0 _ ht0).1 n (fun j => va_rf ((g j).map (mv_ad base kt)))) (fun q => by cases q) (by show ¬ (i < 0 ∨ (arrV _ _ _).slots.size ≤ _); rw [arrV_size]; exact hin) rfl rfl hdg fun H1 e1 z oq => k H1 ls _ cells slots (fin H1 none _ e1 z oq)
          · rename_i b
            split at h
            · rename_i cj fs hb0
              split at h
              · rename_i hcj
                subst hcj
                cases h
                obtain ⟨hbt, -, -⟩ := mv_inv_at I hb0
                obtain ⟨rr, r1, cellV, g1, g2, g3, -⟩ := hbt
                have hcls := (hK.1 cj _ hC).2
                obtain ⟨kA, comp, k1, k2, k3, -⟩ := (hK.2 t0 _ ht0).2
                have hcomp : comp = D.1 cj := Option.some.inj (k3.symm.trans hcls.1)
                subst hcomp
                obtain ⟨kC, hkC, -⟩ := hcls.2
                refine W.aast hx hb hat (fun q h => by cases h) (fun h => by cases h) k1 k2 rfl hkC ⟨h0, by show _ < (arrV _ _ _).slots.size; rw [arrV_size]; exact hlt⟩ g1 (fun q h => by rw [g3] at h; cases h) (by rw [g2]; exact hkC) (by rw [g2]; exact va_assign hcls) rfl rfl hdg fun H1 e1 z oq => k H1 ls _ cells slots (fin H1 (some b) _ e1 z oq)
              · cases h
            · cases h
          · cases h
        · cases h
      · cases h
    · cases h
  · cases h
end MVL
end
section
/-! the small machine: arrays of arrays -/
/-- n rows of k numbers, behind the pointers below q -/
def mv_rows (t1 k : Nat) (n : Nat) : List va_E := List.replicate n (.inl (t1, k, .inl (fun _ => 0)))
def mv_outer (t n q w : Nat) : va_E := .inl (t, n, .inr (.inr (.inr (.inr (fun i => if i < n then some (q + i * w) else none)))))
def mv_grid2 (t t1 n k q : Nat) : List va_E := mv_outer t n (q + 1) 1 :: mv_rows t1 k n
def mv_blocks (t1 t2 k j q : Nat) : Nat → List va_E
  | 0 => []
  | i + 1 => mv_blocks t1 t2 k j q i ++ mv_grid2 t1 t2 k j (q + i * (k + 1))
def mv_grid3 (t t1 t2 n k j q : Nat) : List va_E := mv_outer t n (q + 1) (k + 1) :: mv_blocks t1 t2 k j (q + 1) n
def mv_multi (G : mv_G) (y pc : Nat) (l : List (Nat × Value)) (st : List Value) (hp : List va_E) (cb sb idx d : Nat) : Option mv_R := match mv_gM G y idx with
  | some (t, t1, t2) => match st with
    | .int k :: .int n :: r => if d = 2 then
        if t2 = 0 ∧ ¬ n < 0 ∧ ¬ k < 0 ∧ n.toNatClampNeg ≤ 65536 ∧ k.toNatClampNeg ≤ 65536 ∧ 1 + n.toNatClampNeg ≤ cb ∧ n.toNatClampNeg + n.toNatClampNeg * k.toNatClampNeg ≤ sb then
          some (.inl (pc + 4, l, .ref hp.length :: r, hp ++ mv_grid2 t t1 n.toNatClampNeg k.toNatClampNeg hp.length, cb - (1 + n.toNatClampNeg), sb - (n.toNatClampNeg + n.toNatClampNeg * k.toNatClampNeg)))
        else none
      else match r with
        | .int z :: r => if d = 3 ∧ 0 < t2 ∧ ¬ z < 0 ∧ ¬ n < 0 ∧ ¬ k < 0 ∧ z.toNatClampNeg ≤ 65536 ∧ n.toNatClampNeg ≤ 65536 ∧ k.toNatClampNeg ≤ 65536 ∧ 1 + z.toNatClampNeg * (n.toNatClampNeg + 1) ≤ cb ∧ z.toNatClampNeg + z.toNatClampNeg * (n.toNatClampNeg + n.toNatClampNeg * k.toNatClampNeg) ≤ sb then
            some (.inl (pc + 4, l, .ref hp.length :: r, hp ++ mv_grid3 t t1 t2 z.toNatClampNeg n.toNatClampNeg k.toNatClampNeg hp.length, cb - (1 + z.toNatClampNeg * (n.toNatClampNeg + 1)), sb - (z.toNatClampNeg + z.toNatClampNeg * (n.toNatClampNeg + n.toNatClampNeg * k.toNatClampNeg))))
          else none
        | _ => none
    | _ => none
  | none => none
theorem mv_grid2_len (t t1 n k q : Nat) : (mv_grid2 t t1 n k q).length = 1 + n := by
  unfold mv_grid2 mv_rows
  rw [List.length_cons, List.length_replicate]
  omega
theorem mv_blocks_len (t1 t2 k j q : Nat) : ∀ n, (mv_blocks t1 t2 k j q n).length = n * (k + 1)
  | 0 => by rw [Nat.zero_mul]; rfl
  | n + 1 => by
    unfold mv_blocks
    rw [List.length_append, mv_blocks_len t1 t2 k j q n, mv_grid2_len, Nat.succ_mul]
    omega
theorem mv_blocks_at (t1 t2 k j q : Nat) : ∀ (n x : Nat) (e : va_E), (mv_blocks t1 t2 k j q n)[x]? = some e → ∃ i r, i < n ∧ x = i * (k + 1) + r ∧ (mv_grid2 t1 t2 k j (q + i * (k + 1)))[r]? = some e
  | 0, x, e, h => by simp [mv_blocks] at h
  | n + 1, x, e, h => by
    unfold mv_blocks at h
    by_cases hx : x < n * (k + 1)
    · rw [List.getElem?_append_left (by rw [mv_blocks_len]; exact hx)] at h
      obtain ⟨i, r, h1, h2, h3⟩ := mv_blocks_at t1 t2 k j q n x e h
      exact ⟨i, r, by omega, h2, h3⟩
    · rw [List.getElem?_append_right (by rw [mv_blocks_len]; omega), mv_blocks_len] at h
      exact ⟨n, x - n * (k + 1), by omega, by omega, h⟩
theorem mv_grid2_at {t t1 n k q r : Nat} {e : va_E} (h : (mv_grid2 t t1 n k q)[r]? = some e) : (r = 0 ∧ e = mv_outer t n (q + 1) 1) ∨ ∃ x, x < n ∧ r = x + 1 ∧ e = .inl (t1, k, .inl (fun _ => 0)) := by
  unfold mv_grid2 mv_rows at h
  cases r with
  | zero =>
    cases h
    exact Or.inl ⟨rfl, rfl⟩
  | succ x =>
    rw [List.getElem?_cons_succ, List.getElem?_replicate] at h
    split at h
    · rename_i hx
      cases h
      exact Or.inr ⟨x, hx, rfl, rfl⟩
    · cases h
/-- the outer row of a grid, its first i places laid, w apart -/
def mv_oC (c : ClassId) (N h0 w : Nat) : Nat → Cell
  | 0 => { cls := c, slots := Array.replicate N .null, vm := .none }
  | i + 1 => (mv_oC c N h0 w i).setSlot i (.ref (h0 + 1 + i * w))
theorem mv_oC_eq (c : ClassId) (N h0 w : Nat) : ∀ i : Nat, mv_oC c N h0 w i = arrV c N (fun j => if j < i then .ref (h0 + 1 + j * w) else .null)
  | 0 => by
    show ({ cls := c, slots := Array.replicate N .null, vm := .none } : Cell) = _
    rw [arrV_new]
    refine congrArg (arrV c N) (funext fun j => ?_)
    simp
  | i + 1 => by
    show (mv_oC c N h0 w i).setSlot i (.ref (h0 + 1 + i * w)) = _
    rw [mv_oC_eq c N h0 w i, arrV_store]
    refine congrArg (arrV c N) (funext fun j => ?_)
    by_cases e : j = i
    · subst e
      simp [updV]
    · by_cases h : j < i
      · simp [updV, e, h, Nat.lt_succ_of_lt h]
      · simp [updV, e, h, show ¬ j < i + 1 by omega]
theorem mv_outer1 (c : ClassId) (N h0 : Nat) : ∀ i : Nat, Jvm.Free.Multi.outerC c N h0 i = mv_oC c N h0 1 i
  | 0 => rfl
  | i + 1 => by
    show (Jvm.Free.Multi.outerC c N h0 i).setSlot i (.ref (h0 + 1 + i)) = (mv_oC c N h0 1 i).setSlot i (.ref (h0 + 1 + i * 1))
    rw [mv_outer1 c N h0 i, Nat.mul_one]
theorem mv_oC_facts (c : ClassId) (N h0 w i : Nat) : (mv_oC c N h0 w i).cls = c ∧ (mv_oC c N h0 w i).vm = .none ∧ (mv_oC c N h0 w i).slots.size = N := by
  rw [mv_oC_eq]
  exact ⟨rfl, rfl, arrV_size _ _ _⟩
/-- an outer row in the small machine's words -/
theorem mv_outer_cell {base : Nat} {kt dA : Nat → Nat} {D : va_G} {cl : List vw_C} {H1 : Heap} {a t n q w h0 : Nat} (h : H1[a]? = some (mv_oC (dA t) n h0 w n)) (hq : ∀ i, i < n → mv_ad base kt (q + i * w) = h0 + 1 + i * w) : va_at D cl (a, mv_e (mv_ad base kt) dA (mv_outer t n q w)) H1 := by
  show H1[a]? = some (vp_cell (dA t) (n, .inr (.inr (.inr (.inr (fun i => (if i < n then some (q + i * w) else none).map (mv_ad base kt)))))))
  rw [h, mv_oC_eq, vp_cell_q]
  congr 2
  funext j
  by_cases hj : j < n
  · rw [if_pos hj, if_pos hj, Option.map_some, hq j hj]
    rfl
  · rw [if_neg hj, if_neg hj]
    rfl
theorem mv_inner_cell {base : Nat} {kt dA : Nat → Nat} {D : va_G} {cl : List vw_C} {H1 : Heap} {a t k : Nat} {dv : Value} (hd : dv = .int 0) (h : H1[a]? = some (Jvm.Free.Multi.innerC (dA t) k dv)) : va_at D cl (a, mv_e (mv_ad base kt) dA (.inl (t, k, .inl (fun _ => 0)))) H1 := by
  show H1[a]? = some (vp_cell (dA t) (k, .inl (fun _ => 0)))
  rw [h, vp_cell_i, hd]
  show some ({ cls := dA t, slots := Array.replicate k (.int 0), vm := .none } : Cell) = _
  rw [arrV_new]
/-! grids of three dimensions, in the real machine -/
def mv_f3 (s : State) (c c1 c2 : ClassId) (N K M : Nat) (dv : Value) : Nat → State
  | 0 => s.pushCell (mv_oC c N s.heap.size (K + 1) 0)
  | i + 1 => (Jvm.Free.Multi.fill (mv_f3 s c c1 c2 N K M dv i) c1 c2 K M dv K).setCell s.heap.size (mv_oC c N s.heap.size (K + 1) (i + 1))
theorem mv_f3_facts (s : State) (c c1 c2 : ClassId) (N K M : Nat) (dv : Value) : ∀ i, (mv_f3 s c c1 c2 N K M dv i).heap.size = s.heap.size + 1 + i * (K + 1) ∧ (mv_f3 s c c1 c2 N K M dv i).heap[s.heap.size]? = some (mv_oC c N s.heap.size (K + 1) i) ∧ (mv_f3 s c c1 c2 N K M dv i).vm = s.vm ∧ (mv_f3 s c c1 c2 N K M dv i).slotsUsed = s.slotsUsed + N + i * (K + K * M)
  | 0 => ⟨by simp [mv_f3], by simp [mv_f3], rfl, by simp [mv_f3, mv_oC]⟩
  | i + 1 => by
    obtain ⟨a, b, d, u⟩ := mv_f3_facts s c c1 c2 N K M dv i
    obtain ⟨f1, f2, f3, f4⟩ := Jvm.Free.Multi.fill_facts (mv_f3 s c c1 c2 N K M dv i) c1 c2 K M dv K
    have hlt : s.heap.size < (mv_f3 s c c1 c2 N K M dv i).heap.size := by omega
    have fo := Jvm.Free.Multi.fill_old (mv_f3 s c c1 c2 N K M dv i) c1 c2 K M dv hlt K
    have hb' : (Jvm.Free.Multi.fill (mv_f3 s c c1 c2 N K M dv i) c1 c2 K M dv K).heap[s.heap.size]? = some (mv_oC c N s.heap.size (K + 1) i) := fo.trans b
    refine ⟨?_, State.heap_setCell_self hb', ?_, ?_⟩
    · show ((Jvm.Free.Multi.fill (mv_f3 s c c1 c2 N K M dv i) c1 c2 K M dv K).setCell _ _).heap.size = _
      rw [size_setCell, f1, a, Nat.succ_mul]
      omega
    · show (Jvm.Free.Multi.fill (mv_f3 s c c1 c2 N K M dv i) c1 c2 K M dv K).vm = _
      rw [f3, d]
    · show (Jvm.Free.Multi.fill (mv_f3 s c c1 c2 N K M dv i) c1 c2 K M dv K).slotsUsed = _
      rw [f4, u, Nat.succ_mul]
      omega
theorem mv_f3_old (s : State) (c c1 c2 : ClassId) (N K M : Nat) (dv : Value) {a : Addr} (ha : a < s.heap.size) : ∀ i, (mv_f3 s c c1 c2 N K M dv i).heap[a]? = s.heap[a]?
  | 0 => State.heap_pushCell_of_lt _ _ ha
  | i + 1 => by
    have f1 := (mv_f3_facts s c c1 c2 N K M dv i).1
    show ((Jvm.Free.Multi.fill (mv_f3 s c c1 c2 N K M dv i) c1 c2 K M dv K).setCell s.heap.size _).heap[a]? = _
    have hlt : a < (mv_f3 s c c1 c2 N K M dv i).heap.size := Nat.lt_of_lt_of_le ha (by rw [f1]; omega)
    rw [State.heap_setCell_other (Nat.ne_of_gt ha), Jvm.Free.Multi.fill_old (mv_f3 s c c1 c2 N K M dv i) c1 c2 K M dv hlt K]
    exact mv_f3_old s c c1 c2 N K M dv ha i
theorem mv_f3_rows (s : State) (c c1 c2 : ClassId) (N K M : Nat) (dv : Value) : ∀ i j, j < i → (mv_f3 s c c1 c2 N K M dv i).heap[s.heap.size + 1 + j * (K + 1)]? = some (mv_oC c1 K (s.heap.size + 1 + j * (K + 1)) 1 K) ∧ ∀ x, x < K → (mv_f3 s c c1 c2 N K M dv i).heap[s.heap.size + 1 + j * (K + 1) + 1 + x]? = some (Jvm.Free.Multi.innerC c2 M dv)
  | 0, _, h => absurd h (Nat.not_lt_zero _)
  | i + 1, j, h => by
    have f1 := (mv_f3_facts s c c1 c2 N K M dv i).1
    obtain ⟨g1, g2, -, -⟩ := Jvm.Free.Multi.fill_facts (mv_f3 s c c1 c2 N K M dv i) c1 c2 K M dv K
    have goal : ∀ a, a ≠ s.heap.size → (mv_f3 s c c1 c2 N K M dv (i + 1)).heap[a]? = (Jvm.Free.Multi.fill (mv_f3 s c c1 c2 N K M dv i) c1 c2 K M dv K).heap[a]? := fun a ha => State.heap_setCell_other (Ne.symm ha)
    rcases Nat.lt_or_ge j i with hj | hj
    · obtain ⟨r1, r2⟩ := mv_f3_rows s c c1 c2 N K M dv i j hj
      have hm : (j + 1) * (K + 1) ≤ i * (K + 1) := Nat.mul_le_mul_right _ hj
      rw [Nat.succ_mul] at hm
      refine ⟨?_, fun x hx => ?_⟩
      · rw [goal (s.heap.size + 1 + j * (K + 1)) (by omega), Jvm.Free.Multi.fill_old (mv_f3 s c c1 c2 N K M dv i) c1 c2 K M dv (show s.heap.size + 1 + j * (K + 1) < (mv_f3 s c c1 c2 N K M dv i).heap.size by rw [f1]; omega) K]
        exact r1
      · rw [goal (s.heap.size + 1 + j * (K + 1) + 1 + x) (by omega), Jvm.Free.Multi.fill_old (mv_f3 s c c1 c2 N K M dv i) c1 c2 K M dv (show s.heap.size + 1 + j * (K + 1) + 1 + x < (mv_f3 s c c1 c2 N K M dv i).heap.size by rw [f1]; omega) K]
        exact r2 x hx
    · have e : j = i := by omega
      subst e
      refine ⟨?_, fun x hx => ?_⟩
      · rw [goal (s.heap.size + 1 + j * (K + 1)) (by omega), ← f1, g2, mv_outer1]
      · rw [goal (s.heap.size + 1 + j * (K + 1) + 1 + x) (by omega), ← f1]
        exact Jvm.Free.Multi.fill_inner (mv_f3 s c c1 c2 N K M dv j) c1 c2 K M dv K x hx
theorem mv_f3_setTop (s : State) (f : JFrame) (c c1 c2 : ClassId) (N K M : Nat) (dv : Value) : ∀ i, mv_f3 (s.setTop f) c c1 c2 N K M dv i = (mv_f3 s c c1 c2 N K M dv i).setTop f
  | 0 => rfl
  | i + 1 => by simp only [mv_f3, mv_f3_setTop s f c c1 c2 N K M dv i, Jvm.Free.Multi.fill_setTop, State.heap_setTop, State.setCell_setTop]
theorem mv_stand3 {p : Program} {l : Launch} {e : Env} {R : Room} {s : State} {m : MethodId} {args : Array Value} {below : List Frame} {meth : Method} {c : Code} {T : State} {locs : List Loc} {cells slots : Nat} (X : Stand p l e R s m args below meth c T locs cells slots) (cA c1 c2 : ClassId) (N K M : Nat) (dv : Value) :
    ∀ i, ∃ locs', (∀ q ∈ locs', q ∈ locs ∨ T.heap.size ≤ q.base) ∧ Stand p l e R s m args below meth c (mv_f3 T cA c1 c2 N K M dv i) locs' (cells + 1 + i * (K + 1)) (slots + N + i * (K + K * M))
  | 0 => by
    have h := X.pushed (mv_oC cA N T.heap.size (K + 1) 0)
    rw [(mv_oC_facts cA N T.heap.size (K + 1) 0).2.2] at h
    exact ⟨locs, fun q hq => Or.inl hq, by simpa [mv_f3] using h⟩
  | i + 1 => by
    obtain ⟨locs', hl, Xi⟩ := mv_stand3 X cA c1 c2 N K M dv i
    obtain ⟨f1, f2, f3, f4⟩ := mv_f3_facts T cA c1 c2 N K M dv i
    have hlt0 : T.heap.size < (mv_f3 T cA c1 c2 N K M dv i).heap.size := by rw [f1]; omega
    have h2 := Xi.filled c1 c2 K M dv K
    have hcell : (Jvm.Free.Multi.fill (mv_f3 T cA c1 c2 N K M dv i) c1 c2 K M dv K).heap[T.heap.size]? = some (mv_oC cA N T.heap.size (K + 1) i) := (Jvm.Free.Multi.fill_old (mv_f3 T cA c1 c2 N K M dv i) c1 c2 K M dv hlt0 K).trans f2
    have h3 := h2.stored hcell i (.ref (T.heap.size + 1 + i * (K + 1)))
    refine ⟨(locs' ++ (List.range K).map fun j => ⟨(mv_f3 T cA c1 c2 N K M dv i).heap.size, j⟩) ++ [⟨T.heap.size, i⟩], fun q hq => ?_, ?_⟩
    rotate_left
    · have e3 : cells + 1 + (i + 1) * (K + 1) = cells + 1 + i * (K + 1) + 1 + K := by rw [Nat.succ_mul]; omega
      have e4 : slots + N + (i + 1) * (K + K * M) = slots + N + i * (K + K * M) + K + K * M := by rw [Nat.succ_mul]; omega
      rw [e3, e4]
      exact h3
    · rcases List.mem_append.mp hq with hq | hq
      · rcases List.mem_append.mp hq with hq | hq
        · exact hl q hq
        · obtain ⟨j, -, rfl⟩ := List.mem_map.mp hq
          exact Or.inr (Nat.le_of_lt hlt0)
      · have := List.mem_singleton.mp hq
        subst this
        exact Or.inr (Nat.le_refl _)
theorem mv_make3 {Et : CtlPost} {e : Env} {d : Bool} {acts : List Action} {s : State} {c c1 c2 cc : ClassId} {k0 k1 k2 : Class} {t0 t1 type : FieldType} {n k m : Int32} (hk : s.vm.classes[c]? = some k0) (hkind : k0.kind = .array c1 t0) (href : t0.isReference = true)
    (hk1 : s.vm.classes[c1]? = some k1) (hkind1 : k1.kind = .array c2 t1) (href1 : t1.isReference = true) (hk2 : s.vm.classes[c2]? = some k2) (hkind2 : k2.kind = .array cc type) (hn : ¬ n < 0) (hkk : ¬ k < 0) (hm : ¬ m < 0)
    (hl0 : ¬ n.toNatClampNeg > e.platform.arrayLengthLimit) (hh0 : ¬ n.toNatClampNeg * componentBytes t0 > e.platform.maxHeapBytes)
    (hl1 : ¬ k.toNatClampNeg > e.platform.arrayLengthLimit) (hh1 : ¬ k.toNatClampNeg * componentBytes t1 > e.platform.maxHeapBytes)
    (hl2 : ¬ m.toNatClampNeg > e.platform.arrayLengthLimit) (hh2 : ¬ m.toNatClampNeg * componentBytes type > e.platform.maxHeapBytes)
    (hdf : fits type (defaultValue type) = true) (hdd : (defaultValue type).isDefault = true)
    (hc : s.heap.size + 1 + n.toNatClampNeg * (k.toNatClampNeg + 1) ≤ e.platform.maxCells) (hs : s.slotsUsed + n.toNatClampNeg + n.toNatClampNeg * (k.toNatClampNeg + k.toNatClampNeg * m.toNatClampNeg) ≤ e.platform.maxSlots)
    {Q : Addr → Pre} (hq : ∀ d' acts', Q s.heap.size d' acts' (mv_f3 s c c1 c2 n.toNatClampNeg k.toNatClampNeg m.toNatClampNeg (defaultValue type) n.toNatClampNeg)) :
    wp (multianewarray.make c [n, k, m]) Q Et e d acts s := by
  have hfind : ([k, m].find? (· < 0)) = none := by simp [hkk, hm]
  rw [multianewarray.make]
  simp only [wp_bind', W.ite, hn, if_false, wp_pure', W.theClass, hk, hkind, Option.some.injEq, exists_eq_left']
  refine Jvm.Free.Multi.wp_newArray hk hkind hl0 hh0 (Jvm.Free.Multi.refFits href _ (Or.inl rfl)) rfl (by omega) (by omega) ?_
  simp only [hfind]
  rw [ite_self, wp_bind', Std.Legacy.Range.forIn_eq_forIn_range']
  have hsz : ([:n.toNatClampNeg] : Std.Legacy.Range).size = n.toNatClampNeg := by simp [Std.Legacy.Range.size]
  rw [hsz]
  show wp (forIn (List.range' 0 n.toNatClampNeg 1) PUnit.unit _) _ Et e d acts _
  refine wp_forIn_inv (fun rest s' => ∃ i, i ≤ n.toNatClampNeg ∧ rest = List.range' i (n.toNatClampNeg - i) ∧ s' = mv_f3 s c c1 c2 n.toNatClampNeg k.toNatClampNeg m.toNatClampNeg (defaultValue type) i) _ _ ⟨0, Nat.zero_le _, rfl, rfl⟩ ?_ ?_
  · rintro x rest s' d' acts' Q' ⟨i, hi, hl, rfl⟩ hnext
    have hlt : i < n.toNatClampNeg := by
      rcases Nat.lt_or_ge i n.toNatClampNeg with h | h
      · exact h
      · rw [show n.toNatClampNeg - i = 0 from by omega] at hl; simp at hl
    obtain ⟨rfl, hrest⟩ : x = i ∧ rest = List.range' (i + 1) (n.toNatClampNeg - (i + 1)) := by
      rw [show n.toNatClampNeg - i = (n.toNatClampNeg - (i + 1)) + 1 from by omega, List.range'_succ] at hl
      exact ⟨(List.cons.inj hl).1, (List.cons.inj hl).2⟩
    obtain ⟨f1, f2, f3, f4⟩ := mv_f3_facts s c c1 c2 n.toNatClampNeg k.toNatClampNeg m.toNatClampNeg (defaultValue type) x
    obtain ⟨o1, o2, o3⟩ := mv_oC_facts c n.toNatClampNeg s.heap.size (k.toNatClampNeg + 1) x
    have hmul : x * (k.toNatClampNeg + 1) + (k.toNatClampNeg + 1) ≤ n.toNatClampNeg * (k.toNatClampNeg + 1) := by
      have := Nat.mul_le_mul_right (k.toNatClampNeg + 1) (show x + 1 ≤ n.toNatClampNeg from hlt)
      rw [Nat.succ_mul] at this; exact this
    have hmul2 : x * (k.toNatClampNeg + k.toNatClampNeg * m.toNatClampNeg) + (k.toNatClampNeg + k.toNatClampNeg * m.toNatClampNeg) ≤ n.toNatClampNeg * (k.toNatClampNeg + k.toNatClampNeg * m.toNatClampNeg) := by
      have := Nat.mul_le_mul_right (k.toNatClampNeg + k.toNatClampNeg * m.toNatClampNeg) (show x + 1 ≤ n.toNatClampNeg from hlt)
      rw [Nat.succ_mul] at this; exact this
    simp only [wp_bind']
    refine Jvm.Free.Multi.wp_make2 (by rw [f3]; exact hk1) hkind1 href1 (by rw [f3]; exact hk2) hkind2 hkk hm hl1 hh1 hl2 hh2 hdf hdd (by rw [f1]; omega) (by rw [f4]; omega) (fun d9 acts9 => ?_)
    have hlt0 : s.heap.size < (mv_f3 s c c1 c2 n.toNatClampNeg k.toNatClampNeg m.toNatClampNeg (defaultValue type) x).heap.size := by rw [f1]; omega
    have fvm := (Jvm.Free.Multi.fill_facts (mv_f3 s c c1 c2 n.toNatClampNeg k.toNatClampNeg m.toNatClampNeg (defaultValue type) x) c1 c2 k.toNatClampNeg m.toNatClampNeg (defaultValue type) k.toNatClampNeg).2.2.1
    simp only [wp_bind', W.writeLoc, wp_pure']
    refine ⟨mv_oC c n.toNatClampNeg s.heap.size (k.toNatClampNeg + 1) x, (Jvm.Free.Multi.fill_old _ c1 c2 _ _ _ hlt0 _).trans f2, by rw [o2]; simp, by rw [o3]; exact hlt, ?_, hnext _ _ _ ⟨x + 1, hlt, hrest, ?_⟩⟩
    · rw [o1, o2]
      simp [State.fitsSlot, State.slotType?, fvm, f3, hk, hkind, Jvm.Free.Multi.refFits href _ (Or.inr ⟨_, rfl⟩)]
    · rw [f1]; rfl
  · rintro s' d' acts' ⟨i, hi, hl, rfl⟩
    have hiN : i = n.toNatClampNeg := by
      rcases Nat.lt_or_ge i n.toNatClampNeg with h | h
      · rw [show n.toNatClampNeg - i = (n.toNatClampNeg - (i + 1)) + 1 from by omega, List.range'_succ] at hl; cases hl
      · omega
    subst hiN
    simp only [wp_pure']
    exact hq _ _
theorem mv_multianewarray3 {p : Program} {l : Launch} {e : Env} {R : Room} {s : State} {m : MethodId} {args : Array Value} {below : List Frame} {meth : Method} {c : Code} {T : State} {locs : List Loc} {cells slots : Nat} (X : Stand p l e R s m args below meth c T locs cells slots) (hexec : p.tables.exec = Jvm.exec) {own : String} {index : Nat} {ty : FieldType}
    (hown : s.vm.findClass own = some m.cls) (hclink : (Cond.classLink own index ("[" ++ (FieldType.array (.array ty)).toString)).before args s = true)
    (hover : (Cond.arrayOver (.array (.array ty))).before args s = true) (hover2 : (Cond.arrayOver (.array ty)).before args s = true) (harr : (Cond.arrayClass ty).before args s = true) (hstr : ("[" ++ (FieldType.array ty).toString) = (FieldType.array (.array ty)).toString)
    {g : JFrame} (hg : g.method = m) (hdg : decode c.code g.pc = .ok (.multianewarray index 3, 4)) {n k z : Int32} {rest : List Value} (hstack : g.stack = .int k :: .int n :: .int z :: rest)
    (hz : ¬ z < 0) (hn : ¬ n < 0) (hk : ¬ k < 0) (hb0 : z.toNatClampNeg * 4 ≤ 536870912) (hb1 : n.toNatClampNeg * 4 ≤ 536870912) (hb2 : k.toNatClampNeg * componentBytes ty ≤ 536870912) (hb3 : k.toNatClampNeg ≤ 536870912)
    (hdf : fits ty (defaultValue ty) = true) (hdd : (defaultValue ty).isDefault = true)
    (hcells : cells + (1 + z.toNatClampNeg * (n.toNatClampNeg + 1)) ≤ R.cells) (hslots : slots + (z.toNatClampNeg + z.toNatClampNeg * (n.toNatClampNeg + n.toNatClampNeg * k.toNatClampNeg)) ≤ R.slots) :
    ∃ (vm₁ : Vm) (cA c1 c2 : ClassId) (locs' : List Loc), (∀ q ∈ locs', q ∈ locs ∨ T.heap.size ≤ q.base) ∧ s.vm.findClass ("[" ++ (FieldType.array (.array ty)).toString) = some cA ∧ s.vm.findClass ("[" ++ (FieldType.array ty).toString) = some c1 ∧ s.vm.findClass (FieldType.array ty).toString = some c2 ∧
      Stand p l e R s m args below meth c (mv_f3 (T.setVm vm₁) cA c1 c2 z.toNatClampNeg n.toNatClampNeg k.toNatClampNeg (defaultValue ty) z.toNatClampNeg) locs' (cells + 1 + z.toNatClampNeg * (n.toNatClampNeg + 1)) (slots + z.toNatClampNeg + z.toNatClampNeg * (n.toNatClampNeg + n.toNatClampNeg * k.toNatClampNeg)) ∧
      ∀ target, Steps p.tables e below ((mv_f3 (T.setVm vm₁) cA c1 c2 z.toNatClampNeg n.toNatClampNeg k.toNatClampNeg (defaultValue ty) z.toNatClampNeg).setTop { g with pc := g.pc + 4, stack := .ref T.heap.size :: rest }) target →
        Steps p.tables e below (T.setTop g) target := by
  subst hg
  have hpl : e.platform.magicAccessors = ({} : Platform).magicAccessors := by rw [X.admits.platform]
  obtain ⟨c1, cA, kA, hc1, hkA, hkindA, hnameA⟩ := Cond.arrayOver_specA hover
  obtain ⟨c2, c1', kB, hc2, hkB, hkindB, hnameB⟩ := Cond.arrayOver_specA hover2
  have e1 : c1' = c1 := by
    rw [hstr] at hnameB
    exact Option.some.inj (hnameB.symm.trans hc1)
  subst e1
  obtain ⟨comp', kC, cc, hcomp', hkC, hkindC⟩ := Cond.arrayClass_spec harr
  have ecomp : comp' = c2 := Option.some.inj (hcomp'.symm.trans hc2)
  subst ecomp
  obtain ⟨c0, hfc0, hcl⟩ := Cond.classLink_spec hown hclink e.platform hpl
  cases hnameA.symm.trans hfc0
  obtain ⟨hg₁, hwarm₁, hready₁⟩ := State.classEntry (e := e) X.warmed hcl
  generalize T.vm.noted g.method.cls index (.cls cA) = vm₁ at hg₁ hwarm₁ hready₁
  have hal : s.vm.Alike vm₁ := hwarm₁.alike
  obtain ⟨kA₁, hkA₁, heA⟩ := hal.2.2 _ _ hkA
  obtain ⟨kB₁, hkB₁, heB⟩ := hal.2.2 _ _ hkB
  obtain ⟨kC₁, hkC₁, heC⟩ := hal.2.2 _ _ hkC
  have hkindA₁ : kA₁.kind = .array c1' (.array (.array ty)) := by rw [heA]; exact hkindA
  have hkindB₁ : kB₁.kind = .array comp' (.array ty) := by rw [heB]; exact hkindB
  have hkindC₁ : kC₁.kind = .array cc ty := by rw [heC]; exact hkindC
  have X₁ := X.noted hwarm₁
  obtain ⟨hr1, hr2⟩ := X.roomAbove hcells hslots
  obtain ⟨locs', hlocs, XF⟩ := mv_stand3 X₁ cA c1' comp' z.toNatClampNeg n.toNatClampNeg k.toNatClampNeg (defaultValue ty) z.toNatClampNeg
  refine ⟨vm₁, cA, c1', comp', locs', hlocs, hnameA, hnameB, hc2, XF, fun target hrest => ?_⟩
  have hl0 : ¬ z.toNatClampNeg > e.platform.arrayLengthLimit := by rw [Launch.admits_arrayLengthLimit X.admits]; omega
  have hh0 : ¬ z.toNatClampNeg * componentBytes (.array (.array ty)) > e.platform.maxHeapBytes := by
    rw [Launch.admits_maxHeapBytes X.admits]; show ¬ z.toNatClampNeg * 4 > 536870912; omega
  have hl1 : ¬ n.toNatClampNeg > e.platform.arrayLengthLimit := by rw [Launch.admits_arrayLengthLimit X.admits]; omega
  have hh1 : ¬ n.toNatClampNeg * componentBytes (.array ty) > e.platform.maxHeapBytes := by
    rw [Launch.admits_maxHeapBytes X.admits]; show ¬ n.toNatClampNeg * 4 > 536870912; omega
  have hl2 : ¬ k.toNatClampNeg > e.platform.arrayLengthLimit := by rw [Launch.admits_arrayLengthLimit X.admits]; omega
  have hh2 : ¬ k.toNatClampNeg * componentBytes ty > e.platform.maxHeapBytes := by rw [Launch.admits_maxHeapBytes X.admits]; omega
  jvm_step X.here [hexec, hdg]
  simp only [multianewarray.sem, wp_bind', W.resolveClassAt_links (State.method?_setTop g X.here.top) hg₁]
  rw [W.popN, if_neg (by decide)]
  refine ⟨g, State.topJava?_setTop' (s := T.setVm vm₁) g X.here.top, [.int z, .int n, .int k], rest, rfl, hstack, ?_⟩
  simp only [List.mapM_cons, List.mapM_nil, wp_bind', wp_pure']
  refine mv_make3 (k0 := kA₁) (k1 := kB₁) (k2 := kC₁) (c1 := c1') (c2 := comp') (cc := cc) (t0 := .array (.array ty)) (t1 := .array ty) (type := ty) hkA₁ hkindA₁ rfl hkB₁ hkindB₁ rfl hkC₁ hkindC₁ hz hn hk hl0 hh0 hl1 hh1 hl2 hh2 hdf hdd (by show T.heap.size + 1 + _ ≤ _; omega) (by show T.slotsUsed + _ + _ ≤ _; omega) (fun d' acts' => ?_)
  have eS : ((T.setTop g).setVm vm₁).setTop { g with stack := rest } = (T.setVm vm₁).setTop { g with stack := rest } := by
    show ((T.setVm vm₁).setTop g).setTop _ = _
    rw [State.setTop_setTop]
  rw [eS, mv_f3_setTop]
  simp only [wp_bind', W.mark, W.pushRef, State.topJava?_setTop' _ XF.here.top, Option.some.injEq, exists_eq_left', State.setTop_setTop, State.heap_setTop]
  intro acts
  simp [jvm, XF.here.top]
  exact hrest
section MVM
variable {base : Nat} {kt dA : Nat → Nat} {D : va_G} {cl : List vw_C} {nL : Nat} {p : Program} {l : Launch} {e : Env} {R : Room} {s : State} {m : MethodId} {args : Array Value} {below : List Frame} {meth : Method} {c : Code} {Q : State → Prop} {cc : ByteArray} {G : mv_G} {y pc : Nat} {lo : List (Nat × Value)} {st : List Value} {hp : List va_E} {cb sb : Nat} {S : mv_S} {Nm : Nat → MethodName} {Ts : List Cond} {L : List FieldType}
theorem mv_inv_news {H H1 : Heap} {ls : Array Slot} {locs locs' : List Loc} {cells slots pc' n : Nat} {st' : List Value} (I : mv_inv base (mv_ad base kt) dA D cl nL R s (pc, lo, st, hp, cb, sb) H ls locs cells slots) {es : List va_E} (hc : es.length ≤ cb) (hs : n ≤ sb) (he1 : 1 ≤ es.length)
    (he : ∀ (j : Nat) (e1 : va_E), es[j]? = some e1 → va_at D cl (H.size + j, mv_e (mv_ad base kt) dA e1) H1) (z : H1.size = H.size + es.length) (oq : ∀ q : Nat, q < H.size → H1[q]? = H[q]?) (hl : ∀ q ∈ locs', base ≤ q.base) : mv_inv base (mv_ad base kt) dA D cl nL R s (pc', lo, st', hp ++ es, cb - es.length, sb - n) H1 ls locs' (cells + es.length) (slots + n) ∧ mv_ad base kt hp.length = H.size := by
  obtain ⟨i1, i2, i3, i4, i5, i6, i7⟩ := I
  dsimp only at i1 i2 i3 i4 i5 i6 i7
  have hz : mv_ad base kt hp.length = H.size := by
    rw [mv_ad, if_pos (by omega), i3]
  refine ⟨⟨i1, ?_, ?_, ⟨?_, ?_, hl⟩, ?_, ?_, ?_⟩, hz⟩
  · show va_P D cl (mv_w (mv_ad base kt) dA 0 (hp ++ es)) H1
    rw [mv_w_app]
    refine (i2.kept (fun k q hk => oq q.1 ((i2 k q hk).lt))).app (fun k q hk => ?_)
    obtain ⟨e1, h1, rfl⟩ := mv_w_of hk
    have hk2 : k < es.length := (List.getElem?_eq_some_iff.mp h1).1
    have h2 := he k e1 h1
    have h3 : mv_ad base kt (0 + hp.length + k) = H.size + k := by
      rw [mv_ad, if_pos (by omega), i3]
      omega
    rw [h3]
    exact h2
  · show H1.size = base + (hp ++ es).length
    rw [z, i3, List.length_append]
    omega
  · have := i4.1
    omega
  · intro q h1 h2
    exact (oq q (Nat.lt_of_lt_of_le h1 i4.1)).trans (i4.2.1 q h1 h2)
  · show cells + es.length + (cb - es.length) ≤ R.cells
    omega
  · show slots + n + (sb - n) ≤ R.slots
    omega
  · show (hp ++ es).length + (cb - es.length) ≤ mv_big
    rw [List.length_append]
    omega
theorem mr_multi2 (hx : p.tables.exec = Jvm.exec) (hb : c.code = cc) {own : String} (hown : s.vm.findClass own = some m.cls) (hK : va_K D cl (mv_tys dA L) s) {idx t t1 : Nat} (hdg : decode cc pc = .ok (.multianewarray idx 2, 4)) {ty : FieldType} (hty : ty = .int ∨ ty = .byte) (har : (Cond.arrayClass ty).before args s = true) (hL0 : L[t]? = some (.array ty)) (hL1 : L[t1]? = some ty) (hov : (Cond.arrayOver (.array ty)).before args s = true) (hlk : (Cond.classLink own idx ("[" ++ (FieldType.array ty).toString)).before args s = true) {k n : Int32} {r : List Value}
    (hc : ¬ n < 0 ∧ ¬ k < 0 ∧ n.toNatClampNeg ≤ 65536 ∧ k.toNatClampNeg ≤ 65536 ∧ 1 + n.toNatClampNeg ≤ cb ∧ n.toNatClampNeg + n.toNatClampNeg * k.toNatClampNeg ≤ sb)
    (kk : mv_K base (mv_ad base kt) dA D cl nL p l e R s m args below meth c Q (pc + 4, lo, .ref hp.length :: r, hp ++ mv_grid2 t t1 n.toNatClampNeg k.toNatClampNeg hp.length, cb - (1 + n.toNatClampNeg), sb - (n.toNatClampNeg + n.toNatClampNeg * k.toNatClampNeg))) : mv_K base (mv_ad base kt) dA D cl nL p l e R s m args below meth c Q (pc, lo, .int k :: .int n :: r, hp, cb, sb) := by
  intro H ls locs cells slots I T hT X
  subst hT
  obtain ⟨hn, hk, hn2, hk2, hc1, hc2⟩ := hc
  have I5 : cells + cb ≤ R.cells := I.2.2.2.2.1
  have I6 : slots + sb ≤ R.slots := I.2.2.2.2.2.1
  have hcb : componentBytes ty ≤ 4 := by rcases hty with rfl | rfl <;> decide
  have hd0 : defaultValue ty = .int 0 := by rcases hty with rfl | rfl <;> rfl
  have hb2 : k.toNatClampNeg * componentBytes ty ≤ 536870912 := Nat.le_trans (Nat.mul_le_mul hk2 hcb) (by decide)
  obtain ⟨vm₁, cA, comp, hW, hfA, hfC, -, -, X', step⟩ := X.multianewarray2F hx hown hlk hov har (g := F0 m pc ls (.int k :: .int n :: r.map (mv_v (mv_ad base kt)))) rfl (by rw [hb]; exact hdg) rfl hn hk (by omega) hb2 (by omega) (by rw [hd0]; rcases hty with rfl | rfl <;> rfl) (by rw [hd0]; rfl) (by omega) (by omega)
  obtain ⟨z0, hz0⟩ := mv_tys_mem (dA := dA) hL0
  obtain ⟨z1, hz1⟩ := mv_tys_mem (dA := dA) hL1
  have e0 := mv_RAof (hK.2 z0 _ hz0).2 hfA
  have e1 : comp = dA t1 := mv_RAof (hK.2 z1 _ hz1).2 (by rcases hty with rfl | rfl <;> exact hfC)
  subst e0
  subst e1
  obtain ⟨f1, f2, -, -⟩ := Jvm.Free.Multi.fill_facts (T.setVm vm₁) (dA t) (dA t1) n.toNatClampNeg k.toNatClampNeg (defaultValue ty) n.toNatClampNeg
  have fo := fun x (hx9 : x < T.heap.size) => Jvm.Free.Multi.fill_old (T.setVm vm₁) (dA t) (dA t1) n.toNatClampNeg k.toNatClampNeg (defaultValue ty) (a := x) hx9 n.toNatClampNeg
  have fi := Jvm.Free.Multi.fill_inner (T.setVm vm₁) (dA t) (dA t1) n.toNatClampNeg k.toNatClampNeg (defaultValue ty) n.toNatClampNeg
  generalize Jvm.Free.Multi.fill (T.setVm vm₁) (dA t) (dA t1) n.toNatClampNeg k.toNatClampNeg (defaultValue ty) n.toNatClampNeg = F at X' step f1 f2 fo fi
  have hTh : (T.setVm vm₁).heap = T.heap := rfl
  rw [hTh] at f1 f2 fi fo
  have hlen := mv_grid2_len t t1 n.toNatClampNeg k.toNatClampNeg hp.length
  have hadr : ∀ x, x < 1 + n.toNatClampNeg → mv_ad base kt (hp.length + x) = T.heap.size + x := fun x hx9 => by
    have h7 : hp.length + cb ≤ mv_big := I.2.2.2.2.2.2
    have h3 : T.heap.size = base + hp.length := I.2.2.1
    rw [mv_ad, if_pos (by omega), h3]
    omega
  obtain ⟨I', hz⟩ := mv_inv_news (pc' := pc + 4) (st' := .ref hp.length :: r) (H1 := F.heap) (locs' := locs) (n := n.toNatClampNeg + n.toNatClampNeg * k.toNatClampNeg) I (es := mv_grid2 t t1 n.toNatClampNeg k.toNatClampNeg hp.length) (by rw [hlen]; exact hc1) hc2 (by rw [hlen]; omega) (fun j e2 hj => by
      rcases mv_grid2_at hj with ⟨rfl, rfl⟩ | ⟨x, hx9, rfl, rfl⟩
      · refine mv_outer_cell (h0 := T.heap.size) ?_ (fun i hi => ?_)
        · rw [Nat.add_zero, f2, mv_outer1]
        · rw [show hp.length + 1 + i * 1 = hp.length + (1 + i) by omega, hadr (1 + i) (by omega)]
          omega
      · refine mv_inner_cell hd0 ?_
        rw [show T.heap.size + (x + 1) = T.heap.size + 1 + x by omega]
        exact fi x hx9) (by rw [f1, hlen]; omega) (fun q hq => fo q hq) I.2.2.2.1.2.2
  rw [hlen] at I'
  have hk9 := kk F.heap ls locs (cells + (1 + n.toNatClampNeg)) (slots + (n.toNatClampNeg + n.toNatClampNeg * k.toNatClampNeg)) I'
  rw [← Nat.add_assoc, ← Nat.add_assoc] at hk9
  obtain ⟨t9, a1, b1⟩ := hk9 F rfl X'
  refine ⟨t9, step t9 ?_, b1⟩
  have e3 : (Value.ref hp.length :: r).map (mv_v (mv_ad base kt)) = .ref T.heap.size :: r.map (mv_v (mv_ad base kt)) := by
    rw [List.map_cons]
    show Value.ref (mv_ad base kt hp.length) :: _ = _
    rw [hz]
  dsimp only at a1
  rw [e3] at a1
  exact a1
theorem mr_multi3 (hx : p.tables.exec = Jvm.exec) (hb : c.code = cc) {own : String} (hown : s.vm.findClass own = some m.cls) (hK : va_K D cl (mv_tys dA L) s) {idx t t1 t2 : Nat} (hdg : decode cc pc = .ok (.multianewarray idx 3, 4)) {ty : FieldType} (hty : ty = .int ∨ ty = .byte) (har : (Cond.arrayClass ty).before args s = true) (hL0 : L[t]? = some (.array (.array ty))) (hL1 : L[t1]? = some (.array ty)) (hL2 : L[t2]? = some ty) (hov : (Cond.arrayOver (.array (.array ty))).before args s = true) (hov2 : (Cond.arrayOver (.array ty)).before args s = true) (hlk : (Cond.classLink own idx ("[" ++ (FieldType.array (.array ty)).toString)).before args s = true) {k n z : Int32} {r : List Value}
    (hc : ¬ z < 0 ∧ ¬ n < 0 ∧ ¬ k < 0 ∧ z.toNatClampNeg ≤ 65536 ∧ n.toNatClampNeg ≤ 65536 ∧ k.toNatClampNeg ≤ 65536 ∧ 1 + z.toNatClampNeg * (n.toNatClampNeg + 1) ≤ cb ∧ z.toNatClampNeg + z.toNatClampNeg * (n.toNatClampNeg + n.toNatClampNeg * k.toNatClampNeg) ≤ sb)
    (kk : mv_K base (mv_ad base kt) dA D cl nL p l e R s m args below meth c Q (pc + 4, lo, .ref hp.length :: r, hp ++ mv_grid3 t t1 t2 z.toNatClampNeg n.toNatClampNeg k.toNatClampNeg hp.length, cb - (1 + z.toNatClampNeg * (n.toNatClampNeg + 1)), sb - (z.toNatClampNeg + z.toNatClampNeg * (n.toNatClampNeg + n.toNatClampNeg * k.toNatClampNeg)))) : mv_K base (mv_ad base kt) dA D cl nL p l e R s m args below meth c Q (pc, lo, .int k :: .int n :: .int z :: r, hp, cb, sb) := by
  intro H ls locs cells slots I T hT X
  subst hT
  obtain ⟨hz, hn, hk, hz2, hn2, hk2, hc1, hc2⟩ := hc
  have I5 : cells + cb ≤ R.cells := I.2.2.2.2.1
  have I6 : slots + sb ≤ R.slots := I.2.2.2.2.2.1
  have hcb : componentBytes ty ≤ 4 := by rcases hty with rfl | rfl <;> decide
  have hd0 : defaultValue ty = .int 0 := by rcases hty with rfl | rfl <;> rfl
  have hb2 : k.toNatClampNeg * componentBytes ty ≤ 536870912 := Nat.le_trans (Nat.mul_le_mul hk2 hcb) (by decide)
  obtain ⟨vm₁, cA, c1, c2, locs', hlocs, hfA, hfB, hfC, X', step⟩ := mv_multianewarray3 X hx hown hlk hov hov2 har (by rcases hty with rfl | rfl <;> rfl) (g := F0 m pc ls (.int k :: .int n :: .int z :: r.map (mv_v (mv_ad base kt)))) rfl (by rw [hb]; exact hdg) rfl hz hn hk (by omega) (by omega) hb2 (by omega) (by rw [hd0]; rcases hty with rfl | rfl <;> rfl) (by rw [hd0]; rfl) (by omega) (by omega)
  obtain ⟨z0, hz0⟩ := mv_tys_mem (dA := dA) hL0
  obtain ⟨z1, hz1⟩ := mv_tys_mem (dA := dA) hL1
  obtain ⟨z3, hz3⟩ := mv_tys_mem (dA := dA) hL2
  have e0 := mv_RAof (hK.2 z0 _ hz0).2 hfA
  have e1 := mv_RAof (hK.2 z1 _ hz1).2 hfB
  have e2 : c2 = dA t2 := mv_RAof (hK.2 z3 _ hz3).2 (by rcases hty with rfl | rfl <;> exact hfC)
  subst e0
  subst e1
  subst e2
  have ff := (mv_f3_facts (T.setVm vm₁) (dA t) (dA t1) (dA t2) z.toNatClampNeg n.toNatClampNeg k.toNatClampNeg (defaultValue ty) z.toNatClampNeg)
  have fo := fun x (hx9 : x < T.heap.size) => mv_f3_old (T.setVm vm₁) (dA t) (dA t1) (dA t2) z.toNatClampNeg n.toNatClampNeg k.toNatClampNeg (defaultValue ty) (a := x) hx9 z.toNatClampNeg
  have fi := mv_f3_rows (T.setVm vm₁) (dA t) (dA t1) (dA t2) z.toNatClampNeg n.toNatClampNeg k.toNatClampNeg (defaultValue ty) z.toNatClampNeg
  obtain ⟨f1, f2, -, -⟩ := ff
  generalize mv_f3 (T.setVm vm₁) (dA t) (dA t1) (dA t2) z.toNatClampNeg n.toNatClampNeg k.toNatClampNeg (defaultValue ty) z.toNatClampNeg = F at X' step f1 f2 fo fi
  have hTh : (T.setVm vm₁).heap = T.heap := rfl
  rw [hTh] at f1 f2 fi fo
  have hlen : (mv_grid3 t t1 t2 z.toNatClampNeg n.toNatClampNeg k.toNatClampNeg hp.length).length = 1 + z.toNatClampNeg * (n.toNatClampNeg + 1) := by
    unfold mv_grid3
    rw [List.length_cons, mv_blocks_len]
    omega
  have hadr : ∀ x, x < 1 + z.toNatClampNeg * (n.toNatClampNeg + 1) → mv_ad base kt (hp.length + x) = T.heap.size + x := fun x hx9 => by
    have h7 : hp.length + cb ≤ mv_big := I.2.2.2.2.2.2
    have h3 : T.heap.size = base + hp.length := I.2.2.1
    rw [mv_ad, if_pos (by omega), h3]
    omega
  have hmul : ∀ i, i < z.toNatClampNeg → i * (n.toNatClampNeg + 1) + (n.toNatClampNeg + 1) ≤ z.toNatClampNeg * (n.toNatClampNeg + 1) := fun i hi => by
    have := Nat.mul_le_mul_right (n.toNatClampNeg + 1) (show i + 1 ≤ z.toNatClampNeg from hi)
    rw [Nat.succ_mul] at this
    exact this
  obtain ⟨I', hz⟩ := mv_inv_news (pc' := pc + 4) (st' := .ref hp.length :: r) (H1 := F.heap) (locs' := locs') (n := z.toNatClampNeg + z.toNatClampNeg * (n.toNatClampNeg + n.toNatClampNeg * k.toNatClampNeg)) I (es := mv_grid3 t t1 t2 z.toNatClampNeg n.toNatClampNeg k.toNatClampNeg hp.length) (by rw [hlen]; exact hc1) hc2 (by rw [hlen]; omega) (fun j e2 hj => by
      cases j with
      | zero =>
        cases hj
        refine mv_outer_cell (h0 := T.heap.size) ?_ (fun i hi => ?_)
        · rw [Nat.add_zero, f2]
        · have := hmul i hi
          rw [show hp.length + 1 + i * (n.toNatClampNeg + 1) = hp.length + (1 + i * (n.toNatClampNeg + 1)) by omega, hadr _ (by omega)]
          omega
      | succ x =>
        have hj2 : (mv_blocks t1 t2 n.toNatClampNeg k.toNatClampNeg (hp.length + 1) z.toNatClampNeg)[x]? = some e2 := by
          unfold mv_grid3 at hj
          rw [List.getElem?_cons_succ] at hj
          exact hj
        obtain ⟨i, r9, hi, rfl, h9⟩ := mv_blocks_at _ _ _ _ _ _ _ _ hj2
        have hmi := hmul i hi
        obtain ⟨g1, g2⟩ := fi i hi
        rcases mv_grid2_at h9 with ⟨rfl, rfl⟩ | ⟨x, hx9, rfl, rfl⟩
        · refine mv_outer_cell (h0 := T.heap.size + 1 + i * (n.toNatClampNeg + 1)) ?_ (fun i9 hi9 => ?_)
          · rw [show T.heap.size + (i * (n.toNatClampNeg + 1) + 0 + 1) = T.heap.size + 1 + i * (n.toNatClampNeg + 1) by omega]
            exact g1
          · rw [show hp.length + 1 + i * (n.toNatClampNeg + 1) + 1 + i9 * 1 = hp.length + (1 + i * (n.toNatClampNeg + 1) + 1 + i9) by omega, hadr _ (by omega)]
            omega
        · refine mv_inner_cell hd0 ?_
          rw [show T.heap.size + (i * (n.toNatClampNeg + 1) + (x + 1) + 1) = T.heap.size + 1 + i * (n.toNatClampNeg + 1) + 1 + x by omega]
          exact g2 x hx9) (by rw [f1, hlen]; omega) (fun q hq => fo q hq) (fun q hq => by
      rcases hlocs q hq with h9 | h9
      · exact I.2.2.2.1.2.2 q h9
      · have h3 : T.heap.size = base + hp.length := I.2.2.1
        show base ≤ q.base
        have h8 : T.heap.size ≤ q.base := h9
        omega)
  rw [hlen] at I'
  have hk9 := kk F.heap ls locs' (cells + (1 + z.toNatClampNeg * (n.toNatClampNeg + 1))) (slots + (z.toNatClampNeg + z.toNatClampNeg * (n.toNatClampNeg + n.toNatClampNeg * k.toNatClampNeg))) I'
  rw [← Nat.add_assoc, ← Nat.add_assoc] at hk9
  obtain ⟨t9, a1, b1⟩ := hk9 F rfl X'
  refine ⟨t9, step t9 ?_, b1⟩
  have e3 : (Value.ref hp.length :: r).map (mv_v (mv_ad base kt)) = .ref T.heap.size :: r.map (mv_v (mv_ad base kt)) := by
    rw [List.map_cons]
    show Value.ref (mv_ad base kt hp.length) :: _ = _
    rw [hz]
  dsimp only at a1
  rw [e3] at a1
  exact a1
theorem mr_multi (hx : p.tables.exec = Jvm.exec) (hb : c.code = cc) (hts : ∀ w ∈ Ts, w.before args s = true) {own : String} (hown : s.vm.findClass own = some m.cls) (hK : va_K D cl (mv_tys dA L) s) {idx d : Nat} (hdg : decode cc pc = .ok (.multianewarray idx d, 4)) (hok : ∀ t t1 t2, mv_gM G y idx = some (t, t1, t2) → mv_okGr L Ts own idx t t1 t2)
    (h : mv_multi G y pc lo st hp cb sb idx d = some (.inl S)) (k : mv_K base (mv_ad base kt) dA D cl nL p l e R s m args below meth c Q S) : mv_K base (mv_ad base kt) dA D cl nL p l e R s m args below meth c Q (pc, lo, st, hp, cb, sb) := by
  unfold mv_multi at h
  split at h
  · rename_i t t1 t2 hM
    obtain ⟨ty, hty, har, hg⟩ := hok _ _ _ hM
    split at h
    · rename_i k0 n r
      split at h
      · rename_i hd
        subst hd
        split at h
        · rename_i hc
          cases h
          rcases hg with ⟨-, g1, g2, g3, g4⟩ | ⟨g0, -⟩
          · exact mr_multi2 hx hb hown hK hdg hty (hts _ har) g1 g2 (hts _ g3) (hts _ g4) hc.2 k
          · omega
        · cases h
      · split at h
        · rename_i z r0
          split at h
          · rename_i hc
            obtain ⟨rfl, hc⟩ := hc
            cases h
            rcases hg with ⟨g0, -⟩ | ⟨-, g1, g2, g3, g4, g5, g6⟩
            · omega
            · exact mr_multi3 hx hb hown hK hdg hty (hts _ har) g1 g2 g3 (hts _ g4) (hts _ g5) (hts _ g6) hc.2 k
          · cases h
        · cases h
    · cases h
  · cases h
end MVM
end
section
/-! constants of text: String.length and String.charAt, by contract -/
abbrev st_C : String := "java/lang/String"
abbrev st_L : String := "java/lang/StringLatin1"
abbrev st_P : String := "jdk/internal/util/Preconditions"
abbrev st_F : String := "Ljava/util/function/BiFunction;"
abbrev st_b0 : ByteArray := prog_21_method_154_code
def st_y0 : MethodName := ⟨st_C, "isLatin1", "()Z"⟩
abbrev st_b1 : ByteArray := prog_27_method_11_code
def st_y1 : MethodName := ⟨st_P, "checkIndex", "(IILjava/util/function/BiFunction;)I"⟩
abbrev st_b2 : ByteArray := prog_21_method_155_code
def st_y2 : MethodName := ⟨st_C, "checkIndex", "(II)V"⟩
abbrev st_b3 : ByteArray := prog_22_method_2_code
def st_y3 : MethodName := ⟨st_L, "charAt", "([BI)C"⟩
abbrev st_b4 : ByteArray := prog_21_method_56_code
def st_y4 : MethodName := ⟨st_C, "charAt", "(I)C"⟩
abbrev st_b5 : ByteArray := prog_21_method_152_code
def st_y5 : MethodName := ⟨st_C, "coder", "()B"⟩
abbrev st_b6 : ByteArray := prog_21_method_54_code
def st_y6 : MethodName := ⟨st_C, "length", "()I"⟩
def st_w0 : List Cond := .code st_y0 st_b0 1 (some .boolean) :: [.fieldLink st_C 38 st_C "COMPACT_STRINGS" "Z", .fieldLink st_C 15 st_C "coder" "B"]
def st_w1 : List Cond := .code st_y1 st_b1 3 (some .int) :: []
def st_w2 : List Cond := .code st_y2 st_b2 2 none :: ([.fieldLink st_C 1053 st_P "SIOOBE_FORMATTER" st_F, .methodLink st_C 1059 st_y1, .static st_y1, .initialized st_P] ++ st_w1)
def st_w3 : List Cond := .code st_y3 st_b3 2 (some .char) :: ([.methodLink st_L 9 st_y2, .static st_y2, .initialized st_C] ++ st_w2)
def st_w4 : List Cond := .code st_y4 st_b4 2 (some .char) :: ([.methodLink st_C 492 st_y0, .instanceMethod st_y0, .selects st_C st_y0 st_y0, .initialized st_C, .fieldLink st_C 9 st_C "value" "[B", .methodLink st_C 495 st_y3, .static st_y3, .initialized st_L] ++ st_w0 ++ st_w3)
def st_w5 : List Cond := .code st_y5 st_b5 1 (some .byte) :: [.fieldLink st_C 38 st_C "COMPACT_STRINGS" "Z", .fieldLink st_C 15 st_C "coder" "B"]
def st_w6 : List Cond := .code st_y6 st_b6 1 (some .int) :: ([.fieldLink st_C 9 st_C "value" "[B", .methodLink st_C 335 st_y5, .instanceMethod st_y5, .selects st_C st_y5 st_y5, .initialized st_C] ++ st_w5)
/-- the text at q, of n bytes f, and what the methods read beside it -/
def st_SA (A : Nat → Prop) (q v n : Nat) (f : Nat → Int32) (U : State) (H : Heap) : Prop :=
  va_O st_C q A U H ∧ va_OF st_C "coder" "B" (.int 0) q A U H ∧ va_OF st_C "value" "[B" (.ref v) q A U H ∧ va_T .byte v n (fun j => .int (f j)) A U H ∧ va_Z st_C "COMPACT_STRINGS" "Z" (.int 1) A U H ∧ ∃ fm : Value, fm.isRef = true ∧ va_Z st_P "SIOOBE_FORMATTER" st_F fm A U H
abbrev st_S (q v n : Nat) (f : Nat → Int32) (U : State) (H : Heap) : Prop := st_SA (fun _ => False) q v n f U H
theorem st_S.moved {A : Nat → Prop} {q v n : Nat} {f : Nat → Int32} {u U : State} {H : Heap} (hvm : u.vm.Alike U.vm) (h : st_SA A q v n f u H) : st_SA A q v n f U H := by
  obtain ⟨h1, h2, h3, h4, h5, fm, h0, h6⟩ := h
  exact ⟨h1.moved hvm, h2.moved hvm, h3.moved hvm, h4.moved hvm, h5.moved hvm, fm, h0, h6.moved hvm⟩
theorem st_S.kept {A : Nat → Prop} {q v n : Nat} {f : Nat → Int32} {U : State} {H H1 : Heap} (h : st_SA A q v n f U H) (hq : ∀ a : Nat, a < H.size → ¬ A a → H1[a]? = H[a]?) : st_SA A q v n f U H1 := by
  obtain ⟨h1, h2, h3, h4, h5, fm, h0, h6⟩ := h
  exact ⟨h1.kept hq, h2.kept hq, h3.kept hq, h4.kept hq, h5.kept hq, fm, h0, h6.kept hq⟩
theorem st_S.free {A : Nat → Prop} {q v n : Nat} {f : Nat → Int32} {U : State} {H : Heap} (h : st_SA A q v n f U H) : st_S q v n f U H := by
  obtain ⟨h1, h2, h3, h4, h5, fm, h0, h6⟩ := h
  exact ⟨h1.narrow fun _ z => z.elim, h2.narrow fun _ z => z.elim, h3.narrow fun _ z => z.elim, h4.narrow fun _ z => z.elim, h5.narrow fun _ z => z.elim, fm, h0, h6.narrow fun _ z => z.elim⟩
def st_Q (r : Int32) : Array Value → State → Outcome → State → Prop := fun _ st oc t => oc = .returned (some (.int r)) ∧ t.heap = st.heap
def st_V : Array Value → State → Outcome → State → Prop := fun _ st oc t => oc = .returned none ∧ t.heap = st.heap
abbrev st_N : Addr → Prop := fun _ => False
section STG
variable {p : Program} {l : Launch} {e : Env} {R : Room} {s : State} {m : MethodId} {args : Array Value} {below : List Frame} {meth : Method} {c : Code} {H : Heap} {locs : List Loc} {cells slots : Nat} {Q : State → Prop} {pc : Nat} {ls : Array Slot} {st0 rest : List Value} {a : Array Value}
theorem st_go {r : Int32} (hr : va_Run p l e R s m args below meth c H locs cells slots 0 0 (F0 m pc ls st0) rest (st_Q r a) st_N) (kk : W p l e R s m args below meth c H locs cells slots Q (F0 m (pc + 3) ls (.int r :: rest))) : W p l e R s m args below meth c H locs cells slots Q (F0 m pc ls st0) := by
  intro T hT X
  obtain ⟨v, st₀, t, T', L, h0, X', hL, e1, e2, ⟨hv, hh⟩, st⟩ := hr T hT X
  cases hv
  have hL0 : L = [] := List.eq_nil_iff_forall_not_mem.mpr fun q hq => hL q hq
  subst hL0
  rw [List.append_nil] at X'
  obtain ⟨t2, a1, b1⟩ := kk T' (by rw [e1, hh, h0]) X'
  exact ⟨t2, st t2 a1, b1⟩
theorem st_goV (hr : va_Run p l e R s m args below meth c H locs cells slots 0 0 (F0 m pc ls st0) rest (st_V a) st_N) (kk : W p l e R s m args below meth c H locs cells slots Q (F0 m (pc + 3) ls rest)) : W p l e R s m args below meth c H locs cells slots Q (F0 m pc ls st0) := by
  intro T hT X
  obtain ⟨v, st₀, t, T', L, h0, X', hL, e1, e2, ⟨hv, hh⟩, st⟩ := hr T hT X
  cases hv
  have hL0 : L = [] := List.eq_nil_iff_forall_not_mem.mpr fun q hq => hL q hq
  subst hL0
  rw [List.append_nil] at X'
  obtain ⟨t2, a1, b1⟩ := kk T' (by rw [e1, hh, h0]) X'
  exact ⟨t2, st t2 a1, b1⟩
end STG
theorem st_d00 : decode st_b0 0 = .ok (.getstatic 38, 3) := by decide +kernel
theorem st_d03 : decode st_b0 3 = .ok (.ifCond .eq 14, 3) := by decide +kernel
theorem st_d06 : decode st_b0 6 = .ok (.aload_n 0, 1) := by decide +kernel
theorem st_d07 : decode st_b0 7 = .ok (.getfield 15, 3) := by decide +kernel
theorem st_d0a : decode st_b0 10 = .ok (.ifCond .ne 7, 3) := by decide +kernel
theorem st_d0d : decode st_b0 13 = .ok (.iconst 1, 1) := by decide +kernel
theorem st_d0e : decode st_b0 14 = .ok (.goto 4, 3) := by decide +kernel
theorem st_d0i : decode st_b0 18 = .ok (.ireturn, 1) := by decide +kernel
theorem c_st0 (l : Launch) (q v n : Nat) (f : Nat → Int32) : Met l st_y0 st_w0 ({ frames := 0, cells := 0, slots := 0, locals := 0 }) (va_Pc [.ref q] (fun U => st_S q v n f U U.heap)) (st_Q 1) 0 0 st_N := by
  refine Met.ofW (cc := st_b0) (maxL := 1) (ret := some .boolean) (by decide) rfl ?_
  intro p e s m args below meth c s₁ B hml hv
  obtain ⟨rfl, hO, hC, hV, hT, hZ, fm, hfm, hF⟩ := hv
  have hx := B.exec
  have hb := B.bytes
  have hr := B.returns
  have hts := atoms_spec (ws := st_w0) B.pre
  have hown : s.vm.findClass st_C = some m.cls := findClass_of_methodNamed B.named
  have hlocks := B.notSynchronized
  have hS : va_S (fun _ => False) s.heap s.heap [] := va_S.rf
  have hl := lv_entry ([.ref q]) (n := 1) (Nat.le_of_ble_eq_true rfl)
  rw [lg_entry_eq]
  generalize (lg_sl ([.ref q]) ++ List.replicate (1 - (lg_sl ([.ref q])).length) Slot.unset).toArray = ls at hl ⊢
  have hl : lv_has ls 1 [(0, .ref q)] := hl
  refine va_gets hx hb hZ hS hown (hts (.fieldLink st_C 38 st_C "COMPACT_STRINGS" "Z") (by decide +kernel)) (fun _ h9 => h9) st_d00 ?_
  refine lv_if_eq hx hb st_d03 (tgt := 17) rfl (fun h => absurd h (by decide)) (fun _ => ?_)
  refine lv_aload_n hx hb st_d06 rfl (lv_at hl 0 rfl) ?_
  refine vk_getf hx hb hC hS hown (hts (.fieldLink st_C 15 st_C "coder" "B") (by decide +kernel)) (fun _ h9 => h9) st_d07 ?_
  refine lv_if_ne hx hb st_d0a (tgt := 17) rfl (fun h => absurd rfl h) (fun _ => ?_)
  refine lv_iconst (v := 1) hx hb st_d0d (by decide) ?_
  refine lv_goto hx hb st_d0e (tgt := 18) rfl ?_
  exact W.zret (v := 1) hx hb hr (by decide) (fun t ht hW => ⟨rfl, ht⟩) (fun _ h => absurd h List.not_mem_nil) st_d0i
theorem st_d10 : decode st_b1 0 = .ok (.iload_n 0, 1) := by decide +kernel
theorem st_d11 : decode st_b1 1 = .ok (.ifCond .lt 8, 3) := by decide +kernel
theorem st_d14 : decode st_b1 4 = .ok (.iload_n 0, 1) := by decide +kernel
theorem st_d15 : decode st_b1 5 = .ok (.iload_n 1, 1) := by decide +kernel
theorem st_d16 : decode st_b1 6 = .ok (.if_icmp .lt 10, 3) := by decide +kernel
theorem st_d1g : decode st_b1 16 = .ok (.iload_n 0, 1) := by decide +kernel
theorem st_d1h : decode st_b1 17 = .ok (.ireturn, 1) := by decide +kernel
theorem c_st1 (l : Launch) (i n : Int32) (fm : Value) (hfm : fm.isRef = true) (h0 : ¬ i < 0) (hn : i < n) : Met l st_y1 st_w1 ({ frames := 0, cells := 0, slots := 0, locals := 0 }) (va_Pc [.int i, .int n, fm] (fun _ => True)) (st_Q i) 0 0 st_N := by
  refine Met.ofW (cc := st_b1) (maxL := 3) (ret := some .int) (by decide) rfl ?_
  intro p e s m args below meth c s₁ B hml hv
  obtain ⟨rfl, -⟩ := hv
  have hx := B.exec
  have hb := B.bytes
  have hr := B.returns
  have hlocks := B.notSynchronized
  have hcat : fm.category = 1 := by cases fm <;> first | rfl | cases hfm
  have hl : ∃ ls : Array Slot, entryFrame m ([.int i, .int n, fm] : List Value).toArray 3 = F0 m 0 ls [] ∧ lv_has ls 3 [(0, .int i), (1, .int n), (2, fm)] := by
    rw [lg_entry_eq]
    have hl := lv_entry ([.int i, .int n, fm]) (n := 3) (by cases fm <;> first | exact Nat.le_of_ble_eq_true rfl | cases hfm)
    refine ⟨_, rfl, ?_⟩
    cases fm <;> first | exact hl | cases hfm
  obtain ⟨ls, he, hl⟩ := hl
  rw [he]
  refine lv_iload_n hx hb st_d10 rfl (lv_at hl 0 rfl) ?_
  refine lv_if_lt hx hb st_d11 (tgt := 9) rfl (fun h => absurd h h0) (fun _ => ?_)
  refine lv_iload_n hx hb st_d14 rfl (lv_at hl 0 rfl) ?_
  refine lv_iload_n hx hb st_d15 rfl (lv_at hl 1 rfl) ?_
  refine lv_icmp_lt hx hb st_d16 (tgt := 16) rfl (fun _ => ?_) (fun h => absurd hn h)
  refine lv_iload_n hx hb st_d1g rfl (lv_at hl 0 rfl) ?_
  exact W.iret (v := i) hx hb hr (fun t ht hW => ⟨rfl, ht⟩) (fun _ h => absurd h List.not_mem_nil) st_d1h
theorem st_d20 : decode st_b2 0 = .ok (.iload_n 0, 1) := by decide +kernel
theorem st_d21 : decode st_b2 1 = .ok (.iload_n 1, 1) := by decide +kernel
theorem st_d22 : decode st_b2 2 = .ok (.getstatic 1053, 3) := by decide +kernel
theorem st_d25 : decode st_b2 5 = .ok (.invokestatic 1059, 3) := by decide +kernel
theorem st_d28 : decode st_b2 8 = .ok (.pop, 1) := by decide +kernel
theorem st_d29 : decode st_b2 9 = .ok (.return_, 1) := by decide +kernel
set_option maxRecDepth 20000 in
theorem st_g21 : GoodIn st_w2 st_w1 := goodIn_p _ [5] rfl (by decide +kernel)
theorem c_st2 (l : Launch) (q v n : Nat) (f : Nat → Int32) (i k : Int32) (h0 : ¬ i < 0) (hn : i < k) : Met l st_y2 st_w2 ({ frames := 1, cells := 0, slots := 0, locals := 22 }) (va_Pc [.int i, .int k] (fun U => st_S q v n f U U.heap)) st_V 0 0 st_N := by
  refine Met.ofW (cc := st_b2) (maxL := 2) (ret := none) (by decide) rfl ?_
  intro p e s m args below meth c s₁ B hml hv
  obtain ⟨rfl, hO, hC, hV, hT, hZ, fm, hfm, hF⟩ := hv
  have hx := B.exec
  have hb := B.bytes
  have hr := B.returns
  have hts := atoms_spec (ws := st_w2) B.pre
  have hown : s.vm.findClass st_C = some m.cls := findClass_of_methodNamed B.named
  have hlocks := B.notSynchronized
  have hS : va_S (fun _ => False) s.heap s.heap [] := va_S.rf
  have hl := lv_entry ([.int i, .int k]) (n := 2) (Nat.le_of_ble_eq_true rfl)
  rw [lg_entry_eq]
  generalize (lg_sl ([.int i, .int k]) ++ List.replicate (2 - (lg_sl ([.int i, .int k])).length) Slot.unset).toArray = ls at hl ⊢
  have hl : lv_has ls 2 [(0, .int i), (1, .int k)] := hl
  refine lv_iload_n hx hb st_d20 rfl (lv_at hl 0 rfl) ?_
  refine lv_iload_n hx hb st_d21 rfl (lv_at hl 1 rfl) ?_
  refine va_gets hx hb hF hS hown (hts (.fieldLink st_C 1053 st_P "SIOOBE_FORMATTER" st_F) (by decide +kernel)) (fun _ h9 => h9) st_d22 ?_
  refine st_go (va_runS (As := [.int i, .int k, fm]) (rest := []) ⟨hx, hb, hml, hown, hts⟩ (c_st1 l i k fm hfm h0 hn) ⟨callB_of 3 hts st_g21 rfl rfl rfl (hts (.initialized st_P) (by decide +kernel)) (hts (.methodLink st_C 1059 st_y1) (by decide +kernel)) (by decide +kernel) ⟨Nat.le_of_ble_eq_true rfl, Nat.le_of_ble_eq_true rfl⟩, hts (.static st_y1) (by decide +kernel)⟩ ⟨fun a U g mk q => q, fun U hU hW => ⟨rfl, trivial⟩⟩ rfl rfl hl.1 rfl (lv_room (Nat.le_of_ble_eq_true rfl)) st_d25 ⟨Nat.zero_le _, Nat.zero_le _⟩) ?_
  refine lv_pop hx hb st_d28 rfl ?_
  exact W.vret hx hb hr (fun t ht hW => ⟨rfl, ht⟩) (fun _ h => absurd h List.not_mem_nil) st_d29
theorem st_d30 : decode st_b3 0 = .ok (.iload_n 1, 1) := by decide +kernel
theorem st_d31 : decode st_b3 1 = .ok (.aload_n 0, 1) := by decide +kernel
theorem st_d32 : decode st_b3 2 = .ok (.arraylength, 1) := by decide +kernel
theorem st_d33 : decode st_b3 3 = .ok (.invokestatic 9, 3) := by decide +kernel
theorem st_d36 : decode st_b3 6 = .ok (.aload_n 0, 1) := by decide +kernel
theorem st_d37 : decode st_b3 7 = .ok (.iload_n 1, 1) := by decide +kernel
theorem st_d38 : decode st_b3 8 = .ok (.baload, 1) := by decide +kernel
theorem st_d39 : decode st_b3 9 = .ok (.sipush 255, 3) := by decide +kernel
theorem st_d3c : decode st_b3 12 = .ok (.iand, 1) := by decide +kernel
theorem st_d3d : decode st_b3 13 = .ok (.i2c, 1) := by decide +kernel
theorem st_d3e : decode st_b3 14 = .ok (.ireturn, 1) := by decide +kernel
set_option maxRecDepth 20000 in
theorem st_g32 : GoodIn st_w3 st_w2 := goodIn_p _ [4, 9] rfl (by decide +kernel)
/-- what charAt answers of a byte -/
def st_ch (b : Int32) : Int32 := ((b &&& 255).toUInt32 % 65536).toInt32
theorem st_ch_char (b : Int32) : narrow .char (.int (st_ch b)) = .int (st_ch b) := by
  have h : ∀ u : UInt32, (u % 65536).toUInt16.toUInt32 = u % 65536 := fun u => UInt32.toNat_inj.mp (by simp)
  unfold st_ch
  show Value.int _ = Value.int _
  rw [UInt32.toUInt32_toInt32, h]
theorem c_st3 (l : Launch) (q v n : Nat) (f : Nat → Int32) (i : Int32) (hin : vp_in i n) (hn31 : n < 2 ^ 31) : Met l st_y3 st_w3 ({ frames := 2, cells := 0, slots := 0, locals := 43 }) (va_Pc [.ref v, .int i] (fun U => st_S q v n f U U.heap)) (st_Q (st_ch (f i.toNatClampNeg))) 0 0 st_N := by
  refine Met.ofW (cc := st_b3) (maxL := 2) (ret := some .char) (by decide) rfl ?_
  intro p e s m args below meth c s₁ B hml hv
  obtain ⟨rfl, hO, hC, hV, hT, hZ, fm, hfm, hF⟩ := id hv
  have hx := B.exec
  have hb := B.bytes
  have hr := B.returns
  have hts := atoms_spec (ws := st_w3) B.pre
  have hown : s.vm.findClass st_L = some m.cls := findClass_of_methodNamed B.named
  have hlocks := B.notSynchronized
  have hS : va_S (fun _ => False) s.heap s.heap [] := va_S.rf
  have hl := lv_entry ([.ref v, .int i]) (n := 2) (Nat.le_of_ble_eq_true rfl)
  rw [lg_entry_eq]
  generalize (lg_sl ([.ref v, .int i]) ++ List.replicate (2 - (lg_sl ([.ref v, .int i])).length) Slot.unset).toArray = ls at hl ⊢
  have hl : lv_has ls 2 [(0, .ref v), (1, .int i)] := hl
  have h0 : ¬ i < 0 := fun h => hin (Or.inl h)
  have hlt : i.toNatClampNeg < n := Nat.not_le.mp fun h => hin (Or.inr h)
  have hi : i < Int32.ofNat n := by
    rw [Int32.lt_iff_toInt_lt, Int32.toInt_ofNat_of_lt hn31]
    have h1 : (0 : Int) ≤ i.toInt := by simpa using Int32.le_iff_toInt_le.mp (Int32.not_lt.mp h0)
    have h2 : i.toNatClampNeg = i.toInt.toNat := rfl
    omega
  refine lv_iload_n hx hb st_d30 rfl (lv_at hl 1 rfl) ?_
  refine lv_aload_n hx hb st_d31 rfl (lv_at hl 0 rfl) ?_
  refine va_tlen hx hb hT hS rfl st_d32 ?_
  refine st_goV (va_runS (As := [.int i, .int (Int32.ofNat n)]) (rest := []) ⟨hx, hb, hml, hown, hts⟩ (c_st2 l q v n f i (Int32.ofNat n) h0 hi) ⟨callB_of 2 hts st_g32 rfl rfl rfl (hts (.initialized st_C) (by decide +kernel)) (hts (.methodLink st_L 9 st_y2) (by decide +kernel)) (by decide +kernel) ⟨Nat.le_of_ble_eq_true rfl, Nat.le_of_ble_eq_true rfl⟩, hts (.static st_y2) (by decide +kernel)⟩ ⟨fun a U g mk q => ⟨q.1, st_S.moved (u := U) (U := U.calling g mk a) (Vm.Alike.refl U.vm) q.2⟩, fun U hU hW => ⟨rfl, by show st_S q v n f U U.heap; rw [hU]; exact st_S.moved hW.alike hv.2⟩⟩ rfl rfl hl.1 rfl (lv_room (Nat.le_of_ble_eq_true rfl)) st_d33 ⟨Nat.zero_le _, Nat.zero_le _⟩) ?_
  refine lv_aload_n hx hb st_d36 rfl (lv_at hl 0 rfl) ?_
  refine lv_iload_n hx hb st_d37 rfl (lv_at hl 1 rfl) ?_
  refine va_tb hx hb hT hS hin rfl st_d38 ?_
  refine lv_sipush (v := 255) hx hb st_d39 (by decide) ?_
  refine lv_iand hx hb st_d3c ?_
  refine lv_i2c hx hb st_d3d rfl ?_
  exact W.zret (v := st_ch (f i.toNatClampNeg)) hx hb hr (st_ch_char _) (fun t ht hW => ⟨rfl, ht⟩) (fun _ h => absurd h List.not_mem_nil) st_d3e
theorem st_d40 : decode st_b4 0 = .ok (.aload_n 0, 1) := by decide +kernel
theorem st_d41 : decode st_b4 1 = .ok (.invokevirtual 492, 3) := by decide +kernel
theorem st_d44 : decode st_b4 4 = .ok (.ifCond .eq 12, 3) := by decide +kernel
theorem st_d47 : decode st_b4 7 = .ok (.aload_n 0, 1) := by decide +kernel
theorem st_d48 : decode st_b4 8 = .ok (.getfield 9, 3) := by decide +kernel
theorem st_d4b : decode st_b4 11 = .ok (.iload_n 1, 1) := by decide +kernel
theorem st_d4c : decode st_b4 12 = .ok (.invokestatic 495, 3) := by decide +kernel
theorem st_d4f : decode st_b4 15 = .ok (.ireturn, 1) := by decide +kernel
set_option maxRecDepth 20000 in
theorem st_g40 : GoodIn st_w4 (wsV st_C 492 st_C st_y0 st_w0) := goodIn_p _ [9] rfl (by decide +kernel)
set_option maxRecDepth 20000 in
theorem st_g43 : GoodIn st_w4 st_w3 := goodIn_p _ [12, 16, 21] rfl (by decide +kernel)
theorem c_st4 (l : Launch) (q v n : Nat) (f : Nat → Int32) (i : Int32) (hin : vp_in i n) (hn31 : n < 2 ^ 31) : Met l st_y4 st_w4 ({ frames := 3, cells := 0, slots := 0, locals := 64 }) (va_Pc [.ref q, .int i] (fun U => st_S q v n f U U.heap)) (st_Q (st_ch (f i.toNatClampNeg))) 0 0 st_N := by
  refine Met.ofW (cc := st_b4) (maxL := 2) (ret := some .char) (by decide) rfl ?_
  intro p e s m args below meth c s₁ B hml hv
  obtain ⟨rfl, hO, hC, hV, hT, hZ, fm, hfm, hF⟩ := id hv
  have hx := B.exec
  have hb := B.bytes
  have hr := B.returns
  have hts := atoms_spec (ws := st_w4) B.pre
  have hown : s.vm.findClass st_C = some m.cls := findClass_of_methodNamed B.named
  have hlocks := B.notSynchronized
  have hS : va_S (fun _ => False) s.heap s.heap [] := va_S.rf
  have hl := lv_entry ([.ref q, .int i]) (n := 2) (Nat.le_of_ble_eq_true rfl)
  rw [lg_entry_eq]
  generalize (lg_sl ([.ref q, .int i]) ++ List.replicate (2 - (lg_sl ([.ref q, .int i])).length) Slot.unset).toArray = ls at hl ⊢
  have hl : lv_has ls 2 [(0, .ref q), (1, .int i)] := hl
  refine lv_aload_n hx hb st_d40 rfl (lv_at hl 0 rfl) ?_
  refine st_go (va_runV (As := []) (rest := []) ⟨hx, hb, hml, hown, hts⟩ (c_st0 l q v n f) (cwV 0 hts st_g40 rfl rfl rfl (by decide +kernel) ⟨Nat.le_of_ble_eq_true rfl, Nat.le_of_ble_eq_true rfl⟩) ⟨fun a U g mk q => ⟨q.1, st_S.moved (u := U) (U := U.calling g mk a) (Vm.Alike.refl U.vm) q.2⟩, (by obtain ⟨cell, z1, z2, z3, -⟩ := hO; exact ⟨cell, z1, z2, z3⟩), fun U hU hW => ⟨rfl, by show st_S q v n f U U.heap; rw [hU]; exact st_S.moved hW.alike hv.2⟩⟩ rfl rfl hl.1 rfl (lv_room (Nat.le_of_ble_eq_true rfl)) st_d41 ⟨Nat.zero_le _, Nat.zero_le _⟩) ?_
  refine lv_if_eq hx hb st_d44 (tgt := 16) rfl (fun h => absurd h (by decide)) (fun _ => ?_)
  refine lv_aload_n hx hb st_d47 rfl (lv_at hl 0 rfl) ?_
  refine vk_getf hx hb hV hS hown (hts (.fieldLink st_C 9 st_C "value" "[B") (by decide +kernel)) (fun _ h9 => h9) st_d48 ?_
  refine lv_iload_n hx hb st_d4b rfl (lv_at hl 1 rfl) ?_
  refine st_go (va_runS (As := [.ref v, .int i]) (rest := []) ⟨hx, hb, hml, hown, hts⟩ (c_st3 l q v n f i hin hn31) ⟨callB_of 2 hts st_g43 rfl rfl rfl (hts (.initialized st_L) (by decide +kernel)) (hts (.methodLink st_C 495 st_y3) (by decide +kernel)) (by decide +kernel) ⟨Nat.le_of_ble_eq_true rfl, Nat.le_of_ble_eq_true rfl⟩, hts (.static st_y3) (by decide +kernel)⟩ ⟨fun a U g mk q => ⟨q.1, st_S.moved (u := U) (U := U.calling g mk a) (Vm.Alike.refl U.vm) q.2⟩, fun U hU hW => ⟨rfl, by show st_S q v n f U U.heap; rw [hU]; exact st_S.moved hW.alike hv.2⟩⟩ rfl rfl hl.1 rfl (lv_room (Nat.le_of_ble_eq_true rfl)) st_d4c ⟨Nat.zero_le _, Nat.zero_le _⟩) ?_
  exact W.zret (v := st_ch (f i.toNatClampNeg)) hx hb hr (st_ch_char _) (fun t ht hW => ⟨rfl, ht⟩) (fun _ h => absurd h List.not_mem_nil) st_d4f
theorem st_d50 : decode st_b5 0 = .ok (.getstatic 38, 3) := by decide +kernel
theorem st_d53 : decode st_b5 3 = .ok (.ifCond .eq 10, 3) := by decide +kernel
theorem st_d56 : decode st_b5 6 = .ok (.aload_n 0, 1) := by decide +kernel
theorem st_d57 : decode st_b5 7 = .ok (.getfield 15, 3) := by decide +kernel
theorem st_d5a : decode st_b5 10 = .ok (.goto 4, 3) := by decide +kernel
theorem st_d5e : decode st_b5 14 = .ok (.ireturn, 1) := by decide +kernel
theorem c_st5 (l : Launch) (q v n : Nat) (f : Nat → Int32) : Met l st_y5 st_w5 ({ frames := 0, cells := 0, slots := 0, locals := 0 }) (va_Pc [.ref q] (fun U => st_S q v n f U U.heap)) (st_Q 0) 0 0 st_N := by
  refine Met.ofW (cc := st_b5) (maxL := 1) (ret := some .byte) (by decide) rfl ?_
  intro p e s m args below meth c s₁ B hml hv
  obtain ⟨rfl, hO, hC, hV, hT, hZ, fm, hfm, hF⟩ := hv
  have hx := B.exec
  have hb := B.bytes
  have hr := B.returns
  have hts := atoms_spec (ws := st_w5) B.pre
  have hown : s.vm.findClass st_C = some m.cls := findClass_of_methodNamed B.named
  have hlocks := B.notSynchronized
  have hS : va_S (fun _ => False) s.heap s.heap [] := va_S.rf
  have hl := lv_entry ([.ref q]) (n := 1) (Nat.le_of_ble_eq_true rfl)
  rw [lg_entry_eq]
  generalize (lg_sl ([.ref q]) ++ List.replicate (1 - (lg_sl ([.ref q])).length) Slot.unset).toArray = ls at hl ⊢
  have hl : lv_has ls 1 [(0, .ref q)] := hl
  refine va_gets hx hb hZ hS hown (hts (.fieldLink st_C 38 st_C "COMPACT_STRINGS" "Z") (by decide +kernel)) (fun _ h9 => h9) st_d50 ?_
  refine lv_if_eq hx hb st_d53 (tgt := 13) rfl (fun h => absurd h (by decide)) (fun _ => ?_)
  refine lv_aload_n hx hb st_d56 rfl (lv_at hl 0 rfl) ?_
  refine vk_getf hx hb hC hS hown (hts (.fieldLink st_C 15 st_C "coder" "B") (by decide +kernel)) (fun _ h9 => h9) st_d57 ?_
  refine lv_goto hx hb st_d5a (tgt := 14) rfl ?_
  exact W.zret (v := 0) hx hb hr (by decide) (fun t ht hW => ⟨rfl, ht⟩) (fun _ h => absurd h List.not_mem_nil) st_d5e
theorem st_d60 : decode st_b6 0 = .ok (.aload_n 0, 1) := by decide +kernel
theorem st_d61 : decode st_b6 1 = .ok (.getfield 9, 3) := by decide +kernel
theorem st_d64 : decode st_b6 4 = .ok (.arraylength, 1) := by decide +kernel
theorem st_d65 : decode st_b6 5 = .ok (.aload_n 0, 1) := by decide +kernel
theorem st_d66 : decode st_b6 6 = .ok (.invokevirtual 335, 3) := by decide +kernel
theorem st_d69 : decode st_b6 9 = .ok (.ishr, 1) := by decide +kernel
theorem st_d6a : decode st_b6 10 = .ok (.ireturn, 1) := by decide +kernel
set_option maxRecDepth 20000 in
theorem st_g65 : GoodIn st_w6 (wsV st_C 335 st_C st_y5 st_w5) := goodIn_p _ [6] rfl (by decide +kernel)
theorem c_st6 (l : Launch) (q v n : Nat) (f : Nat → Int32) : Met l st_y6 st_w6 ({ frames := 1, cells := 0, slots := 0, locals := 20 }) (va_Pc [.ref q] (fun U => st_S q v n f U U.heap)) (st_Q (Int32.ofNat n)) 0 0 st_N := by
  refine Met.ofW (cc := st_b6) (maxL := 1) (ret := some .int) (by decide) rfl ?_
  intro p e s m args below meth c s₁ B hml hv
  obtain ⟨rfl, hO, hC, hV, hT, hZ, fm, hfm, hF⟩ := id hv
  have hx := B.exec
  have hb := B.bytes
  have hr := B.returns
  have hts := atoms_spec (ws := st_w6) B.pre
  have hown : s.vm.findClass st_C = some m.cls := findClass_of_methodNamed B.named
  have hlocks := B.notSynchronized
  have hS : va_S (fun _ => False) s.heap s.heap [] := va_S.rf
  have hl := lv_entry ([.ref q]) (n := 1) (Nat.le_of_ble_eq_true rfl)
  rw [lg_entry_eq]
  generalize (lg_sl ([.ref q]) ++ List.replicate (1 - (lg_sl ([.ref q])).length) Slot.unset).toArray = ls at hl ⊢
  have hl : lv_has ls 1 [(0, .ref q)] := hl
  refine lv_aload_n hx hb st_d60 rfl (lv_at hl 0 rfl) ?_
  refine vk_getf hx hb hV hS hown (hts (.fieldLink st_C 9 st_C "value" "[B") (by decide +kernel)) (fun _ h9 => h9) st_d61 ?_
  refine va_tlen hx hb hT hS rfl st_d64 ?_
  refine lv_aload_n hx hb st_d65 rfl (lv_at hl 0 rfl) ?_
  refine st_go (va_runV (As := []) (rest := [.int (Int32.ofNat n)]) ⟨hx, hb, hml, hown, hts⟩ (c_st5 l q v n f) (cwV 0 hts st_g65 rfl rfl rfl (by decide +kernel) ⟨Nat.le_of_ble_eq_true rfl, Nat.le_of_ble_eq_true rfl⟩) ⟨fun a U g mk q => ⟨q.1, st_S.moved (u := U) (U := U.calling g mk a) (Vm.Alike.refl U.vm) q.2⟩, (by obtain ⟨cell, z1, z2, z3, -⟩ := hO; exact ⟨cell, z1, z2, z3⟩), fun U hU hW => ⟨rfl, by show st_S q v n f U U.heap; rw [hU]; exact st_S.moved hW.alike hv.2⟩⟩ rfl rfl hl.1 rfl (lv_room (Nat.le_of_ble_eq_true rfl)) st_d66 ⟨Nat.zero_le _, Nat.zero_le _⟩) ?_
  refine lv_ishr hx hb st_d69 ?_
  refine W.eq (g2 := F0 m 10 ls [.int (Int32.ofNat n)]) (by rw [show Int32.ofNat n >>> ((0 : Int32) &&& 31) = Int32.ofNat n from by rw [show ((0 : Int32) &&& 31) = 0 by decide, Int32.shiftRight_zero]]) ?_
  exact W.iret (v := Int32.ofNat n) hx hb hr (fun t ht hW => ⟨rfl, ht⟩) (fun _ h => absurd h List.not_mem_nil) st_d6a
end
section
/-! the small machine: what has no bytecode of its own here: arraycopy; an exception made with its message -/
def mv_fitT (t : Nat) (x : Int32) : Bool := if t = 0 then true else if t = 1 then fits .byte (.int x) else fits .boolean (.int x)
section
variable (G : mv_G) (y pc : Nat) (l : List (Nat × Value)) (st : List Value) (hp : List va_E) (cb sb fb lb : Nat)
def mv_copy : Option mv_S := match st with
  | .int n :: .int dp :: .ref a1 :: .int sp :: .ref a0 :: r => match hp[a0]?, hp[a1]? with
    | some (.inl (t0, n0, .inl f)), some (.inl (t1, n1, .inl g)) =>
      if (t0 = t1 ∧ t0 < 3) ∧ (¬ sp < 0 ∧ ¬ dp < 0 ∧ ¬ n < 0) ∧ sp.toNatClampNeg + n.toNatClampNeg ≤ n0 ∧ dp.toNatClampNeg + n.toNatClampNeg ≤ n1 ∧ (t0 = 0 ∨ (List.range n.toNatClampNeg).all (fun i => mv_fitT t0 (f (sp.toNatClampNeg + i))) = true) ∧ 1 ≤ fb ∧ (r.map fun v => v.category).sum + (nativeFrameWords "java/lang/System" "arraycopy" 5 + 11) ≤ lb then
        some (pc + 3, l, r, hp.set a1 (.inl (t1, n1, .inl (va_cpy f g sp.toNatClampNeg dp.toNatClampNeg n.toNatClampNeg))), cb, sb)
      else none
    | _, _ => none
  | _ => none
/-- new; dup; ldc_w; invokespecial: the thrown class's object, made with a text -/
def mv_made : Option mv_S := match mv_gI G y (pc + 3), mv_gI G y (pc + 4), mv_gI G y (pc + 7) with
  | some (.dup, 1), some (.ldc_w i2, 3), some (.invokespecial i3, 3) => match mv_gK G y i2, mv_gC G y i3 with
    | some (.ref _), some (kd, _, _) =>
      if kd = 8 ∧ 1 ≤ cb ∧ 6 ≤ sb ∧ 6 ≤ fb ∧ (st.map fun v => v.category).sum + 82 ≤ lb then some (pc + 10, l, .ref hp.length :: st, hp ++ [.inr (mv_gX G, [])], cb - 1, sb - 6) else none
    | _, _ => none
  | _, _, _ => none
/-- an int of an array that was there before; its length -/
def mv_xald : Option mv_S := match st with
  | .int i :: .ref a :: r => match mv_gS G a with
    | some (n, f) => if mv_out i n = false then some (pc + 1, l, .int (f i.toNatClampNeg) :: r, hp, cb, sb) else none
    | none => none
  | _ => none
def mv_xlen : Option mv_S := match st with
  | .ref a :: r => match mv_gS G a with
    | some (n, _) => some (pc + 1, l, .int (Int32.ofNat n) :: r, hp, cb, sb)
    | none => none
  | _ => none
/-- Object's own constructor -/
def mv_oini : Option mv_S := match st with
  | .ref _ :: r => if 1 ≤ fb ∧ (r.map fun v => v.category).sum + 12 ≤ lb then some (pc + 3, l, r, hp, cb, sb) else none
  | _ => none
/-- String.length, String.charAt -/
def mv_slen : Option mv_S := match st with
  | .ref a :: r => match mv_gX2 G a with
    | some tx => if 2 ≤ fb ∧ 40 ≤ lb ∧ (r.map fun v => v.category).sum ≤ 8 then some (pc + 3, l, .int (Int32.ofNat tx.length) :: r, hp, cb, sb) else none
    | none => none
  | _ => none
def mv_schr : Option mv_S := match st with
  | .int i :: .ref a :: r => match mv_gX2 G a with
    | some tx => if mv_out i tx.length = false ∧ 4 ≤ fb ∧ 85 ≤ lb ∧ (r.map fun v => v.category).sum ≤ 8 then some (pc + 3, l, .int (st_ch (tx.getD i.toNatClampNeg 0)) :: r, hp, cb, sb) else none
    | none => none
  | _ => none
/-- an array into a place of an array of such -/
def mv_aasA : Option mv_S := match st with
  | .ref b :: .int i :: .ref a :: r => match hp[a]?, hp[b]? with
    | some (.inl (t, n, .inr (.inr (.inr (.inr g))))), some (.inl (t2, _)) => if mv_gB G t = some t2 ∧ mv_out i n = false then some (pc + 1, l, r, hp.set a (.inl (t, n, .inr (.inr (.inr (.inr (va_up g i.toNatClampNeg (some b))))))), cb, sb) else none
    | _, _ => none
  | _ => none
end
def mv_nat (G : mv_G) (y fb lb : Nat) (S : mv_S) : Option mv_S := match mv_gI G y S.1 with
  | some (.invokestatic idx, 3) => match mv_gC G y idx with
    | some (kd, _, _) => if kd = 7 then mv_copy S.1 S.2.1 S.2.2.1 S.2.2.2.1 S.2.2.2.2.1 S.2.2.2.2.2 fb lb else none
    | none => none
  | some (.new idx, 3) => match mv_gN G y idx with
    | some ci => if ci = mv_gX G then mv_made G y S.1 S.2.1 S.2.2.1 S.2.2.2.1 S.2.2.2.2.1 S.2.2.2.2.2 fb lb else none
    | none => none
  | some (.invokespecial idx, 3) => match mv_gC G y idx with
    | some (kd, _, _) => if kd = 9 then mv_oini S.1 S.2.1 S.2.2.1 S.2.2.2.1 S.2.2.2.2.1 S.2.2.2.2.2 fb lb else none
    | none => none
  | some (.invokevirtual idx, 3) => match mv_gC G y idx with
    | some (kd, _, _) => if kd = 10 then mv_slen G S.1 S.2.1 S.2.2.1 S.2.2.2.1 S.2.2.2.2.1 S.2.2.2.2.2 fb lb else if kd = 11 then mv_schr G S.1 S.2.1 S.2.2.1 S.2.2.2.1 S.2.2.2.2.1 S.2.2.2.2.2 fb lb else none
    | none => none
  | some (.aastore, 1) => mv_aasA G S.1 S.2.1 S.2.2.1 S.2.2.2.1 S.2.2.2.2.1 S.2.2.2.2.2
  | some (.iaload, 1) => mv_xald G S.1 S.2.1 S.2.2.1 S.2.2.2.1 S.2.2.2.2.1 S.2.2.2.2.2
  | some (.arraylength, 1) => mv_xlen G S.1 S.2.1 S.2.2.1 S.2.2.2.1 S.2.2.2.2.1 S.2.2.2.2.2
  | _ => none
def mv_ISE : String := "java/lang/IllegalStateException"
def mv_up : List String := ["java/lang/RuntimeException", "java/lang/Exception"]
/-- the exception's constructor, behind its own new -/
theorem mv_ctor {p : Program} {l : Launch} {e : Env} {R : Room} {s : State} {m : MethodId} {args : Array Value} {below : List Frame} {meth : Method} {c : Code} {W : State} {locs : List Loc} {cells slots : Nat} (X : Stand p l e R s m args below meth c W locs cells slots) (hexec : p.tables.exec = Jvm.exec) (htr : e.platform.stackTraces = false) {own cls : String} {names : List String} {ic : Nat}
    (hown : s.vm.findClass own = some m.cls) (hcls : Bundle.fit cls = true) (hnames : ∀ n ∈ names, Bundle.fit n = true)
    (h : ∀ a ∈ Bundle.ownAtoms own ic cls names, a.before args s = true)
    {a : Addr} (hlow : ∀ (aS : Nat) (c0 : Cell), s.heap[aS]? = some c0 → c0.vm.isStatics = true → (∀ i, (⟨aS, i⟩ : Loc) ∉ locs) ∧ aS ≠ a)
    {cX : ClassId} {kX : Class} (hfoundX : s.vm.findClass cls = some cX) (hkX : s.vm.classes[cX]? = some kX) (hcell : W.heap[a]? = some (freshCell cX kX))
    {msg : Value} (hmsg : msg.isRef = true)
    {g : JFrame} (hg : g.method = m) (hsize : g.locals.size = c.maxLocals) {rest : List Value} (hstack : g.stack = msg :: .ref a :: rest)
    (hd6 : decode c.code g.pc = .ok (.invokespecial ic, 3))
    (hRframes : names.length + 3 < R.frames) (hRlocals : 2 * g.monitorRoom + (rest.map fun v => v.category).sum + (13 * (names.length + 1) + 42) ≤ R.locals) :
    ∃ (vm' : Vm) (ce : Cell) (L : List Loc), Stand p l e R s m args below meth c ((W.setVm vm').setCell a ce) (locs ++ L) cells slots ∧ (∀ q ∈ L, q.base = a) ∧ ce.cls = cX ∧ ce.vm = .none ∧
      ∀ target, Steps p.tables e below (((W.setVm vm').setCell a ce).setTop { g with pc := g.pc + 3, stack := rest }) target → Steps p.tables e below (W.setTop g) target := by
  have howns : e.platform.frameOwnsMonitors = true := by rw [X.admits.platform]
  have hfin : e.platform.finalization = false := by rw [X.admits.platform]
  have hpl : e.platform.magicAccessors = ({} : Platform).magicAccessors := by rw [X.admits.platform]
  have a' : ∀ x, x ∈ Bundle.ownAtoms own ic cls names → x.holds args s none s [] = true := fun x hx => h x hx
  obtain ⟨T, Z0, L, -, Y⟩ := ThrowableC.of_atoms (args := args) howns hfin hpl (fun x hx => h x (by simp [Bundle.ownAtoms, hx]))
  obtain ⟨Z, M, LZ, LM, hnZ⟩ := Init0T.ofS_atoms (args := args) hpl L Y (fun x hx => h x (by simp [Bundle.ownAtoms, hx]))
  obtain ⟨P1, Ps, hlen, L1, hL, hP1m, hlink1, hlink⟩ := Bundle.chainS (args := args) hpl hnZ names cls hcls hnames (fun x hx => h x (by simp [Bundle.ownAtoms, hx]))
  have hfound : s.vm.findClass cls = some P1.m.cls := findClass_of_methodNamed hP1m
  cases Option.some.inj (hfoundX.symm.trans hfound)
  obtain ⟨c1, kX', hc1, hk, hord, -, -, hn6⟩ := Cond.instantiable_spec (a' (.instantiable cls 6) (by simp [Bundle.ownAtoms]))
  cases Option.some.inj (hc1.symm.trans hfound)
  cases Option.some.inj (hkX.symm.trans hk)
  have hsel0 : selectMethod e.platform s.vm P1.m.cls T.fill0 = .method T.fill0 := by
    obtain ⟨c2, r2, m2, q1, q2, q3, q4, -⟩ := Cond.selects_spec (a' (.selects cls Bundle.tFill0 Bundle.tFill0) (by simp [Bundle.ownAtoms]))
    cases Option.some.inj (q1.symm.trans hfound)
    cases Option.some.inj (q2.symm.trans (State.methodFound?_of_named Y.fill0 (by decide)))
    cases Option.some.inj (q3.symm.trans Y.fill0)
    rw [Launch.admits_selectMethod X.admits]; exact q4
  have hselF : selectMethod e.platform s.vm P1.m.cls T.fill = .method T.fill := by
    obtain ⟨c2, r2, m2, q1, q2, q3, q4, -⟩ := Cond.selects_spec (a' (.selects cls Bundle.tFill Bundle.tFill) (by simp [Bundle.ownAtoms]))
    cases Option.some.inj (q1.symm.trans hfound)
    cases Option.some.inj (q2.symm.trans (State.methodFound?_of_named Y.fill (by decide)))
    cases Option.some.inj (q3.symm.trans Y.fill)
    rw [Launch.admits_selectMethod X.admits]; exact q4
  obtain ⟨cellS0, hcS0, hiss⟩ := Y.statics
  obtain ⟨u0, hu0⟩ := Cond.staticRefV Y.unassigned L.unassignedStatic L.statics hcS0 hiss (a' (.isRef (.static Bundle.tN "UNASSIGNED_STACK" Bundle.steD)) (by simp [Bundle.ownAtoms]))
  obtain ⟨sen, hsen⟩ := Cond.staticRefV Y.sentinel L.sentinelStatic L.statics hcS0 hiss (a' (.isRef (.static Bundle.tN "SUPPRESSED_SENTINEL" Bundle.listD)) (by simp [Bundle.ownAtoms]))
  obtain ⟨ci198, i198, fB, hk198, hg198, ha198, hsB, -, hnB, htB, hffB⟩ := Cond.ownField (t := .object "java/lang/Object") Y.found L.cls (by decide +kernel) (a' (.fieldLink Bundle.tN 198 Bundle.tN "backtrace" "Ljava/lang/Object;") (by simp [Bundle.ownAtoms])) (a' (.lays Bundle.tN Bundle.tN "backtrace" "Ljava/lang/Object;") (by simp [Bundle.ownAtoms])) e.platform hpl
  obtain ⟨cellS, hcS', heS, -, hkeep⟩ := X.same.2.2.2.2.2 T.aS cellS0 hcS0
  have hcellS : W.heap[T.aS]? = some cellS := hcS'
  obtain ⟨hout', hneS⟩ := hlow _ _ hcS0 hiss
  have hknownS : cellS.vm ≠ .unknown := by
    rw [heS]; intro hu
    rw [show cellS0.vm = .unknown from hu] at hiss
    cases hiss
  obtain ⟨iM, hffM⟩ := Y.msg
  obtain ⟨tyC, dC, hdC, hdnC⟩ := Cond.laysAt hfound hk Y.cause (a' (.lays cls Bundle.tN "cause" "Ljava/lang/Throwable;") (by simp [Bundle.ownAtoms]))
  obtain ⟨tyS, dS, hdS, hdnS⟩ := Cond.laysAt hfound hk Y.stack (a' (.lays cls Bundle.tN "stackTrace" Bundle.steD) (by simp [Bundle.ownAtoms]))
  obtain ⟨tyP, dP, hdP, hdnP⟩ := Cond.laysAt hfound hk Y.supp (a' (.lays cls Bundle.tN "suppressedExceptions" Bundle.listD) (by simp [Bundle.ownAtoms]))
  obtain ⟨tyM, dM, hdM, hdnM⟩ := Cond.laysAt hfound hk hffM (a' (.lays cls Bundle.tN "detailMessage" "Ljava/lang/String;") (by simp [Bundle.ownAtoms]))
  obtain ⟨tyB, dB, hdB, hdnB⟩ := Cond.laysAt hfound hk hffB (a' (.lays cls Bundle.tN "backtrace" "Ljava/lang/Object;") (by simp [Bundle.ownAtoms]))
  have bC := Cond.laysApart hdB hdC hdnB hdnC (by rw [hnB, Y.causeName]; decide)
  have bS := Cond.laysApart hdB hdS hdnB hdnS (by rw [hnB, Y.stackName]; decide)
  have bP := Cond.laysApart hdB hdP hdnB hdnP (by rw [hnB, Y.suppName]; decide)
  have hskip : SkipFacts T e.platform s (fun u => u) u0 ((preparedCellV T.toThrowableT (freshCell P1.m.cls kX) a u0 sen).withEntry W.cur) :=
    ⟨{ ci198 := ci198, i198 := i198, fBack := fB }, ⟨hk198, hg198, ha198, hsB⟩, by
      have := fresh_default (c := P1.m.cls) tyB
      rw [htB] at this
      simpa [preparedCellV, Cell.setSlot, Cell.withEntry, Array.getElem?_setIfInBounds, bC, bS, bP, bC.symm, bS.symm, bP.symm, defaultValue] using this, fun _ _ => rfl⟩
  obtain ⟨tm, methC, cdC, kC, vm₁, hnC, -, -, -, -, -, -, -, hW₁, st1⟩ := Steps.initColdS (tb := p.tables) (e := e) (below := below) (s := s) (U := W) X.here hexec X.warmed hpl hown (t := Bundle.initS cls) rfl rfl (Bundle.fit_spec hcls).2
    (a' (.methodLink own ic (Bundle.initS cls)) (by simp [Bundle.ownAtoms])) (h (.instanceMethod (Bundle.initS cls)) (by cases names <;> simp [Bundle.ownAtoms, Bundle.chainSAtoms, Bundle.passSAtoms])) (bytes := Bundle.six) (maxL := 2) (h (.code (Bundle.initS cls) Bundle.six 2 none) (by cases names <;> simp [Bundle.ownAtoms, Bundle.chainSAtoms, Bundle.passSAtoms]))
    (f := g) hg (a := a) (msg := msg) (rest := rest) hstack hd6
  cases Option.some.inj (hnC.symm.trans hP1m)
  have X₁ := X.noted hW₁
  obtain ⟨vm₂, X₂, st2⟩ := X₁.ctorMessageOffV hexec (g := { g with stack := rest }) hg hsize T L Z LZ M LM (P1 :: Ps)
    (fun P hP => by rcases List.mem_cons.mp hP with rfl | hP; exact L1; exact hL P hP) ⟨hlink1, hlink⟩ (u0 := u0) (sen := sen) (self := a) hmsg (cell := freshCell P1.m.cls kX) (cellS := cellS)
    hcell (fun _ => by simp) (by simp) rfl rfl hsel0 hselF hcellS hneS hknownS (by rw [hkeep _ (hout' _)]; exact hu0) (by rw [hkeep _ (hout' _)]; exact hsen)
    (Takes.of_laid hk hord tyC (by rw [Y.causeType]; rfl)) (Takes.of_laid hk hord tyS (by rw [Y.stackType]; exact fits_refV_array _ u0)) (Takes.of_laid hk hord tyP (by rw [Y.suppType]; exact fits_refV_object _ sen))
    (Takes.of_laid hk hord tyM (by rw [Y.msgType]; exact fits_refV_object _ ⟨msg, hmsg⟩)) Y.objLocals hskip htr [] hd6
    (by simp only [List.length_cons, hlen]; omega) (by simp only [List.length_cons, hlen]; exact hRlocals)
  refine ⟨vm₂, _, _, X₂, fun q hq => ?_, rfl, rfl, fun target ht => st1 _ fun acts => ?_⟩
  · simp only [List.mem_cons, List.not_mem_nil, or_false] at hq
    rcases hq with rfl | rfl | rfl | rfl | rfl <;> rfl
  · rw [doInvoke_state]
    exact st2 _ ht
/-- a word that holds as long as the tables are warmed and the heap below base stays -/
def mv_kept (base : Nat) (w : Jvm.Cond) (s : State) : Prop := ∀ (args' : Array Value) (s' : State), s.WarmedH s'.vm → (∀ q : Nat, q < base → s'.heap[q]? = s.heap[q]?) → w.before args' s' = true
theorem mv_kept.use {base : Nat} {w : Jvm.Cond} {s : State} (h : mv_kept base w s) (args : Array Value) : w.before args s = true := h args s (State.WarmedH.refl s) fun _ _ => rfl
theorem mv_kept.moved {base : Nat} {w : Jvm.Cond} {s s1 : State} (h : mv_kept base w s) (hW : s.WarmedH s1.vm) (hh : ∀ q : Nat, q < base → s1.heap[q]? = s.heap[q]?) : mv_kept base w s1 := fun args' s' hW' hh' => h args' s' (State.WarmedH.trans hW hW') fun q hq => (hh' q hq).trans (hh q hq)
/-- what stands in the tables, or is kept, for the exception's constructor -/
def mv_okM8 (cl : List vw_C) (Ts Us : List Jvm.Cond) (G : mv_G) (own : String) (idx : Nat) : Prop := (∃ T : u_T, cl[mv_gX G]? = some (mv_ISE, T, 0)) ∧ ∀ w ∈ Bundle.ownAtoms own idx mv_ISE mv_up, w ∈ Ts ∨ w ∈ Us
def mv_okM7 (Ts : List Jvm.Cond) (own : String) (idx : Nat) : Prop := Cond.methodLink own idx arraycopyName ∈ Ts ∧ Cond.native arraycopyName ∈ Ts ∧ Cond.static arraycopyName ∈ Ts ∧ Cond.initialized "java/lang/System" ∈ Ts
section MVN
variable {base : Nat} {kt dA : Nat → Nat} {D : va_G} {cl : List vw_C} {nL : Nat} {p : Program} {l : Launch} {e : Env} {R : Room} {s : State} {m : MethodId} {args : Array Value} {below : List Frame} {meth : Method} {c : Code} {Q : State → Prop} {cc : ByteArray} {G : mv_G} {y pc : Nat} {lo : List (Nat × Value)} {st : List Value} {hp : List va_E} {cb sb fb lb : Nat} {S : mv_S} {Nm : Nat → MethodName} {Ts Us : List Jvm.Cond} {L : List FieldType}
theorem mv_inv_putL {H H1 : Heap} {ls : Array Slot} {locs locs' : List Loc} {cells slots pc' : Nat} {st' : List Value} (I : mv_inv base (mv_ad base kt) dA D cl nL R s (pc, lo, st, hp, cb, sb) H ls locs cells slots) {a : Nat} {e0 e1 : va_E} (h : hp[a]? = some e0)
    (he : va_at D cl (mv_ad base kt a, mv_e (mv_ad base kt) dA e1) H1) (z : H1.size = H.size) (oq : ∀ q : Nat, q ≠ mv_ad base kt a → H1[q]? = H[q]?) (hl : ∀ q ∈ locs', q.base = mv_ad base kt a) : mv_inv base (mv_ad base kt) dA D cl nL R s (pc', lo, st', hp.set a e1, cb, sb) H1 ls (locs ++ locs') cells slots := by
  have I1 := mv_inv_put (k := 0) (pc' := pc') (st' := st') I h he z oq
  obtain ⟨i1, i2, i3, i4, i5⟩ := I1
  refine ⟨i1, i2, i3, ⟨i4.1, i4.2.1, fun q hq => ?_⟩, i5⟩
  rcases List.mem_append.mp hq with h1 | h1
  · exact i4.2.2 q (List.mem_append.mpr (Or.inl h1))
  · show base ≤ q.base
    rw [hl q h1]
    exact i4.2.2 ⟨mv_ad base kt a, 0⟩ (List.mem_append.mpr (Or.inr (List.mem_singleton.mpr rfl)))
theorem mr_copy (hx : p.tables.exec = Jvm.exec) (hb : c.code = cc) (hml : c.maxLocals = nL) (hts : ∀ w ∈ Ts, w.before args s = true) {own : String} (hown : s.vm.findClass own = some m.cls) (hK : va_K D cl (mv_tys dA L) s) (hL : mv_okL L Ts G) {idx : Nat} (hok : mv_okM7 Ts own idx) (hdg : decode cc pc = .ok (.invokestatic idx, 3)) (hfb : fb ≤ R.frames) (hlb : lb ≤ R.locals)
    (h : mv_copy pc lo st hp cb sb fb lb = some S) (k : mv_K base (mv_ad base kt) dA D cl nL p l e R s m args below meth c Q S) : mv_K base (mv_ad base kt) dA D cl nL p l e R s m args below meth c Q (pc, lo, st, hp, cb, sb) := by
  intro H ls locs cells slots I
  unfold mv_copy at h
  split at h
  · rename_i n dp a1 sp a0 r
    split at h
    · rename_i t0 n0 f t1 n1 g h0 h1
      split at h
      · rename_i hc
        obtain ⟨⟨rfl, ht⟩, ⟨s1, s2, s3⟩, s4, s5, s6, s7, s8⟩ := hc
        cases h
        obtain ⟨at0, ad0, -⟩ := mv_inv_at I h0
        obtain ⟨at1, ad1, hl1⟩ := mv_inv_at I h1
        have hc0 : H[mv_ad base kt a0]? = some (vp_cell (dA t0) (n0, .inl f)) := at0
        have hc1 : H[mv_ad base kt a1]? = some (vp_cell (dA t0) (n1, .inl g)) := at1
        obtain ⟨ty, hty, hprim, hfit⟩ : ∃ ty : FieldType, L[t0]? = some ty ∧ refKind ty = false ∧ ∀ i, i < n.toNatClampNeg → fits ty (.int (f (sp.toNatClampNeg + i))) = true := by
          have hall : t0 ≠ 0 → ∀ i, i < n.toNatClampNeg → mv_fitT t0 (f (sp.toNatClampNeg + i)) = true := fun hne i hi => by
            rcases s6 with s6 | s6
            · exact absurd s6 hne
            · exact List.all_eq_true.mp s6 i (List.mem_range.mpr hi)
          have h012 : ∀ t : Nat, t < 3 → t = 0 ∨ t = 1 ∨ t = 2 := fun t h => by omega
          rcases h012 t0 ht with rfl | rfl | rfl
          · exact ⟨_, hL.1, rfl, fun _ _ => rfl⟩
          · exact ⟨_, hL.2.1, rfl, fun i hi => hall (by decide) i hi⟩
          · exact ⟨_, hL.2.2.1, rfl, fun i hi => hall (by decide) i hi⟩
        obtain ⟨k0, hk0⟩ := mv_tys_mem (dA := dA) hty
        obtain ⟨-, kk, hkk, cm, hkd⟩ := (hK.2 k0 _ hk0).1 n0 (fun j => .int (f j))
        have nn : ∀ z : Int32, ¬ z < 0 → z.toInt = (z.toNatClampNeg : Int) := by
          intro z hz
          have hz0 : (0 : Int) ≤ z.toInt := by
            have := Int32.not_lt.mp hz
            simpa using Int32.le_iff_toInt_le.mp this
          show z.toInt = ((z.toInt.toNat : Nat) : Int)
          omega
        obtain ⟨i1, -⟩ := id I
        have hsz : ls.size = c.maxLocals := i1.1.trans hml.symm
        intro T hT X
        obtain ⟨vm', X', step⟩ := X.arraycopy hx hown (hts _ hok.1) (hts _ hok.2.1) (hts _ hok.2.2.1) (hts _ hok.2.2.2) (src := mv_ad base kt a0) (dst := mv_ad base kt a1) (cs := vp_cell (dA t0) (n0, .inl f)) (cd := vp_cell (dA t0) (n1, .inl g)) (srcPos := sp) (destPos := dp) (n := n) (by rw [hT]; exact hc0) (by rw [hT]; exact hc1)
          (fun _ h => by cases h) (fun _ h => by cases h) (fun h => by cases h) (fun h => by cases h) hkk hkk hkd hkd (by simp [hprim]) s1 s2 s3
          (by rw [nn sp s1, nn n s3]; show ¬ _ > ((arrV (dA t0) n0 (fun j => .int (f j))).slots.size : Int); rw [arrV_size]; omega)
          (by rw [nn dp s2, nn n s3]; show ¬ _ > ((arrV (dA t0) n1 (fun j => .int (g j))).slots.size : Int); rw [arrV_size]; omega)
          (fun vm₁ _ i hi => by
            have e : (vp_cell (dA t0) (n0, .inl f)).slots.getD (sp.toNatClampNeg + i) .null = .int (f (sp.toNatClampNeg + i)) := by
              show (arrV (dA t0) n0 (fun j => .int (f j))).slots.getD _ _ = _
              rw [Array.getD_eq_getD_getElem?, arrV_read _ _ (by omega)]
              rfl
            refine ⟨?_, ?_⟩
            · rw [e]
              exact hfit i hi
            · rw [e]
              exact trivial)
          (g := F0 m pc ls (.int n :: .int dp :: .ref (mv_ad base kt a1) :: .int sp :: .ref (mv_ad base kt a0) :: r.map (mv_v (mv_ad base kt)))) rfl hsz (rest := r.map (mv_v (mv_ad base kt))) rfl (by rw [hb]; exact hdg) (Nat.le_trans s7 hfb) (by show 2 * 0 + ((r.map (mv_v (mv_ad base kt))).map fun v => v.category).sum + _ ≤ _; rw [List.map_map, show ((fun v : Value => v.category) ∘ mv_v (mv_ad base kt)) = (fun v : Value => v.category) from funext fun v => mv_v_cat _ v]; omega)
        have e1 : copied (vp_cell (dA t0) (n0, .inl f)) (vp_cell (dA t0) (n1, .inl g)) sp dp n = vp_cell (dA t0) (n1, .inl (va_cpy f g sp.toNatClampNeg dp.toNatClampNeg n.toNatClampNeg)) := va_copied (fun z => .int z) _ _ f g s4
        rw [e1] at X' step
        have hl : mv_ad base kt a1 < H.size := (Array.getElem?_eq_some_iff.mp hc1).1
        have hheap : ((T.setVm vm').setCell (mv_ad base kt a1) (vp_cell (dA t0) (n1, .inl (va_cpy f g sp.toNatClampNeg dp.toNatClampNeg n.toNatClampNeg)))).heap = H.setIfInBounds (mv_ad base kt a1) (vp_cell (dA t0) (n1, .inl (va_cpy f g sp.toNatClampNeg dp.toNatClampNeg n.toNatClampNeg))) := by rw [← hT]; rfl
        have I' := mv_inv_putL (pc' := pc + 3) (st' := r) (e1 := .inl (t0, n1, .inl (va_cpy f g sp.toNatClampNeg dp.toNatClampNeg n.toNatClampNeg))) (H1 := H.setIfInBounds (mv_ad base kt a1) (vp_cell (dA t0) (n1, .inl (va_cpy f g sp.toNatClampNeg dp.toNatClampNeg n.toNatClampNeg)))) (locs' := ((vp_cell (dA t0) (n0, .inl f)).stretch sp.toNatClampNeg n.toNatClampNeg).zipIdx.map fun q => ⟨mv_ad base kt a1, dp.toNatClampNeg + q.2⟩) I h1
          (by show (H.setIfInBounds _ _)[mv_ad base kt a1]? = some (vp_cell (dA t0) (n1, .inl _)); simp [Array.getElem?_setIfInBounds, hl]) (by simp) (fun q hq => by simp [Array.getElem?_setIfInBounds, Ne.symm hq]) (fun q hq => by
            obtain ⟨z, -, hz⟩ := List.mem_map.mp hq
            rw [← hz])
        obtain ⟨t, a, b⟩ := k _ ls _ cells slots I' _ hheap X'
        exact ⟨t, step t a, b⟩
      · cases h
    · cases h
  · cases h
theorem mv_none_at {H : Heap} {ls : Array Slot} {locs : List Loc} {cells slots : Nat} (I : mv_inv base (mv_ad base kt) dA D cl nL R s (pc, lo, st, hp, cb, sb) H ls locs cells slots) {a : Nat} {ce : Cell} (h : H[a]? = some ce) (hs : ce.vm.isStatics = true) : a < base := by
  rcases Nat.lt_or_ge a base with q | q
  · exact q
  · exfalso
    have hlt : a < H.size := (Array.getElem?_eq_some_iff.mp h).1
    have h3 : H.size = base + hp.length := I.2.2.1
    have h7 : hp.length + cb ≤ mv_big := I.2.2.2.2.2.2
    obtain ⟨e0, he⟩ : ∃ e0, hp[a - base]? = some e0 := ⟨_, List.getElem?_eq_getElem (by omega)⟩
    obtain ⟨at0, ad0, -⟩ := mv_inv_at I he
    rw [show mv_ad base kt (a - base) = a by rw [ad0]; omega] at at0
    rcases e0 with e0 | e0
    · obtain ⟨ci, q9, h9⟩ : ∃ (ci : ClassId) (q9 : vp_A), H[a]? = some (vp_cell ci q9) := by
        obtain ⟨t, n, f | f | f | f | f⟩ := e0 <;> exact ⟨_, _, at0⟩
      rw [h] at h9
      rw [Option.some.inj h9] at hs
      unfold vp_cell at hs
      split at hs <;> cases hs
    · obtain ⟨r, -, cell, q1, -, q3, -⟩ := at0
      rw [h] at q1
      cases q1
      rw [q3] at hs
      cases hs
theorem mr_made (hx : p.tables.exec = Jvm.exec) (htr : e.platform.stackTraces = false) (hb : c.code = cc) (hml : c.maxLocals = nL) (hts : ∀ w ∈ Ts, w.before args s = true) (hus : ∀ w ∈ Us, mv_kept base w s) {own : String} (hown : s.vm.findClass own = some m.cls) {tys : List (ClassId × FieldType)} (hK : va_K D cl tys s) (hI : ∀ q i n, mv_gI G y q = some (i, n) → decode cc q = .ok (i, n)) {idx : Nat}
    (hokN : ∀ (C : String) (T : u_T) (N : Nat), cl[mv_gX G]? = some (C, T, N) → Cond.classLink own idx C ∈ Ts ∧ Cond.instantiable C (mv_gZ G (mv_gX G)) ∈ Ts ∧ Cond.initialized C ∈ Ts) (hok8 : ∀ i3 z n, mv_gC G y i3 = some (8, z, n) → mv_okM8 cl Ts Us G own i3)
    (hstr : ∀ i2 a, mv_gK G y i2 = some (.ref a) → ∃ tx : String, vk_R own i2 tx (kt (a - mv_big)) s) (hdg : decode cc pc = .ok (.new idx, 3)) (hfb : fb ≤ R.frames) (hlb : lb ≤ R.locals)
    (h : mv_made G y pc lo st hp cb sb fb lb = some S) (k : mv_K base (mv_ad base kt) dA D cl nL p l e R s m args below meth c Q S) : mv_K base (mv_ad base kt) dA D cl nL p l e R s m args below meth c Q (pc, lo, st, hp, cb, sb) := by
  intro H ls locs cells slots I
  unfold mv_made at h
  split at h
  · rename_i i2 i3 e3 e4 e7
    split at h
    · rename_i a kd z0 n0 hk hc
      split at h
      · rename_i hq
        obtain ⟨rfl, c1, c2, c3, c4⟩ := hq
        cases h
        obtain ⟨⟨T0, hcl⟩, hw⟩ := hok8 _ _ _ hc
        obtain ⟨n1, n2, n3⟩ := hokN _ _ _ hcl
        have hat : ∀ w ∈ Bundle.ownAtoms own i3 mv_ISE mv_up, w.before args s = true := fun w hw' => by
          rcases hw w hw' with q | q
          · exact hts _ q
          · exact (hus _ q).use args
        have hKn := hK.1 _ _ hcl
        have hinst := hat (.instantiable mv_ISE 6) (by simp [Bundle.ownAtoms])
        obtain ⟨tx, hZ⟩ := hstr _ _ hk
        have I5 : cells + cb ≤ R.cells := I.2.2.2.2.1
        have I6 : slots + sb ≤ R.slots := I.2.2.2.2.2.1
        have hls : ls.size = c.maxLocals := I.1.1.trans hml.symm
        refine W.newcK hx hb hown (hts _ n1) hinst (hts _ n3) rfl hdg (by omega) (by omega) hKn.2.1 rfl fun H1 kC hkC e1 z1 o1 => ?_
        obtain ⟨I1, hz⟩ := mv_inv_new (pc' := pc + 3) (st' := .ref hp.length :: st) (H1 := H1) (e1 := .inr (mv_gX G, [])) (n := 6) I c1 c2 ⟨_, hcl, _, e1, rfl, rfl, fun k hk => absurd hk (Nat.not_lt_zero k)⟩ z1 o1
        refine lv_dup hx hb (hI _ _ _ e3) rfl ?_
        refine mv_ldcwS hx hb hown hZ (hI _ _ _ e4) ?_
        intro T hT X
        have hlow : ∀ (aS : Nat) (c0 : Cell), s.heap[aS]? = some c0 → c0.vm.isStatics = true → (∀ i, (⟨aS, i⟩ : Loc) ∉ locs) ∧ aS ≠ H.size := by
          intro aS c0 h1 h2
          obtain ⟨cS, hS, heS, -, -⟩ := X.same.2.2.2.2.2 aS c0 h1
          have h3 : H1[aS]? = some cS := by rw [← hT]; exact hS
          have h4 := mv_none_at I1 h3 (by rw [heS]; exact h2)
          have hb2 : base ≤ H.size := by have h5 : H.size = base + hp.length := I.2.2.1; omega
          refine ⟨fun i hi => ?_, by omega⟩
          have h5 : base ≤ aS := I.2.2.2.1.2.2 _ hi
          omega
        obtain ⟨vm', ce, L1, X', hL1, q1, q2, step⟩ := mv_ctor X hx htr hown (cls := mv_ISE) (names := mv_up) (by decide +kernel) (by decide +kernel) hat hlow hKn.2.1 hkC (by rw [hT]; exact e1) (msg := .ref (kt (a - mv_big))) rfl (g := F0 m (pc + 7) ls (.ref (kt (a - mv_big)) :: .ref H.size :: .ref H.size :: st.map (mv_v (mv_ad base kt)))) rfl hls (rest := .ref H.size :: st.map (mv_v (mv_ad base kt))) rfl (by rw [hb]; exact hI _ _ _ e7)
          (by show 2 + 3 < R.frames; omega) (by
            show 2 * 0 + ((Value.ref H.size :: st.map (mv_v (mv_ad base kt))).map fun v => v.category).sum + (13 * (2 + 1) + 42) ≤ R.locals
            rw [List.map_cons, List.sum_cons, List.map_map, show ((fun v : Value => v.category) ∘ mv_v (mv_ad base kt)) = (fun v : Value => v.category) from funext fun v => mv_v_cat _ v]
            show 2 * 0 + (1 + _) + _ ≤ _
            omega)
        have hl : H.size < H1.size := by omega
        have hheap : ((T.setVm vm').setCell H.size ce).heap = H1.setIfInBounds H.size ce := by rw [← hT]; rfl
        have hat1 : (hp ++ [Sum.inr (mv_gX G, [])])[hp.length]? = some (Sum.inr (mv_gX G, []) : va_E) := by simp
        have I2 := mv_inv_putL (pc' := pc + 10) (st' := .ref hp.length :: st) (e1 := .inr (mv_gX G, [])) (H1 := H1.setIfInBounds H.size ce) (locs' := L1) I1 hat1
          (by
            rw [hz]
            exact ⟨_, hcl, ce, by show (H1.setIfInBounds H.size ce)[H.size]? = some ce; simp [Array.getElem?_setIfInBounds, hl], q1, q2, fun k hk => absurd hk (Nat.not_lt_zero k)⟩) (by simp) (fun q hq => by
              rw [hz] at hq
              simp [Array.getElem?_setIfInBounds, Ne.symm hq]) (fun q hq => by rw [hz]; exact hL1 q hq)
        have hset : (hp ++ [(Sum.inr (mv_gX G, []) : va_E)]).set hp.length (Sum.inr (mv_gX G, []) : va_E) = hp ++ [(Sum.inr (mv_gX G, []) : va_E)] := by simp
        rw [hset] at I2
        obtain ⟨t, b1, b2⟩ := mv_new_eq (H := H) hz k I2 _ hheap X'
        exact ⟨t, step t b1, b2⟩
      · cases h
    · cases h
  · cases h
/-- the arrays that were there before, as a state has them -/
def mv_okX (G : mv_G) (base : Nat) (kt : Nat → Nat) (s : State) : Prop := base ≤ s.heap.size ∧ (∀ a n f, mv_gS G a = some (n, f) → mv_big ≤ a ∧ kt (a - mv_big) < base ∧ va_X (kt (a - mv_big)) n f s s.heap) ∧ ∀ a tx, mv_gX2 G a = some tx → mv_big ≤ a ∧ tx.length < 2 ^ 31 ∧ ∃ v : Nat, st_SA (fun q => base ≤ q) (kt (a - mv_big)) v tx.length (fun j => tx.getD j 0) s s.heap
theorem mv_ad_big {a : Nat} (h : mv_big ≤ a) : mv_ad base kt a = kt (a - mv_big) := by
  rw [mv_ad, if_neg (by omega)]
theorem mr_xald (hx : p.tables.exec = Jvm.exec) (hb : c.code = cc) (hX : mv_okX G base kt s) (hdg : decode cc pc = .ok (.iaload, 1)) (h : mv_xald G pc lo st hp cb sb = some S) (k : mv_K base (mv_ad base kt) dA D cl nL p l e R s m args below meth c Q S) : mv_K base (mv_ad base kt) dA D cl nL p l e R s m args below meth c Q (pc, lo, st, hp, cb, sb) := by
  intro H ls locs cells slots I
  unfold mv_xald at h
  split at h
  · rename_i i a r
    split at h
    · rename_i n f hs
      split at h
      · rename_i ho
        cases h
        obtain ⟨h0, h1, -⟩ := hX
        obtain ⟨h2, h3, h4⟩ := h1 _ _ _ hs
        have e1 : (Value.int i :: Value.ref a :: r).map (mv_v (mv_ad base kt)) = .int i :: .ref (kt (a - mv_big)) :: r.map (mv_v (mv_ad base kt)) := by
          show Value.int i :: Value.ref (mv_ad base kt a) :: _ = _
          rw [mv_ad_big h2]
        show W p l e R s m args below meth c H locs cells slots Q (F0 m pc ls ((Value.int i :: Value.ref a :: r).map (mv_v (mv_ad base kt))))
        rw [e1]
        refine va_sld hx hb h4 (by omega) (show ¬ base ≤ _ by omega) I.2.2.2.1 ?_ hdg (k H ls locs cells slots I)
        intro q
        have : mv_out i n = true := decide_eq_true q
        rw [ho] at this
        cases this
      · cases h
    · cases h
  · cases h
theorem mr_xlen (hx : p.tables.exec = Jvm.exec) (hb : c.code = cc) (hX : mv_okX G base kt s) (hdg : decode cc pc = .ok (.arraylength, 1)) (h : mv_xlen G pc lo st hp cb sb = some S) (k : mv_K base (mv_ad base kt) dA D cl nL p l e R s m args below meth c Q S) : mv_K base (mv_ad base kt) dA D cl nL p l e R s m args below meth c Q (pc, lo, st, hp, cb, sb) := by
  intro H ls locs cells slots I
  unfold mv_xlen at h
  split at h
  · rename_i a r
    split at h
    · rename_i n f hs
      cases h
      obtain ⟨h0, h1, -⟩ := hX
      obtain ⟨h2, h3, h4⟩ := h1 _ _ _ hs
      have e1 : (Value.ref a :: r).map (mv_v (mv_ad base kt)) = .ref (kt (a - mv_big)) :: r.map (mv_v (mv_ad base kt)) := by
        show Value.ref (mv_ad base kt a) :: _ = _
        rw [mv_ad_big h2]
      show W p l e R s m args below meth c H locs cells slots Q (F0 m pc ls ((Value.ref a :: r).map (mv_v (mv_ad base kt))))
      rw [e1]
      exact va_slen hx hb h4 (by omega) (show ¬ base ≤ _ by omega) I.2.2.2.1 hdg (k H ls locs cells slots I)
    · cases h
  · cases h
def mv_okM9 (Ts : List Jvm.Cond) (own : String) (idx : Nat) : Prop := Cond.methodLink own idx Lib.objectInit ∈ Ts ∧ Cond.instanceMethod Lib.objectInit ∈ Ts ∧ Cond.code Lib.objectInit ⟨#[0xb1]⟩ 1 none ∈ Ts
theorem mr_oini (hx : p.tables.exec = Jvm.exec) (hb : c.code = cc) (hml : c.maxLocals = nL) (hts : ∀ w ∈ Ts, w.before args s = true) {own : String} (hown : s.vm.findClass own = some m.cls) {idx : Nat} (hok : mv_okM9 Ts own idx) (hdg : decode cc pc = .ok (.invokespecial idx, 3)) (hfb : fb ≤ R.frames) (hlb : lb ≤ R.locals)
    (h : mv_oini pc lo st hp cb sb fb lb = some S) (k : mv_K base (mv_ad base kt) dA D cl nL p l e R s m args below meth c Q S) : mv_K base (mv_ad base kt) dA D cl nL p l e R s m args below meth c Q (pc, lo, st, hp, cb, sb) := by
  intro H ls locs cells slots I
  unfold mv_oini at h
  split at h
  · rename_i a r
    split at h
    · rename_i hq
      cases h
      have hsz : ls.size = c.maxLocals := I.1.1.trans hml.symm
      exact W.objInit hx hb hown (hts _ hok.1) (hts _ hok.2.1) (hts _ hok.2.2) (g := F0 m pc ls ((Value.ref a :: r).map (mv_v (mv_ad base kt)))) rfl hsz (a := mv_ad base kt a) (rest := r.map (mv_v (mv_ad base kt))) rfl hdg (Nat.le_trans hq.1 hfb) (by
        show 2 * 0 + ((r.map (mv_v (mv_ad base kt))).map fun v => v.category).sum + 12 ≤ R.locals
        rw [List.map_map, show ((fun v : Value => v.category) ∘ mv_v (mv_ad base kt)) = (fun v : Value => v.category) from funext fun v => mv_v_cat _ v]
        omega) (k H ls locs cells slots I)
    · cases h
  · cases h
theorem mr_slen (hx : p.tables.exec = Jvm.exec) (hb : c.code = cc) (hml : c.maxLocals = nL) (hts : ∀ w ∈ Ts, w.before args s = true) {own : String} (hown : s.vm.findClass own = some m.cls) (hX : mv_okX G base kt s) {idx : Nat} (hok : GoodIn Ts (wsV own idx st_C st_y6 st_w6)) (hdg : decode cc pc = .ok (.invokevirtual idx, 3)) (hfb : fb ≤ R.frames) (hlb : lb ≤ R.locals)
    (h : mv_slen G pc lo st hp cb sb fb lb = some S) (k : mv_K base (mv_ad base kt) dA D cl nL p l e R s m args below meth c Q S) : mv_K base (mv_ad base kt) dA D cl nL p l e R s m args below meth c Q (pc, lo, st, hp, cb, sb) := by
  intro H ls locs cells slots I
  unfold mv_slen at h
  split at h
  · rename_i a r
    split at h
    · rename_i tx htx
      split at h
      · rename_i hq
        cases h
        obtain ⟨h2, h3, v, h4⟩ := hX.2.2 a tx htx
        obtain ⟨i1, i2, i3, i4, i5, i6, i7⟩ := id I
        dsimp only at i5 i6
        have h5 : st_S (kt (a - mv_big)) v tx.length (fun j => tx.getD j 0) s H := st_S.free (st_S.kept h4 fun q h8 h9 => i4.2.1 q h8 h9)
        have e1 : (Value.ref a :: r).map (mv_v (mv_ad base kt)) = .ref (kt (a - mv_big)) :: r.map (mv_v (mv_ad base kt)) := by
          show Value.ref (mv_ad base kt a) :: _ = _
          rw [mv_ad_big h2]
        show W p l e R s m args below meth c H locs cells slots Q (F0 m pc ls ((Value.ref a :: r).map (mv_v (mv_ad base kt))))
        rw [e1]
        refine st_go (va_runV (As := []) (rest := r.map (mv_v (mv_ad base kt))) ⟨hx, hb, hml, hown, hts⟩ (c_st6 l (kt (a - mv_big)) v tx.length (fun j => tx.getD j 0)) (cwV 0 hts hok rfl rfl rfl (by decide +kernel) ⟨by show 1 + 1 ≤ R.frames; omega, by show 8 + (1 + 11) + 20 ≤ R.locals; omega⟩) ⟨fun a U g mk q => ⟨q.1, st_S.moved (u := U) (U := U.calling g mk a) (Vm.Alike.refl U.vm) q.2⟩, (by obtain ⟨cell, z1, z2, z3, -⟩ := h5.1; exact ⟨cell, z1, z2, z3⟩), fun U hU hW => ⟨rfl, by show st_S _ _ _ _ U U.heap; rw [hU]; exact st_S.moved hW.alike h5⟩⟩ rfl rfl i1.1 rfl ?_ hdg ⟨by omega, by omega⟩) (k H ls locs cells slots I)
        show 2 * 0 + ((r.map (mv_v (mv_ad base kt))).map fun v => v.category).sum ≤ 8
        rw [List.map_map, show ((fun v : Value => v.category) ∘ mv_v (mv_ad base kt)) = (fun v : Value => v.category) from funext fun v => mv_v_cat _ v]
        omega
      · cases h
    · cases h
  · cases h
theorem mr_schr (hx : p.tables.exec = Jvm.exec) (hb : c.code = cc) (hml : c.maxLocals = nL) (hts : ∀ w ∈ Ts, w.before args s = true) {own : String} (hown : s.vm.findClass own = some m.cls) (hX : mv_okX G base kt s) {idx : Nat} (hok : GoodIn Ts (wsV own idx st_C st_y4 st_w4)) (hdg : decode cc pc = .ok (.invokevirtual idx, 3)) (hfb : fb ≤ R.frames) (hlb : lb ≤ R.locals)
    (h : mv_schr G pc lo st hp cb sb fb lb = some S) (k : mv_K base (mv_ad base kt) dA D cl nL p l e R s m args below meth c Q S) : mv_K base (mv_ad base kt) dA D cl nL p l e R s m args below meth c Q (pc, lo, st, hp, cb, sb) := by
  intro H ls locs cells slots I
  unfold mv_schr at h
  split at h
  · rename_i i a r
    split at h
    · rename_i tx htx
      split at h
      · rename_i hq
        cases h
        obtain ⟨h2, h3, v, h4⟩ := hX.2.2 a tx htx
        obtain ⟨i1, i2, i3, i4, i5, i6, i7⟩ := id I
        dsimp only at i5 i6
        have hin : vp_in i tx.length := fun q => of_decide_eq_false hq.1 q
        have h5 : st_S (kt (a - mv_big)) v tx.length (fun j => tx.getD j 0) s H := st_S.free (st_S.kept h4 fun q h8 h9 => i4.2.1 q h8 h9)
        have e1 : (Value.int i :: Value.ref a :: r).map (mv_v (mv_ad base kt)) = .int i :: .ref (kt (a - mv_big)) :: r.map (mv_v (mv_ad base kt)) := by
          show Value.int i :: Value.ref (mv_ad base kt a) :: _ = _
          rw [mv_ad_big h2]
        show W p l e R s m args below meth c H locs cells slots Q (F0 m pc ls ((Value.int i :: Value.ref a :: r).map (mv_v (mv_ad base kt))))
        rw [e1]
        refine st_go (va_runV (As := [.int i]) (rest := r.map (mv_v (mv_ad base kt))) ⟨hx, hb, hml, hown, hts⟩ (c_st4 l (kt (a - mv_big)) v tx.length (fun j => tx.getD j 0) i hin h3) (cwV 1 hts hok rfl rfl rfl (by decide +kernel) ⟨by show 3 + 1 ≤ R.frames; omega, by show 8 + (2 + 11) + 64 ≤ R.locals; omega⟩) ⟨fun a U g mk q => ⟨q.1, st_S.moved (u := U) (U := U.calling g mk a) (Vm.Alike.refl U.vm) q.2⟩, (by obtain ⟨cell, z1, z2, z3, -⟩ := h5.1; exact ⟨cell, z1, z2, z3⟩), fun U hU hW => ⟨rfl, by show st_S _ _ _ _ U U.heap; rw [hU]; exact st_S.moved hW.alike h5⟩⟩ rfl rfl i1.1 rfl ?_ hdg ⟨by omega, by omega⟩) (k H ls locs cells slots I)
        show 2 * 0 + ((r.map (mv_v (mv_ad base kt))).map fun v => v.category).sum ≤ 8
        rw [List.map_map, show ((fun v : Value => v.category) ∘ mv_v (mv_ad base kt)) = (fun v : Value => v.category) from funext fun v => mv_v_cat _ v]
        omega
      · cases h
    · cases h
  · cases h
theorem mr_aasA (hx : p.tables.exec = Jvm.exec) (hb : c.code = cc) (hts : ∀ w ∈ Ts, w.before args s = true) (hK : va_K D cl (mv_tys dA L) s) (hB : ∀ t t2, mv_gB G t = some t2 → ∃ ty : FieldType, (ty = .byte ∨ ty = .array .byte) ∧ L[t]? = some (.array ty) ∧ L[t2]? = some ty ∧ Cond.arrayOver (.array ty) ∈ Ts) (hdg : decode cc pc = .ok (.aastore, 1))
    (h : mv_aasA G pc lo st hp cb sb = some S) (k : mv_K base (mv_ad base kt) dA D cl nL p l e R s m args below meth c Q S) : mv_K base (mv_ad base kt) dA D cl nL p l e R s m args below meth c Q (pc, lo, st, hp, cb, sb) := by
  intro H ls locs cells slots I
  unfold mv_aasA at h
  split at h
  · rename_i b i a r
    split at h
    · rename_i t n g t2 z2 he hb0
      split at h
      · rename_i hq
        cases h
        obtain ⟨ty, hty, hLt, hLt2, hov⟩ := hB _ _ hq.1
        have hin : vp_in i n := fun q => of_decide_eq_false hq.2 q
        have hlt : i.toNatClampNeg < n := Nat.not_le.mp fun q => hin (Or.inr q)
        have h0 : ¬ i < 0 := fun q => hin (Or.inl q)
        obtain ⟨t0, ht0⟩ := mv_tys_mem (dA := dA) hLt
        obtain ⟨t1, ht1⟩ := mv_tys_mem (dA := dA) hLt2
        obtain ⟨hat, -, -⟩ := mv_inv_at I he
        obtain ⟨hbt, -, -⟩ := mv_inv_at I hb0
        obtain ⟨comp, c9, kA, q1, -, q2, q3, q4⟩ := arrayOverA_spec (hts _ hov)
        have e9 : c9 = dA t := Option.some.inj (q4.symm.trans (hK.2 t0 _ ht0).2)
        subst e9
        have e8 : comp = dA t2 := by
          have z := (hK.2 t1 _ ht1).2
          rcases hty with rfl | rfl <;> exact Option.some.inj (q1.symm.trans z)
        subst e8
        obtain ⟨-, kC, hkC, -⟩ := (hK.2 t1 _ ht1).1 0 (fun _ => .null)
        have hb1 : ∃ cell : Cell, H[mv_ad base kt b]? = some cell ∧ (∀ q, cell.vm ≠ .statics q) ∧ cell.cls = dA t2 := by
          obtain ⟨n2, f2 | f2 | f2 | f2 | f2⟩ := z2 <;> exact ⟨_, hbt, (fun q h => by cases h), rfl⟩
        obtain ⟨cell, b1, b2, b3⟩ := hb1
        refine W.aast hx hb hat (fun q h => by cases h) (fun h => by cases h) q2 q3 rfl hkC ⟨h0, by show _ < (arrV _ _ _).slots.size; rw [arrV_size]; exact hlt⟩ b1 b2 (by rw [b3]; exact hkC) (by rw [b3]; unfold Vm.assignable Vm.assignableAux; simp only [beq_self_eq_true, Bool.true_or]) rfl rfl hdg fun H1 e1 z oq => k H1 ls _ cells slots ?_
        refine mv_inv_put I he ?_ z oq
        show H1[mv_ad base kt a]? = some (vp_cell (dA t) (n, .inr (.inr (.inr (.inr (fun j => (va_up g i.toNatClampNeg (some b) j).map (mv_ad base kt)))))))
        rw [e1, mv_up_map, vp_cell_q]
        show some ((vp_cell (dA t) (n, .inr (.inr (.inr (.inr (fun j => (g j).map (mv_ad base kt))))))).setSlot i.toNatClampNeg _) = _
        rw [vp_cell_q, vp_cell_q, arrV_store]
        congr 2
        funext q
        by_cases hq9 : q = i.toNatClampNeg
        · subst hq9
          simp [updV, va_up, mv_v]
          rfl
        · simp [updV, va_up, hq9]
      · cases h
    · cases h
  · cases h
/-- the calls that have no bytecode: what stands in the tables -/
def mv_okN8 (Nm : Nat → MethodName) (cl : List vw_C) (Ts Us : List Jvm.Cond) (G : mv_G) : Prop := ∀ y idx kd z n, mv_gC G y idx = some (kd, z, n) → (kd = 7 → mv_okM7 Ts (Nm y).cls idx) ∧ (kd = 8 → mv_okM8 cl Ts Us G (Nm y).cls idx) ∧ (kd = 9 → mv_okM9 Ts (Nm y).cls idx) ∧ (kd = 10 → GoodIn Ts (wsV (Nm y).cls idx st_C st_y6 st_w6)) ∧ (kd = 11 → GoodIn Ts (wsV (Nm y).cls idx st_C st_y4 st_w4))
theorem mr_nat {Cd : Nat → ByteArray} (hV : mv_okG Nm Cd cl L Ts G) (hN : mv_okN8 Nm cl Ts Us G) (hL : mv_okL L Ts G) (hx : p.tables.exec = Jvm.exec) (htr : e.platform.stackTraces = false) (hb : c.code = Cd y) (hml : c.maxLocals = nL) (hts : ∀ w ∈ Ts, w.before args s = true) (hus : ∀ w ∈ Us, mv_kept base w s) (hown : s.vm.findClass (Nm y).cls = some m.cls) (hK : va_K D cl (mv_tys dA L) s) (hstr : mv_okT Nm G kt s y) (hX : mv_okX G base kt s) (hfb : fb ≤ R.frames) (hlb : lb ≤ R.locals) {S S' : mv_S}
    (h : mv_nat G y fb lb S = some S') (k : mv_K base (mv_ad base kt) dA D cl nL p l e R s m args below meth c Q S') : mv_K base (mv_ad base kt) dA D cl nL p l e R s m args below meth c Q S := by
  obtain ⟨pc, lo, st, hp, cb, sb⟩ := S
  unfold mv_nat at h
  split at h
  · rename_i idx hI
    split at h
    · rename_i kd z n hc
      split at h
      · rename_i hk
        exact mr_copy hx hb hml hts hown hK hL ((hN _ _ _ _ _ hc).1 hk) (hV.1 _ _ _ _ hI) hfb hlb h k
      · cases h
    · cases h
  · rename_i idx hI
    split at h
    · rename_i ci hc
      split at h
      · rename_i hci
        subst hci
        exact mr_made hx htr hb hml hts hus hown hK (fun q i n hq => hV.1 _ _ _ _ hq) (hV.2.2.1 _ _ _ hc).2 (fun i3 z n hq => (hN _ _ _ _ _ hq).2.1 rfl) (fun i2 a hq => (hstr _ _ hq).2) (hV.1 _ _ _ _ hI) hfb hlb h k
      · cases h
    · cases h
  · rename_i idx hI
    split at h
    · rename_i kd z n hc
      split at h
      · rename_i hk
        exact mr_oini hx hb hml hts hown ((hN _ _ _ _ _ hc).2.2.1 hk) (hV.1 _ _ _ _ hI) hfb hlb h k
      · cases h
    · cases h
  · rename_i idx hI
    split at h
    · rename_i kd z n hc
      split at h
      · rename_i hk
        exact mr_slen hx hb hml hts hown hX ((hN _ _ _ _ _ hc).2.2.2.1 hk) (hV.1 _ _ _ _ hI) hfb hlb h k
      · split at h
        · rename_i hk
          exact mr_schr hx hb hml hts hown hX ((hN _ _ _ _ _ hc).2.2.2.2 hk) (hV.1 _ _ _ _ hI) hfb hlb h k
        · cases h
    · cases h
  · rename_i hI
    exact mr_aasA hx hb hts hK hL.2.2.2.2.2.2.2 (hV.1 _ _ _ _ hI) h k
  · rename_i hI
    exact mr_xald hx hb hX (hV.1 _ _ _ _ hI) h k
  · rename_i hI
    exact mr_xlen hx hb hX (hV.1 _ _ _ _ hI) h k
  · cases h
end MVN
end
section
/-! the small machine: its run, and that the real machine does what it does -/
def mv_g (n k : Nat) (r : Option mv_R) : Option mv_R := if n = k then r else none
theorem mv_g_eq {n k : Nat} {r : Option mv_R} {x : mv_R} (h : mv_g n k r = some x) : n = k ∧ r = some x := by
  unfold mv_g at h
  split at h
  · rename_i e
    exact ⟨e, h⟩
  · cases h
def mv_og : Option mv_R → Option mv_R
  | some (.inl S) => some (.inl S)
  | _ => none
theorem mv_og_eq {r : Option mv_R} {x : mv_R} (h : mv_og r = some x) : ∃ S, x = .inl S ∧ r = some (.inl S) := by
  unfold mv_og at h
  split at h
  · cases h
    exact ⟨_, rfl, rfl⟩
  · cases h
def mv_ins (G : mv_G) (y pc : Nat) (l : List (Nat × Value)) (st : List Value) (hp : List va_E) (cb sb n : Nat) : Instr → Option mv_R
  | .aconst_null => mv_g n 1 (mv_push pc l st hp cb sb 1 .null)
  | .iconst v => mv_g n 1 (mv_push pc l st hp cb sb 1 (.int (Int32.ofInt v)))
  | .bipush v => mv_g n 2 (mv_push pc l st hp cb sb 2 (.int (Int8.ofInt v).toInt32))
  | .sipush v => mv_g n 3 (mv_push pc l st hp cb sb 3 (.int (Int16.ofInt v).toInt32))
  | .iload i => mv_g n 2 (mv_load pc l st hp cb sb i 2 mv_int)
  | .iload_n i => mv_g n 1 (mv_load pc l st hp cb sb i 1 mv_int)
  | .aload i => mv_g n 2 (mv_load pc l st hp cb sb i 2 mv_rfv)
  | .aload_n i => mv_g n 1 (mv_load pc l st hp cb sb i 1 mv_rfv)
  | .istore i => mv_g n 2 (mv_store G y pc l st hp cb sb i 2 mv_int)
  | .istore_n i => mv_g n 1 (mv_store G y pc l st hp cb sb i 1 mv_int)
  | .astore i => mv_g n 2 (mv_store G y pc l st hp cb sb i 2 mv_rfv)
  | .astore_n i => mv_g n 1 (mv_store G y pc l st hp cb sb i 1 mv_rfv)
  | .iadd => mv_g n 1 (mv_bin pc l st hp cb sb mv_f_iadd)
  | .isub => mv_g n 1 (mv_bin pc l st hp cb sb mv_f_isub)
  | .imul => mv_g n 1 (mv_bin pc l st hp cb sb mv_f_imul)
  | .iand => mv_g n 1 (mv_bin pc l st hp cb sb mv_f_iand)
  | .ior => mv_g n 1 (mv_bin pc l st hp cb sb mv_f_ior)
  | .ixor => mv_g n 1 (mv_bin pc l st hp cb sb mv_f_ixor)
  | .ishl => mv_g n 1 (mv_bin pc l st hp cb sb mv_f_ishl)
  | .ishr => mv_g n 1 (mv_bin pc l st hp cb sb mv_f_ishr)
  | .iushr => mv_g n 1 (mv_bin pc l st hp cb sb mv_f_iushr)
  | .idiv => mv_g n 1 (mv_dvd pc l st hp cb sb mv_f_idiv)
  | .irem => mv_g n 1 (mv_dvd pc l st hp cb sb mv_f_irem)
  | .ineg => mv_g n 1 (mv_un pc l st hp cb sb mv_f_ineg)
  | .i2b => mv_g n 1 (mv_un pc l st hp cb sb mv_f_i2b)
  | .i2c => mv_g n 1 (mv_un pc l st hp cb sb mv_f_i2c)
  | .dup => mv_g n 1 (mv_dup pc l st hp cb sb)
  | .pop => mv_g n 1 (mv_pop pc l st hp cb sb)
  | .dup_x1 => mv_g n 1 (mv_dupx pc l st hp cb sb)
  | .dup2 => mv_g n 1 (mv_dup2 pc l st hp cb sb)
  | .goto off => mv_g n 3 (mv_jump pc l hp cb sb off true st)
  | .ifnull off => mv_g n 3 (mv_ifn pc l st hp cb sb true off)
  | .ifnonnull off => mv_g n 3 (mv_ifn pc l st hp cb sb false off)
  | .getfield idx => mv_g n 3 (mv_get G y pc l st hp cb sb idx)
  | .putfield idx => mv_g n 3 (mv_put G y pc l st hp cb sb idx)
  | .new idx => mv_g n 3 (mv_new G y pc l st hp cb sb idx)
  | .newarray at_ => mv_g n 2 (mv_newa pc l st hp cb sb at_)
  | .anewarray idx => mv_g n 3 (mv_anew G y pc l st hp cb sb idx)
  | .iaload => mv_g n 1 (mv_iald pc l st hp cb sb)
  | .baload => mv_g n 1 (mv_bald pc l st hp cb sb)
  | .aaload => mv_g n 1 (mv_aald G pc l st hp cb sb)
  | .iastore => mv_g n 1 (mv_iast pc l st hp cb sb)
  | .bastore => mv_g n 1 (mv_bast pc l st hp cb sb)
  | .arraylength => mv_g n 1 (mv_alen G pc l st hp cb sb)
  | .ldc idx => mv_g n 2 (mv_ldc G y pc l st hp cb sb idx 2)
  | .ldc_w idx => mv_g n 3 (mv_ldc G y pc l st hp cb sb idx 3)
  | .multianewarray idx d => mv_g n 4 (mv_multi G y pc l st hp cb sb idx d)
  | .aastore => mv_g n 1 (mv_aast G pc l st hp cb sb)
  | .iinc i v => if n = 3 then mv_inc G y pc l st hp cb sb i v 3 else mv_g n 6 (mv_inc G y pc l st hp cb sb i v 6)
  | .ifCond c off => mv_g n 3 (mv_if pc l st hp cb sb c off)
  | .if_icmp c off => mv_g n 3 (mv_icmp pc l st hp cb sb c off)
  | .if_acmp c off => mv_g n 3 (mv_acmp pc l st hp cb sb c off)
  | .tableswitch d lw hg offs => mv_tsw pc l st hp cb sb d lw hg offs
  | .lookupswitch d ps => mv_lsw pc l st hp cb sb d ps
  | _ => none
/-- one instruction -/
def mv_exec (G : mv_G) (y : Nat) (S : mv_S) : Option mv_R := match mv_gI G y S.1 with
  | none => none
  | some (i, n) => match i with
    | .invokestatic idx => mv_g n 3 (mv_callS G y S.2.2.1 idx)
    | .invokevirtual idx => mv_g n 3 (mv_callV G y S.2.2.1 S.2.2.2.1 idx)
    | .invokespecial idx => mv_g n 3 (mv_callI G y S.2.2.1 idx)
    | .ireturn => mv_g n 1 (mv_iret G y S.2.2.1)
    | .areturn => mv_g n 1 (mv_aret G y S.2.2.1)
    | .return_ => mv_g n 1 (mv_vret G y S.2.2.1)
    | .athrow => mv_g n 1 (mv_throw S.2.2.1)
    | i => mv_og (mv_ins G y S.1 S.2.1 S.2.2.1 S.2.2.2.1 S.2.2.2.2.1 S.2.2.2.2.2 n i)
/-- a has been thrown at S: out of the method, or into its handler -/
def mv_take (G : mv_G) (y : Nat) (k : mv_S → Option mv_E) (a : Nat) (S : mv_S) : Option mv_E := match mv_hand (mv_gH G y) S.1 with
  | none => some (.inl a, S.2.2.2.1, S.2.2.2.2.1, S.2.2.2.2.2)
  | some (h, _) => match S.2.2.2.1[a]? with
    | some (.inr (ci, _)) => if ci = mv_gX G then k (h, S.2.1, [.ref a], S.2.2.2.1, S.2.2.2.2.1, S.2.2.2.2.2) else none
    | _ => none
def mv_run (G : mv_G) : Nat → Nat → Nat → Nat → mv_S → Option mv_E
  | 0, _, _, _, _ => none
  | n + 1, y, fb, lb, S => match mv_nat G y fb lb S with
   | some S' => mv_run G n y fb lb S'
   | none => match mv_exec G y S with
    | none => none
    | some (.inl S') => mv_run G n y fb lb S'
    | some (.inr (.inl (z, as, r, len))) =>
      if 1 ≤ fb ∧ (r.map fun v => v.category).sum + (mv_gL G z + 11) ≤ lb ∧ (lg_sl as).length ≤ mv_gL G z then
        match mv_run G n z (fb - 1) (lb - ((r.map fun v => v.category).sum + (mv_gL G z + 11))) (0, lv_args 0 as, [], S.2.2.2.1, S.2.2.2.2.1, S.2.2.2.2.2) with
        | none => none
        | some (.inr v, hp, cb, sb) => mv_run G n y fb lb (S.1 + len, S.2.1, v.toList ++ r, hp, cb, sb)
        | some (.inl a, hp, cb, sb) => mv_take G y (mv_run G n y fb lb) a (S.1, S.2.1, [], hp, cb, sb)
      else none
    | some (.inr (.inr (.inl v))) => some (.inr v, S.2.2.2.1, S.2.2.2.2.1, S.2.2.2.2.2)
    | some (.inr (.inr (.inr a))) => mv_take G y (mv_run G n y fb lb) a S
section MVX
variable {base : Nat} {kt dA : Nat → Nat} {D : va_G} {cl : List vw_C} {nL : Nat} {p : Program} {l : Launch} {e : Env} {R : Room} {s : State} {m : MethodId} {args : Array Value} {below : List Frame} {meth : Method} {c : Code} {Q : State → Prop} {cc : ByteArray} {G : mv_G} {y pc : Nat} {lo : List (Nat × Value)} {st : List Value} {hp : List va_E} {cb sb : Nat} {S : mv_S} {Nm : Nat → MethodName} {Cd : Nat → ByteArray} {Ts : List Cond} {L : List FieldType}
set_option maxHeartbeats 2000000 in
theorem mr_ins (hx : p.tables.exec = Jvm.exec) (hb : c.code = cc) (hn : mv_gL G y = nL) (hts : ∀ w ∈ Ts, w.before args s = true) (hown : s.vm.findClass (Nm y).cls = some m.cls) (hname : meth.name = (Nm y).name) (hK : va_K D cl (mv_tys dA L) s) (hV : mv_okG Nm Cd cl L Ts G) (hL : mv_okL L Ts G) (hE : mv_okE cl L G) (hstr : mv_okT Nm G kt s y) (hi : ∀ i j, i < mv_big → j < mv_big → mv_ad base kt i = mv_ad base kt j → i = j) {i : Instr} {n : Nat} (hdg : decode cc pc = .ok (i, n)) (h : mv_ins G y pc lo st hp cb sb n i = some (.inl S)) (k : mv_K base (mv_ad base kt) dA D cl nL p l e R s m args below meth c Q S) : mv_K base (mv_ad base kt) dA D cl nL p l e R s m args below meth c Q (pc, lo, st, hp, cb, sb) := by
  cases i
  case aaload =>
    obtain ⟨rfl, h⟩ := mv_g_eq h
    exact mr_aald hx hb hK hL.2.2.2.2.2.2.1 hdg h k
  case aastore =>
    obtain ⟨rfl, h⟩ := mv_g_eq h
    exact mr_aast hx hb hK hE hdg h k
  case aconst_null =>
    obtain ⟨rfl, h⟩ := mv_g_eq h
    exact mr_null hx hb hdg h k
  case aload i =>
    obtain ⟨rfl, h⟩ := mv_g_eq h
    exact mr_aload hx hb hdg h k
  case aload_n i =>
    obtain ⟨rfl, h⟩ := mv_g_eq h
    exact mr_aload_n hx hb hdg h k
  case anewarray idx =>
    obtain ⟨rfl, h⟩ := mv_g_eq h
    exact mr_anew hx hb hts hown hK hdg (hV.2.2.2.1 _ _) h k
  case areturn => cases h
  case arraylength =>
    obtain ⟨rfl, h⟩ := mv_g_eq h
    exact mr_alen hx hb hK hL.2.2.2.2.2.2.1 hdg h k
  case astore i =>
    obtain ⟨rfl, h⟩ := mv_g_eq h
    exact mr_astore hx hb hn hdg h k
  case astore_n i =>
    obtain ⟨rfl, h⟩ := mv_g_eq h
    exact mr_astore_n hx hb hn hdg h k
  case athrow => cases h
  case baload =>
    obtain ⟨rfl, h⟩ := mv_g_eq h
    exact mr_bald hx hb hK hL.2.1 hL.2.2.1 hdg h k
  case bastore =>
    obtain ⟨rfl, h⟩ := mv_g_eq h
    exact mr_bast hx hb hK hL.2.1 hL.2.2.1 hdg h k
  case bipush v =>
    obtain ⟨rfl, h⟩ := mv_g_eq h
    exact mr_bipush hx hb hdg h k
  case caload => cases h
  case castore => cases h
  case checkcast => cases h
  case d2f => cases h
  case d2i => cases h
  case d2l => cases h
  case dadd => cases h
  case daload => cases h
  case dastore => cases h
  case dcmp => cases h
  case dconst => cases h
  case ddiv => cases h
  case dload => cases h
  case dload_n => cases h
  case dmul => cases h
  case dneg => cases h
  case drem => cases h
  case dreturn => cases h
  case dstore => cases h
  case dstore_n => cases h
  case dsub => cases h
  case dup =>
    obtain ⟨rfl, h⟩ := mv_g_eq h
    exact mr_dup hx hb hdg h k
  case dup_x1 =>
    obtain ⟨rfl, h⟩ := mv_g_eq h
    exact mr_dup_x1 hx hb hdg h k
  case dup_x2 => cases h
  case dup2 =>
    obtain ⟨rfl, h⟩ := mv_g_eq h
    exact mr_dup2 hx hb hdg h k
  case dup2_x1 => cases h
  case dup2_x2 => cases h
  case f2d => cases h
  case f2i => cases h
  case f2l => cases h
  case fadd => cases h
  case faload => cases h
  case fastore => cases h
  case fcmp => cases h
  case fconst => cases h
  case fdiv => cases h
  case fload => cases h
  case fload_n => cases h
  case fmul => cases h
  case fneg => cases h
  case frem => cases h
  case freturn => cases h
  case fstore => cases h
  case fstore_n => cases h
  case fsub => cases h
  case getfield idx =>
    obtain ⟨rfl, h⟩ := mv_g_eq h
    exact mr_get hx hb hts hown hK hdg (fun ci k0 hf => (hV.2.1 _ _ _ _ hf).1) h k
  case getstatic => cases h
  case goto off =>
    obtain ⟨rfl, h⟩ := mv_g_eq h
    exact mr_goto hx hb hdg h k
  case goto_w => cases h
  case i2b =>
    obtain ⟨rfl, h⟩ := mv_g_eq h
    exact mr_i2b hx hb hdg h k
  case i2c =>
    obtain ⟨rfl, h⟩ := mv_g_eq h
    exact mr_i2c hx hb hdg h k
  case i2d => cases h
  case i2f => cases h
  case i2l => cases h
  case i2s => cases h
  case iadd =>
    obtain ⟨rfl, h⟩ := mv_g_eq h
    exact mr_iadd hx hb hdg h k
  case iaload =>
    obtain ⟨rfl, h⟩ := mv_g_eq h
    exact mr_iald hx hb hK hL.1 hdg h k
  case iand =>
    obtain ⟨rfl, h⟩ := mv_g_eq h
    exact mr_iand hx hb hdg h k
  case iastore =>
    obtain ⟨rfl, h⟩ := mv_g_eq h
    exact mr_iast hx hb hK hL.1 hdg h k
  case iconst v =>
    obtain ⟨rfl, h⟩ := mv_g_eq h
    exact mr_iconst hx hb hdg h k
  case idiv =>
    obtain ⟨rfl, h⟩ := mv_g_eq h
    exact mr_idiv hx hb hdg h k
  case if_acmp c0 off =>
    obtain ⟨rfl, h⟩ := mv_g_eq h
    cases c0
    case eq => exact mr_acmp_eq hx hb hi hdg h k
    case ne => exact mr_acmp_ne hx hb hi hdg h k
  case if_icmp c0 off =>
    obtain ⟨rfl, h⟩ := mv_g_eq h
    cases c0
    case eq => exact mr_icmp_eq hx hb hdg h k
    case ne => exact mr_icmp_ne hx hb hdg h k
    case lt => exact mr_icmp_lt hx hb hdg h k
    case ge => exact mr_icmp_ge hx hb hdg h k
    case gt => exact mr_icmp_gt hx hb hdg h k
    case le => exact mr_icmp_le hx hb hdg h k
  case ifCond c0 off =>
    obtain ⟨rfl, h⟩ := mv_g_eq h
    cases c0
    case eq => exact mr_if_eq hx hb hdg h k
    case ne => exact mr_if_ne hx hb hdg h k
    case lt => exact mr_if_lt hx hb hdg h k
    case ge => exact mr_if_ge hx hb hdg h k
    case gt => exact mr_if_gt hx hb hdg h k
    case le => exact mr_if_le hx hb hdg h k
  case ifnonnull off =>
    obtain ⟨rfl, h⟩ := mv_g_eq h
    exact mr_ifnonnull hx hb hdg h k
  case ifnull off =>
    obtain ⟨rfl, h⟩ := mv_g_eq h
    exact mr_ifnull hx hb hdg h k
  case iinc i v =>
    simp only [mv_ins] at h
    split at h
    · rename_i e
      subst e
      exact mr_inc hx hb hn hdg h k
    · obtain ⟨rfl, h⟩ := mv_g_eq h
      exact mr_incW hx hb hn hdg h k
  case iload i =>
    obtain ⟨rfl, h⟩ := mv_g_eq h
    exact mr_iload hx hb hdg h k
  case iload_n i =>
    obtain ⟨rfl, h⟩ := mv_g_eq h
    exact mr_iload_n hx hb hdg h k
  case imul =>
    obtain ⟨rfl, h⟩ := mv_g_eq h
    exact mr_imul hx hb hdg h k
  case ineg =>
    obtain ⟨rfl, h⟩ := mv_g_eq h
    exact mr_ineg hx hb hdg h k
  case instanceof => cases h
  case invokedynamic => cases h
  case invokeinterface => cases h
  case invokespecial => cases h
  case invokestatic => cases h
  case invokevirtual => cases h
  case ior =>
    obtain ⟨rfl, h⟩ := mv_g_eq h
    exact mr_ior hx hb hdg h k
  case irem =>
    obtain ⟨rfl, h⟩ := mv_g_eq h
    exact mr_irem hx hb hdg h k
  case ireturn => cases h
  case ishl =>
    obtain ⟨rfl, h⟩ := mv_g_eq h
    exact mr_ishl hx hb hdg h k
  case ishr =>
    obtain ⟨rfl, h⟩ := mv_g_eq h
    exact mr_ishr hx hb hdg h k
  case istore i =>
    obtain ⟨rfl, h⟩ := mv_g_eq h
    exact mr_istore hx hb hn hdg h k
  case istore_n i =>
    obtain ⟨rfl, h⟩ := mv_g_eq h
    exact mr_istore_n hx hb hn hdg h k
  case isub =>
    obtain ⟨rfl, h⟩ := mv_g_eq h
    exact mr_isub hx hb hdg h k
  case iushr =>
    obtain ⟨rfl, h⟩ := mv_g_eq h
    exact mr_iushr hx hb hdg h k
  case ixor =>
    obtain ⟨rfl, h⟩ := mv_g_eq h
    exact mr_ixor hx hb hdg h k
  case jsr => cases h
  case jsr_w => cases h
  case l2d => cases h
  case l2f => cases h
  case l2i => cases h
  case ladd => cases h
  case laload => cases h
  case land => cases h
  case lastore => cases h
  case lcmp => cases h
  case lconst => cases h
  case ldc idx =>
    obtain ⟨rfl, h⟩ := mv_g_eq h
    exact mr_ldc hx hb hts hown hdg (hV.2.2.2.2.1 _ _) (hstr _) h k
  case ldc_w idx =>
    obtain ⟨rfl, h⟩ := mv_g_eq h
    exact mr_ldcw hx hb hts hown hdg (hV.2.2.2.2.1 _ _) (hstr _) h k
  case ldc2_w => cases h
  case ldiv => cases h
  case lload => cases h
  case lload_n => cases h
  case lmul => cases h
  case lneg => cases h
  case lookupswitch d ps => exact mr_lsw hx hb hdg h k
  case lor => cases h
  case lrem => cases h
  case lreturn => cases h
  case lshl => cases h
  case lshr => cases h
  case lstore => cases h
  case lstore_n => cases h
  case lsub => cases h
  case lushr => cases h
  case lxor => cases h
  case monitorenter => cases h
  case monitorexit => cases h
  case multianewarray idx d =>
    obtain ⟨rfl, h⟩ := mv_g_eq h
    exact mr_multi hx hb hts hown hK hdg (hV.2.2.2.2.2.1 _ _) h k
  case new idx =>
    obtain ⟨rfl, h⟩ := mv_g_eq h
    exact mr_new hx hb hts hown hK hdg (fun ci hf => (hV.2.2.1 _ _ _ hf).1) (fun ci C T N hf hc => (hV.2.2.1 _ _ _ hf).2 C T N hc) h k
  case newarray at_ =>
    obtain ⟨rfl, h⟩ := mv_g_eq h
    exact mr_newa hx hb hts hK hL.1 hL.2.1 hL.2.2.1 hL.2.2.2.1 hL.2.2.2.2.1 hL.2.2.2.2.2.1 hdg h k
  case nop => cases h
  case pop =>
    obtain ⟨rfl, h⟩ := mv_g_eq h
    exact mr_pop hx hb hdg h k
  case pop2 => cases h
  case putfield idx =>
    obtain ⟨rfl, h⟩ := mv_g_eq h
    exact mr_put hx hb hts hown hK hdg (fun ci k0 hf => (hV.2.1 _ _ _ _ hf).1) (fun ci k0 hf => (hV.2.1 _ _ _ _ hf).2.1) (fun ci k0 hf h1 h2 => mv_okP_of hname ((hV.2.1 _ _ _ _ hf).2.2 h1 h2)) h k
  case putstatic => cases h
  case ret => cases h
  case return_ => cases h
  case saload => cases h
  case sastore => cases h
  case sipush v =>
    obtain ⟨rfl, h⟩ := mv_g_eq h
    exact mr_sipush hx hb hdg h k
  case swap => cases h
  case tableswitch d lw hg offs => exact mr_tsw hx hb hdg h k
end MVX
/-- where the small machine stands in the method y: what is known of the real one's frame -/
def mv_C (Nm : Nat → MethodName) (Cd : Nat → ByteArray) (cl : List vw_C) (L : List FieldType) (Ts Us : List Cond) (G : mv_G) (base : Nat) (kt dA : Nat → Nat) (D : va_G) (y : Nat) (p : Program) (e : Env) (s : State) (m : MethodId) (args : Array Value) (meth : Method) (c : Code) : Prop :=
  p.tables.exec = Jvm.exec ∧ c.code = Cd y ∧ meth.locks = false ∧ meth.sig.returnType = mv_gR G y ∧ c.maxLocals = mv_gL G y ∧ s.vm.findClass (Nm y).cls = some m.cls ∧ (∀ w ∈ Ts, w.before args s = true) ∧ va_K D cl (mv_tys dA L) s ∧ base ≤ s.heap.size ∧ c.exceptionTable.toList.map mv_proj = mv_gH G y ∧ meth.name = (Nm y).name ∧ (∀ z, mv_okT Nm G kt s z) ∧ e.platform.stackTraces = false ∧ (∀ w ∈ Us, mv_kept base w s) ∧ mv_okX G base kt s
theorem mv_weaken {tb : Tables} {e : Env} {g : JFrame} {below : List Frame} {a b : State} (h : Steps tb e (.java g :: below) a b) : Steps tb e below a b := by
  obtain ⟨n, h1, h2⟩ := h
  exact ⟨n, h1, fun k hk => Within.weaken (mid := [.java g]) (h2 k hk)⟩
theorem mv_sl_len (ad : Nat → Nat) : ∀ vs : List Value, (lg_sl (vs.map (mv_v ad))).length = (lg_sl vs).length
  | [] => rfl
  | v :: r => by
    have ih := mv_sl_len ad r
    unfold lg_sl at ih ⊢
    rw [List.map_cons, List.flatMap_cons, List.flatMap_cons, List.length_append, List.length_append, ih, mv_v_cat]
    split <;> rfl
theorem mv_args_l (ad : Nat → Nat) : ∀ (vs : List Value) (i : Nat), mv_l ad (lv_args i vs) = lv_args i (vs.map (mv_v ad))
  | [], _ => rfl
  | v :: r, i => by
    rw [List.map_cons, lv_args, lv_args, mv_v_cat]
    show (i, mv_v ad v) :: mv_l ad _ = _
    rw [mv_args_l ad r]
theorem mv_cats (ad : Nat → Nat) (r : List Value) : ((r.map (mv_v ad)).map fun v => v.category) = r.map fun v => v.category := by
  rw [List.map_map]
  apply List.map_congr_left
  intro v _
  exact mv_v_cat ad v
section MVY
variable {base : Nat} {kt dA : Nat → Nat} {D : va_G} {cl : List vw_C} {G : mv_G} {Nm : Nat → MethodName} {Cd : Nat → ByteArray} {Ts Us : List Cond} {L : List FieldType}
/-- what kind of thing an instruction comes to -/
theorem mv_no_callS {y idx : Nat} {st : List Value} {x : mv_R} (h : mv_callS G y st idx = some x) : ∃ q, x = .inr (.inl q) := by
  unfold mv_callS at h
  split at h
  · split at h
    · cases h
      exact ⟨_, rfl⟩
    · cases h
  · cases h
theorem mv_no_callV {y idx : Nat} {st : List Value} {hp : List va_E} {x : mv_R} (h : mv_callV G y st hp idx = some x) : ∃ q, x = .inr (.inl q) := by
  unfold mv_callV at h
  split at h
  · split at h
    · split at h
      · split at h
        · cases h
          exact ⟨_, rfl⟩
        · cases h
      · cases h
    · cases h
  · cases h
theorem mv_no_callI {y idx : Nat} {st : List Value} {x : mv_R} (h : mv_callI G y st idx = some x) : ∃ q, x = .inr (.inl q) := by
  unfold mv_callI at h
  split at h
  · split at h
    · split at h
      · cases h
        exact ⟨_, rfl⟩
      · cases h
    · cases h
  · cases h
theorem mv_no_iret {y : Nat} {st : List Value} {x : mv_R} (h : mv_iret G y st = some x) : ∃ q, x = .inr (.inr (.inl q)) := by
  unfold mv_iret at h
  split at h
  · split at h
    · split at h
      · cases h
        exact ⟨_, rfl⟩
      · cases h
    · cases h
  · cases h
theorem mv_no_aret {y : Nat} {st : List Value} {x : mv_R} (h : mv_aret G y st = some x) : ∃ q, x = .inr (.inr (.inl q)) := by
  unfold mv_aret at h
  split at h
  · split at h
    · split at h
      · cases h
        exact ⟨_, rfl⟩
      · cases h
    · cases h
  · cases h
theorem mv_no_vret {y : Nat} {st : List Value} {x : mv_R} (h : mv_vret G y st = some x) : ∃ q, x = .inr (.inr (.inl q)) := by
  unfold mv_vret at h
  split at h
  · split at h
    · cases h
      exact ⟨_, rfl⟩
    · cases h
  · cases h
theorem mv_no_throw {st : List Value} {x : mv_R} (h : mv_throw st = some x) : ∃ q, x = .inr (.inr (.inr q)) := by
  unfold mv_throw at h
  split at h
  · cases h
    exact ⟨_, rfl⟩
  · cases h
theorem mv_exec_go {y : Nat} {S S' : mv_S} (h : mv_exec G y S = some (.inl S')) : ∃ i n, mv_gI G y S.1 = some (i, n) ∧ mv_ins G y S.1 S.2.1 S.2.2.1 S.2.2.2.1 S.2.2.2.2.1 S.2.2.2.2.2 n i = some (.inl S') := by
  obtain ⟨pc, lo, st, hp, cb, sb⟩ := S
  unfold mv_exec at h
  split at h
  · cases h
  · rename_i i n hI
    refine ⟨i, n, hI, ?_⟩
    split at h
    case h_8 =>
      obtain ⟨S2, e2, h3⟩ := mv_og_eq h
      cases e2
      exact h3
    all_goals
      obtain ⟨-, h3⟩ := mv_g_eq h
      first
      | (obtain ⟨q9, h4⟩ := mv_no_callS h3; cases h4; done)
      | (obtain ⟨q9, h4⟩ := mv_no_callV h3; cases h4; done)
      | (obtain ⟨q9, h4⟩ := mv_no_callI h3; cases h4; done)
      | (obtain ⟨q9, h4⟩ := mv_no_iret h3; cases h4; done)
      | (obtain ⟨q9, h4⟩ := mv_no_aret h3; cases h4; done)
      | (obtain ⟨q9, h4⟩ := mv_no_vret h3; cases h4; done)
      | (obtain ⟨q9, h4⟩ := mv_no_throw h3; cases h4; done)
theorem mv_exec_ret {y : Nat} {S : mv_S} {v : Option Value} (h : mv_exec G y S = some (.inr (.inr (.inl v)))) : (mv_gI G y S.1 = some (.ireturn, 1) ∧ mv_iret G y S.2.2.1 = some (.inr (.inr (.inl v)))) ∨ (mv_gI G y S.1 = some (.areturn, 1) ∧ mv_aret G y S.2.2.1 = some (.inr (.inr (.inl v)))) ∨ (mv_gI G y S.1 = some (.return_, 1) ∧ mv_vret G y S.2.2.1 = some (.inr (.inr (.inl v)))) := by
  obtain ⟨pc, lo, st, hp, cb, sb⟩ := S
  unfold mv_exec at h
  split at h
  · cases h
  · rename_i i n hI
    split at h
    case h_4 =>
      obtain ⟨rfl, h3⟩ := mv_g_eq h
      exact Or.inl ⟨hI, h3⟩
    case h_5 =>
      obtain ⟨rfl, h3⟩ := mv_g_eq h
      exact Or.inr (Or.inl ⟨hI, h3⟩)
    case h_6 =>
      obtain ⟨rfl, h3⟩ := mv_g_eq h
      exact Or.inr (Or.inr ⟨hI, h3⟩)
    case h_8 =>
      obtain ⟨S2, e2, h3⟩ := mv_og_eq h
      cases e2
    all_goals
      obtain ⟨-, h3⟩ := mv_g_eq h
      first
      | (obtain ⟨q9, h4⟩ := mv_no_callS h3; cases h4; done)
      | (obtain ⟨q9, h4⟩ := mv_no_callV h3; cases h4; done)
      | (obtain ⟨q9, h4⟩ := mv_no_callI h3; cases h4; done)
      | (obtain ⟨q9, h4⟩ := mv_no_throw h3; cases h4; done)
theorem mv_exec_throw {y : Nat} {S : mv_S} {a : Nat} (h : mv_exec G y S = some (.inr (.inr (.inr a)))) : mv_gI G y S.1 = some (.athrow, 1) ∧ mv_throw S.2.2.1 = some (.inr (.inr (.inr a))) := by
  obtain ⟨pc, lo, st, hp, cb, sb⟩ := S
  unfold mv_exec at h
  split at h
  · cases h
  · rename_i i n hI
    split at h
    case h_7 =>
      obtain ⟨rfl, h3⟩ := mv_g_eq h
      exact ⟨hI, h3⟩
    case h_8 =>
      obtain ⟨S2, e2, h3⟩ := mv_og_eq h
      cases e2
    all_goals
      obtain ⟨-, h3⟩ := mv_g_eq h
      first
      | (obtain ⟨q9, h4⟩ := mv_no_callS h3; cases h4; done)
      | (obtain ⟨q9, h4⟩ := mv_no_callV h3; cases h4; done)
      | (obtain ⟨q9, h4⟩ := mv_no_callI h3; cases h4; done)
      | (obtain ⟨q9, h4⟩ := mv_no_iret h3; cases h4; done)
      | (obtain ⟨q9, h4⟩ := mv_no_aret h3; cases h4; done)
      | (obtain ⟨q9, h4⟩ := mv_no_vret h3; cases h4; done)
/-- a call: the method's code, and that the real machine comes to its invocation -/
theorem mv_exec_call {y : Nat} {S : mv_S} {z len : Nat} {as r : List Value} (h : mv_exec G y S = some (.inr (.inl (z, as, r, len)))) (hV : mv_okG Nm Cd cl L Ts G) : len = 3 ∧ mv_okM Nm Cd Ts G z ∧ ∃ i, mv_gI G y S.1 = some (i, 3) ∧ ∀ {p : Program} {l : Launch} {e : Env} {R : Room} {s : State} {m : MethodId} {args : Array Value} {below : List Frame} {meth : Method} {c : Code} {T : State} {locs : List Loc} {cells slots : Nat} {ls : Array Slot} {nL : Nat}, Stand p l e R s m args below meth c T locs cells slots → mv_C Nm Cd cl L Ts Us G base kt dA D y p e s m args meth c → mv_inv base (mv_ad base kt) dA D cl nL R s S T.heap ls locs cells slots → mv_Arr p l e R s m args below meth c T locs cells slots (Nm z) S.1 ls (S.2.2.1.map (mv_v (mv_ad base kt))) (as.map (mv_v (mv_ad base kt))) (r.map (mv_v (mv_ad base kt))) := by
  obtain ⟨pc, lo, st, hp, cb, sb⟩ := S
  unfold mv_exec at h
  split at h
  · cases h
  · rename_i i n hI
    have hdg := hV.1 _ _ _ _ hI
    split at h
    case h_1 idx =>
      obtain ⟨rfl, h3⟩ := mv_g_eq h
      unfold mv_callS at h3
      split at h3
      · rename_i kd z0 na hgc
        split at h3
        · rename_i hc
          cases h3
          obtain ⟨o1, o2⟩ := (hV.2.2.2.2.2.2.1 _ _ _ _ _ hgc).1 hc.1
          refine ⟨rfl, o1, _, hI, fun {p l e R s m args below meth c T locs cells slots ls nL} X C I => ?_⟩
          obtain ⟨hx, hb, -, -, -, hown, hts, -⟩ := C
          exact mv_arrS X hx hb hown hts o1 o2 hc.2 hdg
        · cases h3
      · cases h3
    case h_2 idx =>
      obtain ⟨rfl, h3⟩ := mv_g_eq h
      unfold mv_callV at h3
      split at h3
      · rename_i kd z0 na hgc
        split at h3
        · rename_i a r0 hst
          split at h3
          · rename_i ci fs ho
            split at h3
            · rename_i hc
              cases h3
              obtain ⟨o1, o2⟩ := (hV.2.2.2.2.2.2.1 _ _ _ _ _ hgc).2.1 hc.1
              refine ⟨rfl, o1, _, hI, fun {p l e R s m args below meth c T locs cells slots ls nL} X C I => ?_⟩
              obtain ⟨hx, hb, -, -, -, hown, hts, hK, -⟩ := C
              obtain ⟨hat, -, -⟩ := mv_inv_at I ho
              rw [hc.2] at hat
              exact mv_arrV X hx hb hown hts o1 o2 hK hst hat hdg
            · cases h3
          · cases h3
        · cases h3
      · cases h3
    case h_3 idx =>
      obtain ⟨rfl, h3⟩ := mv_g_eq h
      unfold mv_callI at h3
      split at h3
      · rename_i kd z0 na hgc
        split at h3
        · rename_i a r0 hst
          split at h3
          · rename_i hc
            cases h3
            obtain ⟨o1, o2⟩ := (hV.2.2.2.2.2.2.1 _ _ _ _ _ hgc).2.2 hc
            refine ⟨rfl, o1, _, hI, fun {p l e R s m args below meth c T locs cells slots ls nL} X C I => ?_⟩
            obtain ⟨hx, hb, -, -, -, hown, hts, -⟩ := C
            exact mv_arrI X hx hb hown hts o1 o2 hst hdg
          · cases h3
        · cases h3
      · cases h3
    case h_8 =>
      obtain ⟨S2, e2, h3⟩ := mv_og_eq h
      cases e2
    all_goals
      obtain ⟨-, h3⟩ := mv_g_eq h
      first
      | (obtain ⟨q9, h4⟩ := mv_no_iret h3; cases h4; done)
      | (obtain ⟨q9, h4⟩ := mv_no_aret h3; cases h4; done)
      | (obtain ⟨q9, h4⟩ := mv_no_vret h3; cases h4; done)
      | (obtain ⟨q9, h4⟩ := mv_no_throw h3; cases h4; done)
/-- a word that stays true while the tables are warmed -/
def mv_stay (w : Jvm.Cond) : Prop := ∀ (args a' : Array Value) (s U : State), s.WarmedH U.vm → w.before args s = true → w.before a' U = true
/-- THE MACHINE: where the small machine comes to an end, the real one does, and its end is that one -/
theorem mv_sound (hV : mv_okG Nm Cd cl L Ts G) (hN : mv_okN8 Nm cl Ts Us G) (hL : mv_okL L Ts G) (hE : mv_okE cl L G) (hgood : ∀ w ∈ Ts, mv_stay w) (hi : ∀ i j, i < mv_big → j < mv_big → mv_ad base kt i = mv_ad base kt j → i = j) :
    ∀ (n y fb lb : Nat) (S : mv_S) (E : mv_E), mv_run G n y fb lb S = some E → ∀ (p : Program) (l : Launch) (e : Env) (R : Room) (s : State) (m : MethodId) (args : Array Value) (below : List Frame) (meth : Method) (c : Code), mv_C Nm Cd cl L Ts Us G base kt dA D y p e s m args meth c → fb ≤ R.frames → lb ≤ R.locals → mv_K base (mv_ad base kt) dA D cl (mv_gL G y) p l e R s m args below meth c (mv_Z base (mv_ad base kt) dA D cl R s below E) S
  | 0, _, _, _, _, _, h => by cases h
  | n + 1, y, fb, lb, S, E, h => by
    intro p l e R s m args below meth c C hfb hlb
    obtain ⟨hx, hb, hlocks, hret, hml, hown, hts, hK, hbase, hhand, hname, hstr, htr, hus, hX⟩ := id C
    have take : ∀ (a pc : Nat) (lo : List (Nat × Value)) (st : List Value) (hp : List va_E) (cb sb : Nat), mv_take G y (mv_run G n y fb lb) a (pc, lo, st, hp, cb, sb) = some E → mv_KT base (mv_ad base kt) dA D cl (mv_gL G y) p l e R s m args below meth c (mv_Z base (mv_ad base kt) dA D cl R s below E) (pc, lo, st, hp, cb, sb) a := by
      intro a pc lo st hp cb sb ht
      unfold mv_take at ht
      split at ht
      · rename_i hf
        cases ht
        exact mr_out hlocks hbase (mv_hand_none _ (by rw [hhand]; exact hf)) a
      · rename_i h9 ct hf
        split at ht
        · rename_i ci fs ho
          split at ht
          · rename_i hci
            subst hci
            obtain ⟨hct, CC, T0, N0, hC, hlk⟩ := hV.2.2.2.2.2.2.2 _ _ _ _ hf
            exact mr_catch hts hown hK hhand hf ho hC hct hlk (mv_sound hV hN hL hE hgood hi n y fb lb _ _ ht p l e R s m args below meth c C hfb hlb)
          · cases ht
        · cases ht
    obtain ⟨pc, lo, st, hp, cb, sb⟩ := S
    unfold mv_run at h
    split at h
    · rename_i S' hnat
      exact mr_nat hV hN hL hx htr hb hml hts hus hown hK (hstr y) hX hfb hlb hnat (mv_sound hV hN hL hE hgood hi n y fb lb S' E h p l e R s m args below meth c C hfb hlb)
    split at h
    · cases h
    · rename_i S' hex
      have k := mv_sound hV hN hL hE hgood hi n y fb lb S' E h p l e R s m args below meth c C hfb hlb
      obtain ⟨i, len, hI, h3⟩ := mv_exec_go hex
      exact mr_ins hx hb rfl hts hown hname hK hV hL hE (hstr y) hi (hV.1 _ _ _ _ hI) h3 k
    · rename_i z as r len hex
      split at h
      · rename_i hroom
        obtain ⟨hr1, hr2, hr3⟩ := hroom
        obtain ⟨rfl, hMz, ig, hI, harr⟩ := mv_exec_call (base := base) (kt := kt) (dA := dA) (D := D) hex hV
        have hdg := hV.1 _ _ _ _ hI
        intro H ls locs cells slots I T hT X
        subst hT
        obtain ⟨mk, vm₁, X₁, hnm, arr⟩ := harr X C I
        obtain ⟨i1, i2, i3, i4, i5, i6, i7⟩ := I
        dsimp only at i1 i2 i3 i4 i5 i6 i7 arr hdg h
        obtain ⟨mk', methk, ck, hn1, hm1, hc1, hcd, hcl, hcr, hck, hch, -⟩ := mv_meth hMz hts
        cases hnm.symm.trans hn1
        have hal : s.vm.Alike (T.setVm vm₁).vm := X₁.warmed.alike
        have hm2 : (T.setVm vm₁).vm.method? mk = some methk := by rw [hal.method?]; exact hm1
        have hnU : (T.setVm vm₁).methodNamed? (Nm z) = some mk := X₁.named hnm
        have hpk : (T.setVm vm₁).plainMethod mk := State.plainMethod.of_named hMz.2.1 hnU hm2
        obtain ⟨R', hR'⟩ : ∃ R' : Room, R' = { frames := fb - 1, cells := cb, slots := sb, locals := lb - ((r.map fun v => v.category).sum + (mv_gL G z + 11)) } := ⟨_, rfl⟩
        have hsz : ls.size = c.maxLocals := i1.1.trans hml.symm
        obtain ⟨g, hg⟩ : ∃ g : JFrame, g = F0 m pc ls (r.map (mv_v (mv_ad base kt))) := ⟨_, rfl⟩
        obtain ⟨av, hav⟩ : ∃ av : Array Value, av = (as.map (mv_v (mv_ad base kt))).toArray := ⟨_, rfl⟩
        obtain ⟨Xin, hdo⟩ := X₁.into (g := g) (by rw [hg]) (by rw [hg]; exact hsz) (by rw [hg, hb]; exact hdg) (mk := mk) av (R' := R') hm2 hc1 hck hpk (by rw [hR']; show fb - 1 + 1 ≤ R.frames; omega) (by rw [hR', hg]; show 2 * 0 + ((r.map (mv_v (mv_ad base kt))).map fun v => v.category).sum + (ck.maxLocals + 11) + (lb - _) ≤ R.locals; rw [mv_cats, hcl]; omega) (by rw [hR']; exact i5) (by rw [hR']; exact i6)
        obtain ⟨s', hs'⟩ : ∃ s' : State, s' = (T.setVm vm₁).calling g mk av := ⟨_, rfl⟩
        have hvm' : s'.vm = (T.setVm vm₁).vm := by rw [hs']; rfl
        have hheap' : s'.heap = T.heap := by rw [hs']; rfl
        have hW' : s.WarmedH s'.vm := by rw [hvm']; exact X₁.warmed
        have hn' : s'.methodNamed? (Nm z) = some mk := by rw [hs']; exact hnU
        have hm' : s'.vm.method? mk = some methk := by rw [hvm']; exact hm2
        have C1 : mv_C Nm Cd cl L Ts Us G base kt dA D z p e s' mk av methk ck := ⟨hx, hcd, hck, hcr, hcl, findClass_of_methodNamed hn', fun w hw => hgood w hw _ _ _ _ hW' (hts w hw), va_K.moved hW'.alike hK, by rw [hheap', i3]; omega, hch, (name_of_methodNamed hn' hm').1, fun z0 idx a ha => by
          obtain ⟨h1, tx, h2⟩ := hstr z0 idx a ha
          exact ⟨h1, tx, vk_R.warm hW' h2⟩, htr, fun w hw => (hus w hw).moved hW' fun q hq => by rw [hheap']; exact i4.2.1 q (by omega) (by show ¬ base ≤ q; omega), by rw [hheap', i3]; omega, (fun a n f hs => by
            obtain ⟨x1, x2, x3⟩ := hX.2.1 a n f hs
            exact ⟨x1, x2, (x3.moved hW'.alike).kept (by rw [hheap']; exact i4.2.1 _ (by omega) (by show ¬ base ≤ _; omega))⟩), fun a tx hs => by
            obtain ⟨x1, x2, v, x3⟩ := hX.2.2 a tx hs
            exact ⟨x1, x2, v, st_S.kept (st_S.moved hW'.alike x3) fun q h8 h9 => by rw [hheap']; exact i4.2.1 q h8 h9⟩⟩
        split at h
        · cases h
        · rename_i v hp' cb' sb' hrun
          have k1 := mv_sound hV hN hL hE hgood hi n z (fb - 1) (lb - ((r.map fun v => v.category).sum + (mv_gL G z + 11))) _ _ hrun p l e R' s' mk av (.java g :: below) methk ck C1 (by rw [hR']; exact Nat.le_refl _) (by rw [hR']; exact Nat.le_refl _)
          have k2 := mv_sound hV hN hL hE hgood hi n y fb lb _ _ h p l e R s m args below meth c C hfb hlb
          rw [← hs'] at Xin
          obtain ⟨TT, hTT⟩ : ∃ TT : State, TT = ((T.setVm vm₁).setTop g).pushFrame (.java (entryFrame mk av ck.maxLocals)) := ⟨_, rfl⟩
          have hdo2 := hdo []
          rw [← hTT] at Xin hdo2
          have hTh : TT.heap = T.heap := by rw [hTT]; rfl
          have hgoL : (lg_sl (as.map (mv_v (mv_ad base kt)))).length ≤ mv_gL G z := by rw [mv_sl_len]; exact hr3
          have hent : entryFrame mk av ck.maxLocals = F0 mk 0 ((lg_sl (as.map (mv_v (mv_ad base kt))) ++ List.replicate (mv_gL G z - (lg_sl (as.map (mv_v (mv_ad base kt)))).length) Slot.unset).toArray) [] := by rw [hav, hcl]; exact lg_entry_eq mk _ _
          have Iin : mv_inv base (mv_ad base kt) dA D cl (mv_gL G z) R' s' (0, lv_args 0 as, [], hp, cb, sb) T.heap ((lg_sl (as.map (mv_v (mv_ad base kt))) ++ List.replicate (mv_gL G z - (lg_sl (as.map (mv_v (mv_ad base kt)))).length) Slot.unset).toArray) [] 0 0 := by
            refine ⟨?_, i2, i3, ?_, ?_, ?_, i7⟩
            · show lv_has _ _ (mv_l (mv_ad base kt) (lv_args 0 as))
              rw [mv_args_l]
              exact lv_entry _ hgoL
            · rw [hheap']
              exact va_S.rf
            · rw [hR']
              show 0 + cb ≤ cb
              omega
            · rw [hR']
              show 0 + sb ≤ sb
              omega
          obtain ⟨t, hst, o, hrn, hend, ho, hP1, hz1, hold, hW1, ⟨L1, kk, nn, hk1, hn1, hsame, hL1⟩, hbig⟩ := k1 T.heap _ [] 0 0 Iin TT hTh Xin
          have hk1' : kk + cb' ≤ cb := by rw [hR'] at hk1; exact hk1
          have hn1' : nn + sb' ≤ sb := by rw [hR'] at hn1; exact hn1
          subst ho
          rw [hs'] at hW1 hsame
          obtain ⟨T2, X2, -, -, ht⟩ := X₁.outOf (g := g) (by rw [hg]) (by rw [hg, hb]; exact hdg) hend hW1 hsame
          have hh : T2.heap = t.heap := by rw [ht]; rfl
          have I2 : mv_inv base (mv_ad base kt) dA D cl (mv_gL G y) R s (pc + 3, lo, v.toList ++ r, hp', cb', sb') t.heap ls (locs ++ L1) (cells + kk) (slots + nn) := by
            refine ⟨i1, hP1, hz1, ⟨?_, ?_, ?_⟩, ?_, ?_, hbig⟩
            · have h9 := X2.same.2.1
              show s.heap.size ≤ t.heap.size
              rw [← hh]
              exact h9
            · intro q h8 h9
              have e1 := hold q (by omega)
              rw [hheap'] at e1
              rw [e1]
              exact i4.2.1 q h8 h9
            · intro q hq
              rcases List.mem_append.mp hq with hq | hq
              · exact i4.2.2 q hq
              · exact hL1 q hq
            · show cells + kk + cb' ≤ R.cells
              omega
            · show slots + nn + sb' ≤ R.slots
              omega
          obtain ⟨t2, h2, q2⟩ := k2 t.heap ls (locs ++ L1) (cells + kk) (slots + nn) I2 T2 hh X2
          refine ⟨t2, arr t2 ?_, q2⟩
          rw [hent] at hdo2
          rw [← hg, ← hav, hdo2]
          refine Steps.trans (mv_weaken hst) ?_
          rw [ht]
          have hfr : ({ g with pc := g.pc + 3, stack := (v.map (mv_v (mv_ad base kt))).toList ++ g.stack } : JFrame) = F0 m (pc + 3) ls ((v.toList ++ r).map (mv_v (mv_ad base kt))) := by
            rw [hg]
            cases v <;> rfl
          rw [hfr]
          exact h2
        · rename_i a hp' cb' sb' hrun
          have k1 := mv_sound hV hN hL hE hgood hi n z (fb - 1) (lb - ((r.map fun v => v.category).sum + (mv_gL G z + 11))) _ _ hrun p l e R' s' mk av (.java g :: below) methk ck C1 (by rw [hR']; exact Nat.le_refl _) (by rw [hR']; exact Nat.le_refl _)
          have k2 := take _ _ _ _ _ _ _ h
          rw [← hs'] at Xin
          obtain ⟨TT, hTT⟩ : ∃ TT : State, TT = ((T.setVm vm₁).setTop g).pushFrame (.java (entryFrame mk av ck.maxLocals)) := ⟨_, rfl⟩
          have hdo2 := hdo []
          rw [← hTT] at Xin hdo2
          have hTh : TT.heap = T.heap := by rw [hTT]; rfl
          have hgoL : (lg_sl (as.map (mv_v (mv_ad base kt)))).length ≤ mv_gL G z := by rw [mv_sl_len]; exact hr3
          have hent : entryFrame mk av ck.maxLocals = F0 mk 0 ((lg_sl (as.map (mv_v (mv_ad base kt))) ++ List.replicate (mv_gL G z - (lg_sl (as.map (mv_v (mv_ad base kt)))).length) Slot.unset).toArray) [] := by rw [hav, hcl]; exact lg_entry_eq mk _ _
          have Iin : mv_inv base (mv_ad base kt) dA D cl (mv_gL G z) R' s' (0, lv_args 0 as, [], hp, cb, sb) T.heap ((lg_sl (as.map (mv_v (mv_ad base kt))) ++ List.replicate (mv_gL G z - (lg_sl (as.map (mv_v (mv_ad base kt)))).length) Slot.unset).toArray) [] 0 0 := by
            refine ⟨?_, i2, i3, ?_, ?_, ?_, i7⟩
            · show lv_has _ _ (mv_l (mv_ad base kt) (lv_args 0 as))
              rw [mv_args_l]
              exact lv_entry _ hgoL
            · rw [hheap']
              exact va_S.rf
            · rw [hR']
              show 0 + cb ≤ cb
              omega
            · rw [hR']
              show 0 + sb ≤ sb
              omega
          obtain ⟨t, hst, o, hrn, hend, ho, hP1, hz1, hold, hW1, ⟨L1, kk, nn, hk1, hn1, hsame, hL1⟩, hbig⟩ := k1 T.heap _ [] 0 0 Iin TT hTh Xin
          have hk1' : kk + cb' ≤ cb := by rw [hR'] at hk1; exact hk1
          have hn1' : nn + sb' ≤ sb := by rw [hR'] at hn1; exact hn1
          subst ho
          rw [hs'] at hW1 hsame
          obtain ⟨T2, X2, -, -, ht⟩ := X₁.outOfThrown (g := g) (by rw [hg]) hend hW1 hsame
          have hh : T2.heap = t.heap := by rw [ht]; rfl
          have I2 : mv_inv base (mv_ad base kt) dA D cl (mv_gL G y) R s (pc, lo, [], hp', cb', sb') t.heap ls (locs ++ L1) (cells + kk) (slots + nn) := by
            refine ⟨i1, hP1, hz1, ⟨?_, ?_, ?_⟩, ?_, ?_, hbig⟩
            · have h9 := X2.same.2.1
              show s.heap.size ≤ t.heap.size
              rw [← hh]
              exact h9
            · intro q h8 h9
              have e1 := hold q (by omega)
              rw [hheap'] at e1
              rw [e1]
              exact i4.2.1 q h8 h9
            · intro q hq
              rcases List.mem_append.mp hq with hq | hq
              · exact i4.2.2 q hq
              · exact hL1 q hq
            · show cells + kk + cb' ≤ R.cells
              omega
            · show slots + nn + sb' ≤ R.slots
              omega
          obtain ⟨t2, h2, q2⟩ := k2 t.heap ls (locs ++ L1) (cells + kk) (slots + nn) (r.map (mv_v (mv_ad base kt))) I2 T2 hh X2
          refine ⟨t2, arr t2 ?_, q2⟩
          rw [hent] at hdo2
          rw [← hg, ← hav, hdo2]
          refine Steps.trans (mv_weaken hst) ?_
          rw [ht, hg]
          exact h2
      · cases h
    · rename_i v hex
      cases h
      rcases mv_exec_ret hex with ⟨hI, h3⟩ | ⟨hI, h3⟩ | ⟨hI, h3⟩
      · exact mr_iret hx hb hlocks hret hbase (hV.1 _ _ _ _ hI) h3
      · exact mr_aret hx hb hlocks hret hbase (hV.1 _ _ _ _ hI) h3
      · exact mr_vret hx hb hlocks hret hbase (hV.1 _ _ _ _ hI) h3
    · rename_i a hex
      obtain ⟨hI, h3⟩ := mv_exec_throw hex
      exact mr_throw hx hb (hV.1 _ _ _ _ hI) h3 (take a pc lo st hp cb sb h)
end MVY
end
section
/-! the tables of the small machine for this class and law, each word of them by its place in tables_1 -/
def mt_o : List String := ["RefactorHouseLaw", "RefactorHouse", "RefactorHouse$Reader", "RefactorHouse$Judge", "RefactorHouse$Machine", "RefactorHouse$Edits", "RefactorHouse$Change", "RefactorHouse$Finder", "RefactorHouse$Prog", "RefactorHouse$History", "java/util/Arrays", "java/lang/Math", "RefactorHouse$Decl", "RefactorHouse$Stat", "RefactorHouse$Exp", "RefactorHouseModel", "RefactorHouseModel$Program", "RefactorHouseModel$Tokens", "java/lang/IllegalStateException"]
def mt_own (n : Nat) : String := mt_o.getD n ""
def mt_m : List (Nat × String × String) := [(0, "law", "([I)Z"), (1, "<init>", "()V"), (2, "<init>", "()V"), (3, "<init>", "()V"), (4, "<init>", "()V"), (5, "<init>", "()V"), (6, "<init>", "(LRefactorHouse$Edits;)V"), (7, "<init>", "()V"), (8, "<init>", "(III)V"), (9, "<init>", "()V"), (1, "feed", "(IIIII)I"), (1, "feedOne", "(I)V"), (1, "cut", "(I)I"), (1, "load", "(I)I"), (8, "copyTexts", "(LRefactorHouse$Prog;)V"), (8, "classesBeside", "(I)I"), (2, "readProgram", "(LRefactorHouse$Prog;II)I"), (2, "start", "(LRefactorHouse$Prog;)V"), (8, "clear", "()V"), (10, "fill", "([II)V"), (2, "open", "(II)V"), (2, "scan", "(I)V"), (11, "min", "(II)I"), (2, "skip", "([BII)I"), (2, "measure", "([BII)I"), (1, "isLetter", "(I)Z"), (1, "isLetterOrDigit", "(I)Z"), (1, "wordOrName", "([BII)I"), (1, "isDigit", "(I)Z"), (2, "signOfTwo", "(II)I"), (2, "signOfOne", "(I)I"), (2, "numberOf", "(I)I"), (8, "byteAt", "(I)I"), (8, "isTextOf", "(ILRefactorHouse$Prog;I)Z"), (2, "peek", "()I"), (2, "readClass", "(Z)V"), (2, "want", "(Z)V"), (2, "fail", "(I)V"), (2, "wantName", "(Z)V"), (2, "newDecl", "(II)LRefactorHouse$Decl;"), (12, "<init>", "()V"), (12, "reset", "(III)V"), (2, "readMember", "(LRefactorHouse$Decl;Z)LRefactorHouse$Decl;"), (2, "isTypeAtHand", "()Z"), (2, "readParams", "(LRefactorHouse$Decl;)V"), (2, "newStat", "(LRefactorHouse$Stat;)LRefactorHouse$Stat;"), (13, "<init>", "()V"), (13, "reset", "(ILRefactorHouse$Stat;)V"), (2, "block", "(LRefactorHouse$Stat;I)V"), (2, "enter", "(I)V"), (2, "statement", "(ILRefactorHouse$Stat;)LRefactorHouse$Stat;"), (2, "branch", "(LRefactorHouse$Stat;I)V"), (2, "exp", "(I)LRefactorHouse$Exp;"), (2, "unary", "(I)LRefactorHouse$Exp;"), (2, "operand", "(I)LRefactorHouse$Exp;"), (2, "simple", "(I)LRefactorHouse$Exp;"), (2, "newExp", "(IIILRefactorHouse$Exp;)LRefactorHouse$Exp;"), (14, "<init>", "()V"), (14, "reset", "(II)V"), (2, "valueOf", "(I)I"), (2, "call", "(IILRefactorHouse$Exp;I)LRefactorHouse$Exp;"), (2, "strength", "(I)I"), (2, "joined", "(LRefactorHouse$Exp;II)LRefactorHouse$Exp;"), (8, "codeAt", "(I)I"), (2, "readFront", "(LRefactorHouse$Stat;)V"), (1, "adopt", "()V"), (7, "forget", "()V"), (9, "forget", "()V"), (8, "tokensOf", "(I)I"), (1, "place", "()I"), (1, "size", "(I)I"), (1, "octet", "(II)I"), (1, "token", "(II)I"), (8, "tokenAt", "(I)I"), (1, "sortOf", "(I)I"), (1, "judge", "()I"), (1, "judged", "()Z"), (3, "look", "(LRefactorHouse$Prog;)V"), (3, "lookAtClasses", "()V"), (3, "classMeant", "(I)LRefactorHouse$Decl;"), (3, "tell", "(II)V"), (12, "isHeirOf", "(LRefactorHouse$Decl;)Z"), (3, "lookAtTypes", "()V"), (3, "typeTold", "(I)I"), (3, "lookAtMembers", "()V"), (12, "isMember", "()Z"), (3, "lookAtOwn", "(LRefactorHouse$Decl;)V"), (8, "sameTold", "(LRefactorHouse$Decl;LRefactorHouse$Decl;)Z"), (3, "lookAbove", "(LRefactorHouse$Decl;)V"), (3, "typeOf", "(LRefactorHouse$Exp;)I"), (3, "faulty", "(II)I"), (3, "typeOfName", "(LRefactorHouse$Exp;)I"), (3, "variable", "(LRefactorHouse$Decl;I)LRefactorHouse$Decl;"), (3, "isKnown", "(LRefactorHouse$Decl;I)Z"), (3, "field", "(LRefactorHouse$Decl;II)LRefactorHouse$Decl;"), (3, "suits", "(LRefactorHouse$Decl;I)Z"), (3, "typeOfMeant", "(LRefactorHouse$Exp;LRefactorHouse$Decl;)I"), (3, "typeOfField", "(LRefactorHouse$Exp;)I"), (3, "classInFront", "(LRefactorHouse$Exp;)LRefactorHouse$Decl;"), (8, "classOf", "(I)LRefactorHouse$Decl;"), (3, "typeOfCall", "(LRefactorHouse$Exp;)I"), (3, "takes", "(LRefactorHouse$Decl;LRefactorHouse$Exp;)Z"), (8, "param", "(LRefactorHouse$Decl;I)LRefactorHouse$Decl;"), (8, "fits", "(II)Z"), (3, "nearest", "(I)LRefactorHouse$Decl;"), (8, "overrides", "(LRefactorHouse$Decl;LRefactorHouse$Decl;)Z"), (3, "isCloser", "(LRefactorHouse$Decl;LRefactorHouse$Decl;)Z"), (3, "isWanted", "(LRefactorHouse$Exp;I)Z"), (3, "typeOfBoth", "(LRefactorHouse$Exp;)I"), (3, "typeOfSame", "(LRefactorHouse$Exp;LRefactorHouse$Exp;)I"), (3, "lookAtStatements", "()V"), (3, "canEnd", "(LRefactorHouse$Stat;)Z"), (3, "isFitting", "(LRefactorHouse$Exp;I)V"), (3, "isSound", "(LRefactorHouse$Exp;)Z"), (3, "lookAtGets", "(LRefactorHouse$Exp;LRefactorHouse$Exp;)V"), (3, "lookAtReturn", "(LRefactorHouse$Stat;)V"), (3, "lookAtTellings", "()V"), (3, "settle", "()V"), (3, "ownFields", "(LRefactorHouse$Decl;)I"), (3, "uppermost", "(LRefactorHouse$Decl;)LRefactorHouse$Decl;"), (3, "placeFields", "(LRefactorHouse$Decl;)V"), (1, "means", "(II)I"), (8, "meantAt", "(I)LRefactorHouse$Decl;"), (1, "type", "(II)I"), (8, "expAt", "(II)LRefactorHouse$Exp;"), (1, "count", "(I)I"), (8, "countOf", "(I)I"), (1, "told", "(II)I"), (8, "declOf", "(II)LRefactorHouse$Decl;"), (1, "uses", "(I)I"), (8, "toldAt", "(I)LRefactorHouse$Decl;"), (8, "usesOf", "(LRefactorHouse$Decl;)I"), (8, "isMeant", "(LRefactorHouse$Decl;I)Z"), (1, "use", "(II)I"), (8, "useOf", "(LRefactorHouse$Decl;I)I"), (1, "family", "(I)I"), (8, "familySize", "(LRefactorHouse$Decl;)I"), (1, "input", "(I)I"), (1, "drain", "()I"), (1, "run", "(I)I"), (1, "recall", "()Z"), (9, "bring", "(ILRefactorHouse$Prog;)V"), (4, "perform", "(LRefactorHouse$Prog;[II)I"), (4, "prepare", "()V"), (4, "enterRow", "(ILRefactorHouse$Decl;)V"), (4, "levelOf", "(LRefactorHouse$Decl;)I"), (4, "prepareClass", "(LRefactorHouse$Decl;)V"), (4, "nextField", "([I)V"), (4, "callMain", "()V"), (4, "isMain", "(LRefactorHouse$Prog;LRefactorHouse$Decl;)Z"), (4, "step", "()Z"), (4, "failWith", "(I)V"), (4, "enter", "(LRefactorHouse$Decl;III)V"), (4, "push", "(I)V"), (4, "workOut", "(LRefactorHouse$Exp;[I)V"), (4, "isDecided", "(LRefactorHouse$Exp;)Z"), (4, "pop", "()I"), (4, "pushVariable", "(LRefactorHouse$Decl;[I)V"), (4, "pushField", "(LRefactorHouse$Exp;)V"), (4, "callMethod", "(LRefactorHouse$Exp;[I)V"), (11, "max", "(II)I"), (4, "mayEnter", "()Z"), (4, "makeObject", "(LRefactorHouse$Exp;)V"), (10, "fill", "([IIII)V"), (10, "rangeCheck", "(III)V"), (4, "join", "(I)V"), (4, "keepField", "([I)V"), (4, "complete", "(LRefactorHouse$Stat;[I)V"), (4, "store", "(LRefactorHouse$Exp;[I)V"), (4, "goBack", "(LRefactorHouse$Stat;[I)V"), (4, "tell", "(I)V"), (4, "beginStat", "(LRefactorHouse$Stat;[I)V"), (4, "leave", "(LRefactorHouse$Stat;[I)V"), (4, "tryAgain", "(LRefactorHouse$Stat;[I)V"), (1, "ran", "(I)I"), (1, "number", "(I)I"), (1, "twin", "(II)I"), (1, "twinsAgree", "()Z"), (1, "ask", "(III)I"), (6, "open", "(LRefactorHouse$Prog;[BI)V"), (5, "open", "(LRefactorHouse$Prog;)V"), (6, "conditions", "(III)I"), (6, "isThere", "(III)Z"), (6, "findStatements", "(II)Z"), (6, "statementAt", "(I)LRefactorHouse$Stat;"), (6, "isTapeFine", "(I)Z"), (6, "isName", "()Z"), (6, "rename", "()I"), (8, "isFamily", "(LRefactorHouse$Decl;LRefactorHouse$Decl;)Z"), (5, "beginTokens", "(II)V"), (8, "endOf", "(I)I"), (5, "begin", "(II)V"), (5, "name", "([BII)V"), (5, "comes", "(II)V"), (5, "end", "()V"), (6, "putInLocal", "()I"), (6, "gets", "(LRefactorHouse$Stat;LRefactorHouse$Decl;)Z"), (6, "broken", "(II)I"), (8, "isCalm", "(LRefactorHouse$Exp;)Z"), (6, "whileAround", "(LRefactorHouse$Stat;)LRefactorHouse$Stat;"), (6, "isOfExp", "(LRefactorHouse$Decl;)Z"), (8, "useWithin", "(LRefactorHouse$Decl;II)I"), (6, "isWithin", "(LRefactorHouse$Stat;II)Z"), (6, "goes", "(II)V"), (5, "copyAsExp", "(II)V"), (5, "copy", "(II)V"), (5, "words", "(Ljava/lang/String;)V"), (6, "takeOutLocal", "()I"), (5, "typeAnew", "(I)V"), (6, "nameAnew", "()V"), (5, "copyTokens", "(II)V"), (6, "takeOutMethod", "()I"), (6, "findOut", "(LRefactorHouse$Decl;)I"), (6, "isHandedIn", "(LRefactorHouse$Decl;)Z"), (6, "isRelated", "(LRefactorHouse$Decl;LRefactorHouse$Decl;)Z"), (8, "isText", "(I[BI)Z"), (6, "tellNewMethod", "(LRefactorHouse$Decl;)V"), (5, "tokenAnew", "(LRefactorHouse$Prog;II)V"), (6, "tellHandedIn", "(LRefactorHouse$Decl;Z)V"), (6, "putInMethod", "()I"), (6, "wildArgument", "()I"), (6, "copyWithArguments", "(LRefactorHouse$Exp;)V"), (6, "shutField", "()I"), (8, "classAround", "(I)LRefactorHouse$Decl;"), (6, "moveTo", "(LRefactorHouse$Decl;)I"), (6, "pushDown", "()I"), (8, "classNamed", "([BI)LRefactorHouse$Decl;"), (6, "signature", "()I"), (6, "isLeftOut", "(LRefactorHouse$Decl;)Z"), (6, "tellParams", "(LRefactorHouse$Decl;)V"), (6, "beginWithin", "(II)V"), (6, "tellArguments", "(LRefactorHouse$Exp;)V"), (6, "moveStatic", "()I"), (6, "copyMoved", "(LRefactorHouse$Decl;)V"), (6, "drop", "()I"), (6, "turnIf", "()I"), (6, "swapIn", "(LRefactorHouse$Stat;LRefactorHouse$Stat;)V"), (5, "sort", "()V"), (6, "soundness", "(LRefactorHouse$Reader;LRefactorHouse$Judge;LRefactorHouse$Prog;)I"), (5, "make", "(LRefactorHouse$Prog;)V"), (5, "stay", "(LRefactorHouse$Prog;III)V"), (5, "add", "(LRefactorHouse$Prog;IBI)V"), (6, "strayedName", "(LRefactorHouse$Prog;)I"), (6, "oldMeaning", "(LRefactorHouse$Prog;I)LRefactorHouse$Decl;"), (5, "oldOf", "(LRefactorHouse$Prog;I)I"), (6, "strayedMethod", "(LRefactorHouse$Prog;)I"), (6, "oldMethod", "(LRefactorHouse$Prog;LRefactorHouse$Decl;)LRefactorHouse$Decl;"), (1, "edits", "()I"), (1, "edit", "(II)I"), (5, "byteOf", "(II)I"), (1, "apply", "()I"), (9, "step", "(LRefactorHouse$Prog;LRefactorHouse$Prog;)V"), (9, "keep", "(ILRefactorHouse$Prog;)V"), (1, "undo", "()I"), (1, "goTo", "(I)I"), (9, "stand", "(I)V"), (1, "redo", "()I"), (1, "recipe", "()I"), (7, "learn", "(LRefactorHouse$Reader;LRefactorHouse$Prog;[BI)I"), (2, "readPattern", "(LRefactorHouse$Prog;)I"), (7, "lookAtDollars", "()I"), (7, "typeTold", "(I)I"), (7, "search", "()I"), (7, "isReplaceable", "(LRefactorHouse$Exp;)Z"), (7, "matches", "(LRefactorHouse$Exp;)Z"), (7, "standsFor", "(LRefactorHouse$Exp;LRefactorHouse$Exp;)Z"), (7, "bare", "(LRefactorHouse$Exp;)LRefactorHouse$Exp;"), (7, "isSameText", "(LRefactorHouse$Exp;LRefactorHouse$Exp;)Z"), (7, "isSamePart", "(LRefactorHouse$Exp;LRefactorHouse$Exp;)Z"), (1, "found", "(II)I"), (7, "foundExp", "(I)LRefactorHouse$Exp;"), (1, "put", "()I"), (7, "tell", "(LRefactorHouse$Edits;)V"), (7, "tellToken", "(LRefactorHouse$Edits;I)V"), (1, "alike", "(I)I"), (7, "pairUp", "(LRefactorHouse$Prog;I)I"), (7, "isRun", "(LRefactorHouse$Stat;I)Z"), (7, "areAlike", "(III)Z"), (1, "pair", "(II)I"), (15, "<init>", "()V"), (16, "<init>", "(LRefactorHouseModel;)V"), (17, "<init>", "()V"), (16, "readAll", "()I"), (16, "clear", "()V"), (16, "classCount", "()I"), (16, "readFile", "(II)V"), (17, "cut", "([BIIZI)V"), (17, "at", "([BII)I"), (17, "one", "([BIIIZ)I"), (15, "isLetter", "(I)Z"), (15, "isDigit", "(I)Z"), (15, "wordOf", "([BII)I"), (17, "signOf", "(II)I"), (16, "sort", "()I"), (16, "placeOf", "(I)I"), (15, "refuse", "(II)V"), (16, "isWord", "(I)Z"), (16, "wrong", "()V"), (16, "readClass", "(I)V"), (16, "pass", "()I"), (16, "stands", "()V"), (16, "needNewName", "(Z)I"), (16, "tell", "(IIIIZI)I"), (16, "takesWord", "(I)Z"), (16, "needName", "()I"), (16, "need", "(I)V"), (16, "takes", "(I)Z"), (16, "isSign", "(I)Z"), (16, "readMember", "(II)V"), (16, "isType", "()Z"), (16, "block", "()I"), (16, "within", "()V"), (16, "statement", "()I"), (16, "tellsLocal", "()Z"), (16, "exp", "()I"), (16, "expOfLevel", "(I)I"), (16, "unary", "()I"), (16, "node", "(IIIIII)I"), (16, "own", "(II)V"), (16, "operand", "()I"), (16, "arguments", "()I"), (16, "dollar", "(I)I"), (16, "late", "(II)V"), (15, "typeOf", "(LRefactorHouseModel$Program;LRefactorHouseModel$Tokens;ILRefactorHouseModel$Program;)I"), (15, "wordType", "(LRefactorHouseModel$Tokens;I)I"), (16, "classOf", "(LRefactorHouseModel$Program;I)I"), (16, "isNamed", "(ILRefactorHouseModel$Program;I)Z"), (16, "byteAt", "(II)B"), (16, "level", "(I)I"), (16, "condition", "()I"), (16, "inner", "()I"), (16, "work", "()I"), (16, "meaning", "(II)V"), (16, "workClasses", "()V"), (16, "errs", "(II)V"), (16, "isHeir", "(II)Z"), (16, "workMembers", "()V"), (16, "typeOfToken", "(I)I"), (16, "isSameSignature", "(II)Z"), (16, "firstParam", "(I)I"), (16, "workBodies", "()V"), (16, "begin", "(I)V"), (16, "wanted", "(II)V"), (16, "typeNow", "(I)I"), (16, "typeOfExp", "(I)I"), (16, "typeOfName", "(I)I"), (16, "knownAs", "(I)I"), (16, "fieldOf", "(III)I"), (16, "typeOfCall", "(IIII)I"), (16, "takesAll", "(II)Z"), (16, "fits", "(II)Z"), (16, "nearest", "(I)I"), (16, "overrides", "(II)Z"), (16, "isCloser", "(II)Z"), (16, "typeOfDot", "(I)I"), (16, "classInFront", "(I)I"), (16, "needs", "(II)Z"), (16, "typeOfBoth", "(I)I"), (16, "know", "(I)V"), (16, "looksAt", "(I)Z"), (16, "set", "(I)V"), (16, "workFamilies", "()V"), (16, "workFields", "()V"), (15, "keep", "(I)V"), (15, "feed", "(IIIII)I"), (15, "feedOne", "(I)V"), (15, "cut", "(I)I"), (15, "load", "(I)I"), (15, "isIn", "(II)Z"), (15, "taped", "([B)V"), (15, "changed", "()V"), (15, "noEdits", "()V"), (15, "place", "()I"), (15, "size", "(I)I"), (15, "octet", "(II)I"), (15, "token", "(II)I"), (16, "tokenAt", "(I)I"), (15, "judge", "()I"), (15, "means", "(II)I"), (16, "nameAt", "(I)I"), (15, "type", "(II)I"), (16, "expOf", "(II)I"), (16, "isClassName", "(I)Z"), (15, "count", "(I)I"), (15, "told", "(II)I"), (15, "uses", "(I)I"), (15, "toldBy", "(I)I"), (16, "toldAt", "(I)I"), (15, "meant", "(I)I"), (15, "use", "(II)I"), (15, "family", "(I)I"), (16, "familySize", "(I)I"), (16, "isFamily", "(II)Z"), (15, "input", "(I)I"), (15, "drain", "()I"), (15, "run", "(I)I"), (15, "bring", "(LRefactorHouseModel$Program;I)V"), (15, "runs", "(LRefactorHouseModel$Program;[II)I"), (15, "writeAll", "()V"), (15, "write", "(III)I"), (15, "room", "([II)[I"), (15, "writeExp", "(I)V"), (15, "writeNode", "(I)V"), (15, "writeStatement", "(I)V"), (15, "writeSet", "(II)V"), (15, "writeMaking", "(I)V"), (15, "workActs", "()V"), (15, "workValue", "(III)V"), (15, "push", "(I)V"), (15, "slot", "(I)I"), (15, "fieldPlace", "(II)I"), (15, "pull", "()I"), (15, "fails", "(I)V"), (15, "make", "(I)V"), (15, "step", "()V"), (15, "setOut", "()V"), (15, "both", "(III)I"), (15, "call", "(II)V"), (15, "enter", "(IIII)V"), (16, "afterMember", "(I)I"), (15, "chosen", "(II)I"), (15, "workAct", "(II)V"), (15, "comeBack", "()V"), (15, "mainOf", "(LRefactorHouseModel$Program;)I"), (15, "isMain", "(LRefactorHouseModel$Program;I)Z"), (15, "ran", "(I)I"), (15, "number", "(I)I"), (15, "twin", "(II)I"), (15, "ask", "(III)I"), (15, "asked", "(III)I"), (15, "findFronts", "()V"), (15, "rename", "(I)I"), (15, "broken", "(II)I"), (15, "isName", "()Z"), (15, "isWordByte", "(I)Z"), (15, "editTokens", "(II)V"), (15, "end", "(I)I"), (15, "goesAt", "(II)V"), (15, "roomB", "([ZI)[Z"), (15, "piece", "(III)V"), (15, "tryEdits", "()I"), (15, "settleEdits", "()V"), (15, "sortEdits", "()V"), (15, "pieceByte", "(II)B"), (15, "byteOfPlace", "(I)B"), (15, "goes", "(I)Z"), (15, "makeNew", "()V"), (15, "toNew", "(III)V"), (15, "pieceOld", "(II)I"), (15, "oldToken", "(I)I"), (15, "putInLocal", "(I)I"), (15, "meets", "(I)V"), (15, "isMet", "()Z"), (15, "isCalm", "(I)Z"), (15, "isMeantIn", "(III)Z"), (15, "isInWhile", "(II)Z"), (15, "copyExp", "(I)V"), (15, "text", "(Ljava/lang/String;)V"), (15, "copy", "(II)V"), (15, "takeOutLocal", "(II)I"), (15, "statementOf", "(I)I"), (15, "typeText", "(I)V"), (15, "fresh", "(I)V"), (15, "name", "()V"), (15, "takeOutMethod", "(II)I"), (15, "isBefore", "(II)Z"), (15, "isPassed", "(IIII)Z"), (15, "isNamedSo", "(I)Z"), (15, "passed", "(IIIZ)V"), (15, "putInMethod", "(I)I"), (15, "hasWildArgument", "(IZ)Z"), (15, "nodeNamed", "(I)I"), (15, "args", "(I)I"), (15, "copyWith", "(III)V"), (15, "shutField", "(I)I"), (15, "classAt", "(I)I"), (15, "moveMember", "(II)I"), (15, "namedClass", "()I"), (15, "signature", "(I)I"), (15, "moveStatic", "(I)I"), (15, "isFrontOf", "(II)Z"), (15, "dropTold", "(I)I"), (15, "turnIf", "(I)I"), (15, "turned", "(II)V"), (15, "edits", "()I"), (15, "edit", "(II)I"), (15, "apply", "()I"), (15, "undo", "()I"), (15, "redo", "()I"), (15, "recipe", "()I"), (15, "readRecipe", "()V"), (15, "find", "()V"), (15, "mayBeFound", "(I)Z"), (15, "isMatch", "(I)Z"), (15, "matches", "(II)Z"), (15, "plainOf", "(LRefactorHouseModel$Program;I)I"), (15, "isSameTokens", "(II)Z"), (15, "matchesAll", "(II)Z"), (15, "found", "(II)I"), (15, "put", "()I"), (15, "putFound", "()I"), (15, "alike", "(I)I"), (15, "findAlike", "(I)V"), (15, "areAlike", "(III)Z"), (15, "pair", "(II)I")]
def mt_c : List ByteArray := [code, prog_1_method_1_code, prog_11_method_1_code, prog_8_method_1_code, prog_9_method_1_code, prog_4_method_1_code, prog_2_method_1_code, prog_6_method_1_code, prog_10_method_1_code, prog_7_method_1_code, prog_1_method_2_code, prog_1_method_3_code, prog_1_method_4_code, prog_1_method_5_code, prog_10_method_3_code, prog_10_method_9_code, prog_11_method_3_code, prog_11_method_2_code, prog_10_method_2_code, prog_26_method_103_code, prog_11_method_5_code, prog_11_method_6_code, prog_19_method_69_code, prog_11_method_7_code, prog_11_method_8_code, prog_1_method_41_code, prog_1_method_43_code, prog_1_method_44_code, prog_1_method_42_code, prog_11_method_9_code, prog_11_method_10_code, prog_11_method_11_code, prog_10_method_6_code, prog_10_method_11_code, prog_11_method_12_code, prog_11_method_19_code, prog_11_method_14_code, prog_11_method_13_code, prog_11_method_15_code, prog_11_method_18_code, prog_3_method_1_code, prog_3_method_2_code, prog_11_method_20_code, prog_11_method_16_code, prog_11_method_21_code, prog_11_method_22_code, prog_12_method_1_code, prog_12_method_2_code, prog_11_method_25_code, prog_11_method_17_code, prog_11_method_23_code, prog_11_method_26_code, prog_11_method_28_code, prog_11_method_31_code, prog_11_method_32_code, prog_11_method_33_code, prog_11_method_30_code, prog_5_method_1_code, prog_5_method_2_code, prog_11_method_34_code, prog_11_method_35_code, prog_11_method_27_code, prog_11_method_29_code, prog_10_method_4_code, prog_11_method_24_code, prog_1_method_6_code, prog_6_method_2_code, prog_7_method_2_code, prog_10_method_8_code, prog_1_method_7_code, prog_1_method_8_code, prog_1_method_9_code, prog_1_method_10_code, prog_10_method_7_code, prog_1_method_11_code, prog_1_method_12_code, prog_1_method_13_code, prog_8_method_2_code, prog_8_method_6_code, prog_8_method_5_code, prog_8_method_3_code, prog_3_method_4_code, prog_8_method_7_code, prog_8_method_8_code, prog_8_method_9_code, prog_3_method_3_code, prog_8_method_10_code, prog_10_method_28_code, prog_8_method_11_code, prog_8_method_12_code, prog_8_method_4_code, prog_8_method_16_code, prog_8_method_18_code, prog_8_method_19_code, prog_8_method_21_code, prog_8_method_20_code, prog_8_method_17_code, prog_8_method_23_code, prog_8_method_22_code, prog_10_method_26_code, prog_8_method_24_code, prog_8_method_25_code, prog_10_method_22_code, prog_10_method_27_code, prog_8_method_26_code, prog_10_method_29_code, prog_8_method_27_code, prog_8_method_13_code, prog_8_method_14_code, prog_8_method_15_code, prog_8_method_28_code, prog_8_method_33_code, prog_8_method_30_code, prog_8_method_29_code, prog_8_method_31_code, prog_8_method_32_code, prog_8_method_34_code, prog_8_method_35_code, prog_8_method_36_code, prog_8_method_38_code, prog_8_method_37_code, prog_1_method_14_code, prog_10_method_12_code, prog_1_method_15_code, prog_10_method_25_code, prog_1_method_16_code, prog_10_method_14_code, prog_1_method_17_code, prog_10_method_15_code, prog_1_method_18_code, prog_10_method_13_code, prog_10_method_17_code, prog_10_method_16_code, prog_1_method_19_code, prog_10_method_18_code, prog_1_method_20_code, prog_10_method_20_code, prog_1_method_21_code, prog_1_method_22_code, prog_1_method_23_code, prog_1_method_24_code, prog_7_method_5_code, prog_9_method_2_code, prog_9_method_3_code, prog_9_method_5_code, prog_9_method_4_code, prog_9_method_6_code, prog_9_method_20_code, prog_9_method_22_code, prog_9_method_23_code, prog_9_method_10_code, prog_9_method_9_code, prog_9_method_18_code, prog_9_method_7_code, prog_9_method_12_code, prog_9_method_13_code, prog_9_method_8_code, prog_9_method_15_code, prog_9_method_16_code, prog_9_method_17_code, prog_19_method_65_code, prog_9_method_11_code, prog_9_method_19_code, prog_26_method_104_code, prog_26_method_30_code, prog_9_method_14_code, prog_9_method_21_code, prog_9_method_26_code, prog_9_method_28_code, prog_9_method_30_code, prog_9_method_27_code, prog_9_method_24_code, prog_9_method_29_code, prog_9_method_25_code, prog_1_method_25_code, prog_1_method_26_code, prog_1_method_27_code, prog_1_method_28_code, prog_1_method_29_code, prog_2_method_2_code, prog_4_method_2_code, prog_2_method_3_code, prog_2_method_4_code, prog_2_method_8_code, prog_2_method_7_code, prog_2_method_5_code, prog_2_method_6_code, prog_2_method_16_code, prog_10_method_21_code, prog_4_method_4_code, prog_10_method_5_code, prog_4_method_3_code, prog_4_method_8_code, prog_4_method_6_code, prog_4_method_5_code, prog_2_method_17_code, prog_2_method_11_code, prog_2_method_12_code, prog_10_method_30_code, prog_2_method_10_code, prog_2_method_18_code, prog_10_method_19_code, prog_2_method_9_code, prog_2_method_14_code, prog_4_method_11_code, prog_4_method_9_code, prog_4_method_7_code, prog_2_method_19_code, prog_4_method_13_code, prog_2_method_15_code, prog_4_method_10_code, prog_2_method_20_code, prog_2_method_22_code, prog_2_method_23_code, prog_2_method_21_code, prog_10_method_10_code, prog_2_method_24_code, prog_4_method_12_code, prog_2_method_25_code, prog_2_method_26_code, prog_2_method_13_code, prog_2_method_27_code, prog_2_method_28_code, prog_10_method_23_code, prog_2_method_30_code, prog_2_method_29_code, prog_10_method_24_code, prog_2_method_31_code, prog_2_method_32_code, prog_2_method_34_code, prog_2_method_33_code, prog_2_method_35_code, prog_2_method_36_code, prog_2_method_37_code, prog_2_method_38_code, prog_2_method_39_code, prog_2_method_40_code, prog_4_method_15_code, prog_2_method_41_code, prog_4_method_16_code, prog_4_method_17_code, prog_4_method_18_code, prog_2_method_43_code, prog_2_method_42_code, prog_4_method_19_code, prog_2_method_44_code, prog_2_method_45_code, prog_1_method_30_code, prog_1_method_31_code, prog_4_method_14_code, prog_1_method_32_code, prog_7_method_3_code, prog_7_method_4_code, prog_1_method_33_code, prog_1_method_35_code, prog_7_method_6_code, prog_1_method_34_code, prog_1_method_36_code, prog_6_method_3_code, prog_11_method_4_code, prog_6_method_4_code, prog_6_method_5_code, prog_6_method_6_code, prog_6_method_8_code, prog_6_method_9_code, prog_6_method_11_code, prog_6_method_12_code, prog_6_method_13_code, prog_6_method_10_code, prog_1_method_37_code, prog_6_method_7_code, prog_1_method_38_code, prog_6_method_14_code, prog_6_method_15_code, prog_1_method_39_code, prog_6_method_16_code, prog_6_method_17_code, prog_6_method_18_code, prog_1_method_40_code, prog_14_method_34_code, prog_15_method_1_code, prog_16_method_1_code, prog_15_method_73_code, prog_15_method_72_code, prog_15_method_74_code, prog_15_method_19_code, prog_16_method_5_code, prog_16_method_2_code, prog_16_method_3_code, prog_14_method_1_code, prog_14_method_2_code, prog_14_method_3_code, prog_16_method_4_code, prog_15_method_3_code, prog_15_method_2_code, prog_14_method_4_code, prog_15_method_8_code, prog_15_method_4_code, prog_15_method_20_code, prog_15_method_6_code, prog_15_method_5_code, prog_15_method_13_code, prog_15_method_18_code, prog_15_method_10_code, prog_15_method_12_code, prog_15_method_11_code, prog_15_method_9_code, prog_15_method_7_code, prog_15_method_21_code, prog_15_method_14_code, prog_15_method_22_code, prog_15_method_15_code, prog_15_method_24_code, prog_15_method_23_code, prog_15_method_28_code, prog_15_method_29_code, prog_15_method_30_code, prog_15_method_16_code, prog_15_method_17_code, prog_15_method_32_code, prog_15_method_31_code, prog_15_method_34_code, prog_15_method_33_code, prog_14_method_6_code, prog_14_method_5_code, prog_15_method_37_code, prog_15_method_36_code, prog_15_method_35_code, prog_15_method_27_code, prog_15_method_26_code, prog_15_method_25_code, prog_15_method_46_code, prog_15_method_42_code, prog_15_method_47_code, prog_15_method_38_code, prog_15_method_40_code, prog_15_method_48_code, prog_15_method_39_code, prog_15_method_44_code, prog_15_method_43_code, prog_15_method_49_code, prog_15_method_50_code, prog_15_method_53_code, prog_15_method_56_code, prog_15_method_58_code, prog_15_method_61_code, prog_15_method_52_code, prog_15_method_60_code, prog_15_method_64_code, prog_15_method_65_code, prog_15_method_41_code, prog_15_method_66_code, prog_15_method_45_code, prog_15_method_67_code, prog_15_method_63_code, prog_15_method_62_code, prog_15_method_57_code, prog_15_method_59_code, prog_15_method_51_code, prog_15_method_54_code, prog_15_method_55_code, prog_15_method_69_code, prog_15_method_68_code, prog_14_method_35_code, prog_14_method_105_code, prog_14_method_106_code, prog_14_method_107_code, prog_14_method_111_code, prog_14_method_108_code, prog_14_method_110_code, prog_14_method_109_code, prog_14_method_38_code, prog_14_method_112_code, prog_14_method_113_code, prog_14_method_114_code, prog_14_method_115_code, prog_15_method_75_code, prog_14_method_116_code, prog_14_method_117_code, prog_15_method_76_code, prog_14_method_118_code, prog_15_method_78_code, prog_15_method_79_code, prog_14_method_119_code, prog_14_method_120_code, prog_14_method_122_code, prog_14_method_121_code, prog_15_method_77_code, prog_14_method_64_code, prog_14_method_123_code, prog_14_method_124_code, prog_15_method_71_code, prog_15_method_70_code, prog_14_method_125_code, prog_14_method_126_code, prog_14_method_127_code, prog_14_method_36_code, prog_14_method_17_code, prog_14_method_14_code, prog_14_method_8_code, prog_14_method_7_code, prog_14_method_9_code, prog_14_method_10_code, prog_14_method_12_code, prog_14_method_11_code, prog_14_method_13_code, prog_14_method_30_code, prog_14_method_31_code, prog_14_method_20_code, prog_14_method_25_code, prog_14_method_26_code, prog_14_method_21_code, prog_14_method_15_code, prog_14_method_28_code, prog_14_method_16_code, prog_14_method_22_code, prog_14_method_33_code, prog_14_method_29_code, prog_14_method_24_code, prog_15_method_80_code, prog_14_method_27_code, prog_14_method_32_code, prog_14_method_23_code, prog_14_method_18_code, prog_14_method_19_code, prog_14_method_128_code, prog_14_method_129_code, prog_14_method_130_code, prog_14_method_131_code, prog_14_method_74_code, prog_14_method_65_code, prog_14_method_75_code, prog_14_method_59_code, prog_14_method_61_code, prog_14_method_55_code, prog_14_method_48_code, prog_14_method_42_code, prog_14_method_39_code, prog_14_method_37_code, prog_14_method_40_code, prog_14_method_60_code, prog_14_method_54_code, prog_14_method_52_code, prog_14_method_50_code, prog_14_method_49_code, prog_14_method_53_code, prog_14_method_57_code, prog_14_method_56_code, prog_14_method_51_code, prog_14_method_58_code, prog_14_method_76_code, prog_14_method_72_code, prog_14_method_73_code, prog_14_method_66_code, prog_14_method_77_code, prog_14_method_68_code, prog_14_method_47_code, prog_14_method_41_code, prog_14_method_43_code, prog_14_method_78_code, prog_14_method_67_code, prog_14_method_46_code, prog_14_method_44_code, prog_14_method_45_code, prog_14_method_79_code, prog_14_method_80_code, prog_14_method_81_code, prog_14_method_62_code, prog_14_method_82_code, prog_14_method_83_code, prog_14_method_85_code, prog_14_method_70_code, prog_14_method_71_code, prog_14_method_84_code, prog_14_method_86_code, prog_14_method_69_code, prog_14_method_87_code, prog_14_method_63_code, prog_14_method_88_code, prog_14_method_89_code, prog_14_method_90_code, prog_14_method_91_code, prog_14_method_92_code, prog_14_method_93_code, prog_14_method_132_code, prog_14_method_133_code, prog_14_method_134_code, prog_14_method_135_code, prog_14_method_136_code, prog_14_method_137_code, prog_14_method_94_code, prog_14_method_100_code, prog_14_method_101_code, prog_14_method_99_code, prog_14_method_97_code, prog_14_method_95_code, prog_14_method_96_code, prog_14_method_98_code, prog_14_method_138_code, prog_14_method_139_code, prog_14_method_102_code, prog_14_method_140_code, prog_14_method_103_code, prog_14_method_104_code, prog_14_method_141_code]
/-- locals, what it returns, the place of its code, of its being static or not, of its class being initialized or of its selection -/
def mt_i : List (Nat × Option FieldType × (Nat × Nat) × (Nat × Nat) × (Nat × Nat)) := [(4, some .boolean, (99, 0), (99, 0), (99, 0)), (1, none, (0, 31), (0, 30), (99, 0)), (1, none, (0, 39), (0, 38), (99, 0)), (1, none, (0, 108), (0, 107), (99, 0)), (1, none, (0, 126), (0, 125), (99, 0)), (1, none, (0, 195), (0, 194), (99, 0)), (2, none, (0, 239), (0, 238), (99, 0)), (1, none, (1, 40), (1, 39), (99, 0)), (4, none, (1, 46), (1, 45), (99, 0)), (1, none, (2, 5), (2, 4), (99, 0)), (6, some .int, (2, 93), (2, 91), (2, 92)), (3, none, (2, 97), (2, 96), (16, 0)), (2, some .int, (2, 101), (2, 99), (2, 100)), (4, some .int, (2, 105), (2, 103), (2, 104)), (3, none, (2, 109), (2, 107), (2, 108)), (4, some .int, (2, 117), (2, 115), (2, 116)), (6, some .int, (2, 121), (2, 119), (2, 120)), (2, none, (2, 125), (2, 124), (16, 1)), (1, none, (2, 129), (2, 127), (2, 128)), (4, none, (2, 132), (2, 131), (0, 22)), (3, none, (2, 136), (2, 135), (16, 2)), (8, none, (2, 140), (2, 139), (16, 3)), (2, some .int, (2, 143), (2, 142), (0, 23)), (6, some .int, (2, 146), (2, 145), (0, 2)), (6, some .int, (2, 150), (2, 149), (16, 4)), (1, some .boolean, (2, 153), (2, 152), (0, 1)), (1, some .boolean, (2, 156), (2, 155), (0, 1)), (6, some .int, (2, 159), (2, 158), (0, 1)), (1, some .boolean, (2, 203), (2, 202), (0, 1)), (3, some .int, (2, 207), (2, 206), (16, 5)), (2, some .int, (2, 211), (2, 210), (16, 6)), (5, some .int, (2, 215), (2, 214), (16, 7)), (4, some .int, (2, 219), (2, 217), (2, 218)), (5, some .boolean, (2, 223), (2, 221), (2, 222)), (1, some .int, (2, 229), (2, 228), (16, 8)), (8, none, (2, 233), (2, 232), (16, 9)), (3, none, (2, 237), (2, 236), (16, 10)), (2, none, (3, 1), (3, 0), (16, 11)), (2, none, (3, 5), (3, 4), (16, 12)), (4, some (.object "RefactorHouse$Decl"), (3, 9), (3, 8), (16, 13)), (1, none, (3, 14), (3, 13), (99, 0)), (4, none, (3, 151), (3, 149), (3, 150)), (10, some (.object "RefactorHouse$Decl"), (3, 155), (3, 154), (16, 14)), (2, some .boolean, (3, 159), (3, 158), (16, 15)), (7, none, (3, 163), (3, 162), (16, 16)), (4, some (.object "RefactorHouse$Stat"), (3, 167), (3, 166), (16, 17)), (1, none, (3, 172), (3, 171), (99, 0)), (3, none, (4, 27), (4, 25), (4, 26)), (6, none, (4, 31), (4, 30), (16, 18)), (3, none, (4, 35), (4, 34), (16, 19)), (5, some (.object "RefactorHouse$Stat"), (4, 39), (4, 38), (16, 20)), (4, none, (4, 43), (4, 42), (16, 21)), (5, some (.object "RefactorHouse$Exp"), (4, 47), (4, 46), (16, 22)), (6, some (.object "RefactorHouse$Exp"), (4, 51), (4, 50), (16, 23)), (6, some (.object "RefactorHouse$Exp"), (4, 55), (4, 54), (16, 24)), (8, some (.object "RefactorHouse$Exp"), (4, 59), (4, 58), (16, 25)), (7, some (.object "RefactorHouse$Exp"), (4, 63), (4, 62), (16, 26)), (1, none, (4, 67), (4, 66), (99, 0)), (3, none, (4, 190), (4, 188), (4, 189)), (4, some .int, (4, 194), (4, 193), (16, 27)), (11, some (.object "RefactorHouse$Exp"), (4, 198), (4, 197), (16, 28)), (1, some .int, (4, 201), (4, 200), (0, 2)), (8, some (.object "RefactorHouse$Exp"), (4, 205), (4, 204), (16, 29)), (2, some .int, (4, 209), (4, 207), (4, 208)), (5, none, (4, 213), (4, 212), (16, 30)), (2, none, (4, 217), (4, 216), (16, 31)), (1, none, (4, 221), (4, 219), (4, 220)), (1, none, (4, 225), (4, 223), (4, 224)), (4, some .int, (4, 229), (4, 227), (4, 228)), (1, some .int, (4, 233), (4, 231), (4, 232)), (2, some .int, (4, 237), (4, 235), (4, 236)), (3, some .int, (5, 1), (4, 239), (5, 0)), (4, some .int, (5, 5), (5, 3), (5, 4)), (6, some .int, (5, 9), (5, 7), (5, 8)), (1, some .int, (5, 12), (5, 11), (0, 1)), (1, some .int, (5, 16), (5, 14), (5, 15)), (1, some .boolean, (5, 20), (5, 19), (16, 32)), (4, none, (5, 24), (5, 22), (5, 23)), (3, none, (5, 28), (5, 27), (16, 33)), (3, some (.object "RefactorHouse$Decl"), (5, 32), (5, 31), (16, 34)), (4, none, (5, 36), (5, 35), (16, 35)), (4, some .boolean, (5, 40), (5, 38), (5, 39)), (3, none, (5, 44), (5, 43), (16, 36)), (3, some .int, (5, 48), (5, 47), (16, 37)), (3, none, (5, 53), (5, 52), (16, 38)), (1, some .boolean, (5, 57), (5, 55), (5, 56)), (4, none, (5, 61), (5, 60), (16, 39)), (5, some .boolean, (5, 65), (5, 63), (5, 64)), (5, none, (5, 69), (5, 68), (16, 40)), (3, some .int, (5, 73), (5, 72), (16, 41)), (3, some .int, (5, 77), (5, 76), (16, 42)), (3, some .int, (5, 81), (5, 80), (16, 43)), (4, some (.object "RefactorHouse$Decl"), (5, 85), (5, 84), (16, 44)), (3, some .boolean, (5, 88), (5, 87), (0, 3)), (6, some (.object "RefactorHouse$Decl"), (5, 92), (5, 91), (16, 45)), (2, some .boolean, (5, 95), (5, 94), (0, 3)), (3, some .int, (5, 99), (5, 98), (16, 46)), (3, some .int, (5, 103), (5, 102), (16, 47)), (3, some (.object "RefactorHouse$Decl"), (5, 107), (5, 106), (16, 48)), (3, some (.object "RefactorHouse$Decl"), (5, 111), (5, 109), (5, 110)), (9, some .int, (5, 115), (5, 114), (16, 49)), (6, some .boolean, (5, 119), (5, 118), (16, 50)), (4, some (.object "RefactorHouse$Decl"), (5, 123), (5, 121), (5, 122)), (6, some .boolean, (5, 127), (5, 125), (5, 126)), (6, some (.object "RefactorHouse$Decl"), (5, 131), (5, 130), (16, 51)), (3, some .boolean, (5, 135), (5, 133), (5, 134)), (6, some .boolean, (5, 141), (5, 140), (16, 52)), (3, some .boolean, (5, 145), (5, 144), (16, 53)), (6, some .int, (5, 149), (5, 148), (16, 54)), (6, some .int, (5, 153), (5, 152), (16, 55)), (3, none, (5, 157), (5, 156), (16, 56)), (2, some .boolean, (5, 160), (5, 159), (0, 3)), (3, none, (5, 164), (5, 163), (16, 57)), (1, some .boolean, (5, 167), (5, 166), (0, 3)), (3, none, (5, 171), (5, 170), (16, 58)), (3, none, (5, 175), (5, 174), (16, 59)), (3, none, (5, 179), (5, 178), (16, 60)), (5, none, (5, 183), (5, 182), (16, 61)), (3, some .int, (5, 187), (5, 186), (0, 3)), (5, some (.object "RefactorHouse$Decl"), (5, 191), (5, 190), (16, 62)), (3, none, (5, 194), (5, 193), (0, 3)), (4, some .int, (5, 198), (5, 196), (5, 197)), (3, some (.object "RefactorHouse$Decl"), (5, 202), (5, 200), (5, 201)), (4, some .int, (5, 207), (5, 205), (5, 206)), (7, some (.object "RefactorHouse$Exp"), (5, 211), (5, 209), (5, 210)), (2, some .int, (5, 215), (5, 213), (5, 214)), (4, some .int, (5, 219), (5, 217), (5, 218)), (4, some .int, (5, 223), (5, 221), (5, 222)), (4, some (.object "RefactorHouse$Decl"), (5, 227), (5, 225), (5, 226)), (3, some .int, (5, 231), (5, 229), (5, 230)), (3, some (.object "RefactorHouse$Decl"), (5, 235), (5, 233), (5, 234)), (4, some .int, (6, 0), (5, 238), (5, 239)), (3, some .boolean, (6, 4), (6, 2), (6, 3)), (5, some .int, (6, 8), (6, 6), (6, 7)), (5, some .int, (6, 12), (6, 10), (6, 11)), (3, some .int, (6, 16), (6, 14), (6, 15)), (4, some .int, (6, 20), (6, 18), (6, 19)), (2, some .int, (6, 24), (6, 22), (6, 23)), (2, some .int, (6, 28), (6, 26), (6, 27)), (3, some .int, (6, 32), (6, 30), (6, 31)), (1, some .boolean, (6, 36), (6, 35), (16, 63)), (5, none, (6, 40), (6, 38), (6, 39)), (7, some .int, (6, 45), (6, 43), (6, 44)), (3, none, (6, 51), (6, 50), (16, 64)), (3, none, (6, 55), (6, 54), (16, 65)), (3, some .int, (6, 58), (6, 57), (0, 4)), (5, none, (6, 62), (6, 61), (16, 66)), (3, none, (6, 67), (6, 66), (16, 67)), (2, none, (6, 71), (6, 70), (16, 68)), (2, some .boolean, (6, 74), (6, 73), (0, 4)), (1, some .boolean, (6, 79), (6, 78), (16, 69)), (3, none, (6, 83), (6, 82), (16, 70)), (6, none, (6, 87), (6, 86), (16, 71)), (2, none, (6, 91), (6, 90), (16, 72)), (4, none, (6, 96), (6, 95), (16, 73)), (3, some .boolean, (6, 100), (6, 99), (16, 74)), (1, some .int, (6, 104), (6, 103), (16, 75)), (3, none, (6, 108), (6, 107), (16, 76)), (3, none, (6, 112), (6, 111), (16, 77)), (7, none, (6, 116), (6, 115), (16, 78)), (2, some .int, (6, 119), (6, 118), (0, 23)), (1, some .boolean, (6, 123), (6, 122), (16, 79)), (5, none, (6, 127), (6, 126), (16, 80)), (5, none, (6, 130), (6, 129), (0, 22)), (3, none, (6, 133), (6, 132), (0, 22)), (4, none, (6, 137), (6, 136), (16, 81)), (4, none, (6, 141), (6, 140), (16, 82)), (4, none, (6, 145), (6, 144), (16, 83)), (6, none, (6, 149), (6, 148), (16, 84)), (5, none, (6, 153), (6, 152), (16, 85)), (2, none, (6, 157), (6, 156), (16, 86)), (4, none, (6, 161), (6, 160), (16, 87)), (5, none, (6, 165), (6, 164), (16, 88)), (3, none, (6, 170), (6, 169), (16, 89)), (2, some .int, (6, 174), (6, 172), (6, 173)), (2, some .int, (6, 178), (6, 176), (6, 177)), (6, some .int, (6, 182), (6, 180), (6, 181)), (4, some .boolean, (6, 187), (6, 186), (16, 90)), (6, some .int, (6, 191), (6, 189), (6, 190)), (4, none, (6, 195), (6, 193), (6, 194)), (2, none, (6, 199), (6, 197), (6, 198)), (5, some .int, (6, 204), (6, 202), (6, 203)), (5, some .boolean, (6, 208), (6, 207), (16, 91)), (4, some .boolean, (6, 215), (6, 214), (16, 92)), (4, some (.object "RefactorHouse$Stat"), (6, 219), (6, 218), (16, 93)), (3, some .boolean, (6, 224), (6, 223), (16, 94)), (2, some .boolean, (6, 228), (6, 227), (16, 95)), (2, some .int, (6, 236), (6, 235), (16, 96)), (3, some .boolean, (7, 0), (6, 238), (6, 239)), (3, none, (7, 4), (7, 2), (7, 3)), (2, some .int, (7, 8), (7, 6), (7, 7)), (4, none, (7, 12), (7, 10), (7, 11)), (5, none, (7, 17), (7, 15), (7, 16)), (4, none, (7, 21), (7, 19), (7, 20)), (1, none, (7, 27), (7, 25), (7, 26)), (6, some .int, (7, 31), (7, 30), (16, 97)), (2, some .boolean, (7, 34), (7, 33), (0, 6)), (3, some .int, (7, 38), (7, 37), (16, 98)), (6, some .boolean, (7, 42), (7, 40), (7, 41)), (3, some (.object "RefactorHouse$Stat"), (7, 45), (7, 44), (0, 6)), (2, some .boolean, (7, 49), (7, 48), (16, 99)), (5, some .int, (7, 53), (7, 51), (7, 52)), (3, some .boolean, (7, 56), (7, 55), (0, 6)), (3, none, (7, 60), (7, 59), (16, 100)), (3, none, (7, 65), (7, 63), (7, 64)), (5, none, (7, 69), (7, 67), (7, 68)), (3, none, (7, 74), (7, 72), (7, 73)), (2, some .int, (7, 88), (7, 87), (16, 101)), (4, none, (7, 93), (7, 91), (7, 92)), (1, none, (7, 102), (7, 101), (16, 102)), (3, none, (7, 107), (7, 105), (7, 106)), (6, some .int, (7, 112), (7, 111), (16, 103)), (7, some .int, (7, 116), (7, 115), (16, 104)), (2, some .boolean, (7, 120), (7, 119), (16, 105)), (2, some .boolean, (7, 123), (7, 122), (0, 6)), (5, some .boolean, (7, 128), (7, 126), (7, 127)), (2, none, (7, 132), (7, 131), (16, 106)), (5, none, (7, 136), (7, 134), (7, 135)), (6, none, (7, 141), (7, 140), (16, 107)), (5, some .int, (7, 154), (7, 153), (16, 108)), (5, some .int, (7, 159), (7, 158), (16, 109)), (7, none, (7, 163), (7, 162), (16, 110)), (3, some .int, (7, 169), (7, 168), (16, 111)), (3, some (.object "RefactorHouse$Decl"), (7, 175), (7, 173), (7, 174)), (2, some .int, (7, 180), (7, 179), (16, 112)), (2, some .int, (7, 184), (7, 183), (16, 113)), (4, some (.object "RefactorHouse$Decl"), (7, 188), (7, 186), (7, 187)), (5, some .int, (7, 193), (7, 192), (16, 114)), (4, some .boolean, (7, 197), (7, 196), (16, 115)), (4, none, (7, 201), (7, 200), (16, 116)), (3, none, (7, 205), (7, 204), (16, 117)), (5, none, (7, 210), (7, 209), (16, 118)), (3, some .int, (7, 214), (7, 213), (16, 119)), (6, none, (7, 218), (7, 217), (16, 120)), (4, some .int, (7, 225), (7, 224), (16, 121)), (1, some .int, (7, 230), (7, 229), (16, 122)), (3, none, (7, 235), (7, 234), (16, 123)), (7, none, (8, 1), (7, 239), (8, 0)), (4, some .int, (8, 5), (8, 3), (8, 4)), (6, none, (8, 9), (8, 7), (8, 8)), (6, none, (8, 13), (8, 12), (16, 124)), (6, none, (8, 17), (8, 16), (16, 125)), (6, some .int, (8, 23), (8, 22), (16, 126)), (4, some (.object "RefactorHouse$Decl"), (8, 27), (8, 26), (16, 127)), (5, some .int, (8, 31), (8, 29), (8, 30)), (8, some .int, (8, 36), (8, 35), (16, 128)), (3, some (.object "RefactorHouse$Decl"), (8, 40), (8, 39), (16, 129)), (1, some .int, (8, 45), (8, 43), (8, 44)), (3, some .int, (8, 49), (8, 47), (8, 48)), (3, some .int, (8, 53), (8, 51), (8, 52)), (1, some .int, (8, 57), (8, 55), (8, 56)), (3, none, (8, 62), (8, 60), (8, 61)), (5, none, (8, 66), (8, 65), (16, 130)), (1, some .int, (8, 70), (8, 68), (8, 69)), (2, some .int, (8, 74), (8, 73), (16, 131)), (2, none, (8, 78), (8, 76), (8, 77)), (1, some .int, (8, 82), (8, 80), (8, 81)), (3, some .int, (8, 86), (8, 84), (8, 85)), (6, some .int, (8, 90), (8, 88), (8, 89)), (2, some .int, (8, 95), (8, 93), (8, 94)), (6, some .int, (8, 99), (8, 98), (16, 132)), (3, some .int, (8, 105), (8, 104), (16, 133)), (4, some .int, (8, 110), (8, 108), (8, 109)), (2, some .boolean, (8, 114), (8, 113), (0, 7)), (6, some .boolean, (8, 118), (8, 117), (16, 134)), (4, some .boolean, (8, 122), (8, 121), (16, 135)), (3, some (.object "RefactorHouse$Exp"), (8, 126), (8, 125), (0, 7)), (5, some .boolean, (8, 131), (8, 130), (16, 136)), (4, some .boolean, (8, 135), (8, 134), (16, 137)), (4, some .int, (8, 139), (8, 137), (8, 138)), (2, some (.object "RefactorHouse$Exp"), (8, 143), (8, 141), (8, 142)), (2, some .int, (8, 147), (8, 145), (8, 146)), (6, none, (8, 151), (8, 149), (8, 150)), (4, none, (8, 159), (8, 158), (16, 138)), (2, some .int, (8, 167), (8, 165), (8, 166)), (6, some .int, (8, 171), (8, 169), (8, 170)), (4, some .boolean, (8, 174), (8, 173), (0, 7)), (9, some .boolean, (8, 178), (8, 177), (16, 139)), (3, some .int, (8, 182), (8, 180), (8, 181)), (1, none, (8, 187), (8, 186), (99, 0)), (2, none, (9, 19), (9, 18), (99, 0)), (1, none, (9, 26), (9, 25), (99, 0)), (4, some .int, (10, 49), (10, 48), (16, 140)), (1, none, (10, 53), (10, 52), (16, 141)), (3, some .int, (10, 57), (10, 56), (16, 142)), (4, none, (10, 61), (10, 60), (16, 143)), (9, none, (10, 65), (10, 64), (16, 144)), (3, some .int, (10, 68), (10, 67), (0, 16)), (10, some .int, (10, 72), (10, 71), (16, 145)), (1, some .boolean, (10, 75), (10, 74), (0, 10)), (1, some .boolean, (10, 78), (10, 77), (0, 10)), (8, some .int, (10, 81), (10, 80), (0, 10)), (2, some .int, (10, 87), (10, 86), (0, 16)), (1, some .int, (10, 91), (10, 90), (16, 146)), (2, some .int, (10, 95), (10, 94), (16, 147)), (3, none, (10, 99), (10, 98), (16, 148)), (2, some .boolean, (10, 103), (10, 102), (16, 149)), (1, none, (10, 107), (10, 106), (16, 150)), (7, none, (10, 111), (10, 110), (16, 151)), (1, some .int, (10, 115), (10, 114), (16, 152)), (1, none, (10, 119), (10, 118), (16, 153)), (2, some .int, (10, 123), (10, 122), (16, 154)), (8, some .int, (10, 127), (10, 126), (16, 155)), (2, some .boolean, (10, 131), (10, 130), (16, 156)), (1, some .int, (10, 135), (10, 134), (16, 157)), (2, none, (10, 139), (10, 138), (16, 158)), (2, some .boolean, (10, 143), (10, 142), (16, 159)), (2, some .boolean, (10, 147), (10, 146), (16, 160)), (13, none, (10, 151), (10, 150), (16, 161)), (1, some .boolean, (10, 155), (10, 154), (16, 162)), (5, some .int, (10, 159), (10, 158), (16, 163)), (1, none, (10, 163), (10, 162), (16, 164)), (7, some .int, (10, 167), (10, 166), (16, 165)), (1, some .boolean, (10, 171), (10, 170), (16, 166)), (1, some .int, (10, 175), (10, 174), (16, 167)), (6, some .int, (10, 179), (10, 178), (16, 168)), (5, some .int, (10, 183), (10, 182), (16, 169)), (8, some .int, (10, 187), (10, 186), (16, 170)), (4, none, (10, 191), (10, 190), (16, 171)), (6, some .int, (10, 195), (10, 194), (16, 172)), (4, some .int, (10, 199), (10, 198), (16, 173)), (5, some .int, (10, 203), (10, 202), (16, 174)), (3, none, (10, 207), (10, 206), (16, 175)), (5, some .int, (10, 210), (10, 209), (0, 10)), (2, some .int, (10, 213), (10, 212), (0, 10)), (4, some .int, (10, 217), (10, 216), (16, 176)), (6, some .boolean, (10, 221), (10, 220), (16, 177)), (3, some .byte, (10, 225), (10, 224), (16, 178)), (2, some .int, (10, 229), (10, 228), (16, 179)), (2, some .int, (10, 233), (10, 232), (16, 180)), (2, some .int, (10, 237), (10, 236), (16, 181)), (2, some .int, (11, 1), (11, 0), (16, 182)), (3, none, (11, 5), (11, 4), (16, 183)), (3, none, (11, 9), (11, 8), (16, 184)), (4, none, (11, 14), (11, 13), (16, 185)), (5, some .boolean, (11, 18), (11, 17), (16, 186)), (3, none, (11, 22), (11, 21), (16, 187)), (2, some .int, (11, 26), (11, 25), (16, 188)), (6, some .boolean, (11, 30), (11, 29), (16, 189)), (2, some .int, (11, 34), (11, 33), (16, 190)), (3, none, (11, 38), (11, 37), (16, 191)), (2, none, (11, 42), (11, 41), (16, 192)), (4, none, (11, 46), (11, 45), (16, 193)), (3, some .int, (11, 50), (11, 49), (16, 194)), (3, some .int, (11, 54), (11, 53), (16, 195)), (4, some .int, (11, 58), (11, 57), (16, 196)), (3, some .int, (11, 62), (11, 61), (16, 197)), (6, some .int, (11, 66), (11, 65), (16, 198)), (12, some .int, (11, 70), (11, 69), (16, 199)), (6, some .boolean, (11, 74), (11, 73), (16, 200)), (3, some .boolean, (11, 78), (11, 77), (16, 201)), (6, some .int, (11, 82), (11, 81), (16, 202)), (3, some .boolean, (11, 86), (11, 85), (16, 203)), (5, some .boolean, (11, 90), (11, 89), (16, 204)), (6, some .int, (11, 94), (11, 93), (16, 205)), (2, some .int, (11, 98), (11, 97), (16, 206)), (4, some .boolean, (11, 102), (11, 101), (16, 207)), (6, some .int, (11, 106), (11, 105), (16, 208)), (2, none, (11, 110), (11, 109), (16, 209)), (5, some .boolean, (11, 114), (11, 113), (16, 210)), (5, none, (11, 118), (11, 117), (16, 211)), (6, none, (11, 122), (11, 121), (16, 212)), (4, none, (11, 126), (11, 125), (16, 213)), (3, none, (11, 130), (11, 129), (16, 214)), (6, some .int, (12, 232), (12, 230), (12, 231)), (3, none, (12, 236), (12, 235), (16, 215)), (2, some .int, (13, 0), (12, 238), (12, 239)), (5, some .int, (13, 4), (13, 2), (13, 3)), (2, some .boolean, (13, 7), (13, 6), (0, 10)), (2, none, (13, 11), (13, 10), (16, 216)), (1, none, (13, 17), (13, 16), (16, 217)), (1, none, (13, 21), (13, 20), (16, 218)), (1, some .int, (13, 25), (13, 23), (13, 24)), (2, some .int, (13, 29), (13, 27), (13, 28)), (3, some .int, (13, 33), (13, 31), (13, 32)), (4, some .int, (13, 37), (13, 35), (13, 36)), (3, some .int, (13, 41), (13, 40), (16, 219)), (1, some .int, (13, 45), (13, 43), (13, 44)), (5, some .int, (13, 49), (13, 47), (13, 48)), (3, some .int, (13, 53), (13, 52), (16, 220)), (4, some .int, (13, 59), (13, 57), (13, 58)), (5, some .int, (13, 63), (13, 62), (16, 221)), (2, some .boolean, (13, 67), (13, 66), (16, 222)), (4, some .int, (13, 71), (13, 69), (13, 70)), (5, some .int, (13, 75), (13, 73), (13, 74)), (5, some .int, (13, 79), (13, 77), (13, 78)), (2, some .int, (13, 83), (13, 82), (16, 223)), (3, some .int, (13, 87), (13, 86), (16, 224)), (2, some .int, (13, 92), (13, 91), (16, 225)), (6, some .int, (13, 96), (13, 94), (13, 95)), (3, some .int, (13, 100), (13, 98), (13, 99)), (4, some .int, (13, 104), (13, 103), (16, 226)), (3, some .boolean, (13, 108), (13, 107), (16, 227)), (2, some .int, (13, 112), (13, 110), (13, 111)), (2, some .int, (13, 116), (13, 114), (13, 115)), (2, some .int, (13, 120), (13, 118), (13, 119)), (4, none, (13, 124), (13, 123), (16, 228)), (5, some .int, (13, 128), (13, 127), (16, 229)), (4, none, (13, 132), (13, 131), (16, 230)), (4, some .int, (13, 137), (13, 136), (16, 231)), (3, some (.array .int), (13, 140), (13, 139), (0, 10)), (4, none, (13, 145), (13, 144), (16, 232)), (5, none, (13, 149), (13, 148), (16, 233)), (6, none, (13, 154), (13, 153), (16, 234)), (6, none, (13, 158), (13, 157), (16, 235)), (6, none, (13, 162), (13, 161), (16, 236)), (2, none, (13, 166), (13, 165), (16, 237)), (6, none, (13, 170), (13, 169), (16, 238)), (2, none, (13, 174), (13, 173), (16, 239)), (2, some .int, (13, 178), (13, 177), (16, 240)), (6, some .int, (13, 182), (13, 181), (16, 241)), (1, some .int, (13, 186), (13, 185), (16, 242)), (2, none, (13, 190), (13, 189), (16, 243)), (4, none, (13, 194), (13, 193), (16, 244)), (1, none, (13, 198), (13, 197), (16, 245)), (1, none, (13, 202), (13, 201), (16, 246)), (4, some .int, (13, 206), (13, 205), (16, 247)), (6, none, (13, 210), (13, 209), (16, 248)), (6, none, (13, 214), (13, 213), (16, 249)), (3, some .int, (13, 218), (13, 217), (16, 250)), (9, some .int, (13, 222), (13, 221), (16, 251)), (5, none, (13, 227), (13, 226), (16, 252)), (1, none, (13, 231), (13, 230), (16, 253)), (3, some .int, (13, 235), (13, 234), (16, 254)), (3, some .boolean, (13, 239), (13, 238), (16, 255)), (2, some .int, (14, 3), (14, 1), (14, 2)), (2, some .int, (14, 7), (14, 5), (14, 6)), (11, some .int, (14, 11), (14, 9), (14, 10)), (4, some .int, (14, 16), (14, 14), (14, 15)), (4, some .int, (14, 20), (14, 19), (16, 256)), (2, none, (14, 24), (14, 23), (16, 257)), (6, some .int, (14, 28), (14, 27), (16, 258)), (3, some .int, (14, 32), (14, 31), (16, 259)), (3, some .boolean, (14, 36), (14, 35), (16, 260)), (1, some .boolean, (14, 40), (14, 39), (0, 10)), (3, none, (14, 47), (14, 46), (16, 261)), (2, some .int, (14, 51), (14, 50), (16, 262)), (3, none, (14, 55), (14, 54), (16, 263)), (3, some (.array .boolean), (14, 58), (14, 57), (0, 10)), (4, none, (14, 62), (14, 61), (16, 264)), (11, some .int, (14, 66), (14, 65), (16, 265)), (6, none, (14, 70), (14, 69), (16, 266)), (7, none, (14, 74), (14, 73), (16, 267)), (3, some .byte, (14, 78), (14, 77), (16, 268)), (2, some .byte, (14, 82), (14, 81), (16, 269)), (4, some .boolean, (14, 86), (14, 85), (16, 270)), (6, none, (14, 90), (14, 89), (16, 271)), (4, none, (14, 94), (14, 93), (16, 272)), (3, some .int, (14, 98), (14, 97), (16, 273)), (3, some .int, (14, 104), (14, 103), (16, 274)), (8, some .int, (14, 108), (14, 107), (16, 275)), (3, none, (14, 112), (14, 111), (16, 276)), (1, some .boolean, (14, 116), (14, 115), (16, 277)), (2, some .boolean, (14, 120), (14, 119), (16, 278)), (6, some .boolean, (14, 124), (14, 123), (16, 279)), (4, some .boolean, (14, 128), (14, 127), (16, 280)), (3, none, (14, 132), (14, 131), (16, 281)), (6, none, (14, 137), (14, 136), (16, 282)), (3, none, (14, 141), (14, 140), (16, 283)), (6, some .int, (14, 146), (14, 145), (16, 284)), (3, some .int, (14, 150), (14, 149), (16, 285)), (2, none, (14, 154), (14, 153), (16, 286)), (2, none, (14, 158), (14, 157), (16, 287)), (1, none, (14, 166), (14, 165), (16, 288)), (13, some .int, (14, 172), (14, 171), (16, 289)), (3, some .boolean, (14, 176), (14, 175), (16, 290)), (5, some .boolean, (14, 180), (14, 179), (16, 291)), (4, some .boolean, (14, 184), (14, 183), (16, 292)), (8, none, (14, 190), (14, 189), (16, 293)), (7, some .int, (14, 200), (14, 199), (16, 294)), (6, some .boolean, (14, 204), (14, 203), (16, 295)), (3, some .int, (14, 208), (14, 207), (16, 296)), (2, some .int, (14, 212), (14, 211), (16, 297)), (10, none, (14, 216), (14, 215), (16, 298)), (5, some .int, (14, 221), (14, 220), (16, 299)), (4, some .int, (14, 225), (14, 224), (16, 300)), (6, some .int, (14, 232), (14, 231), (16, 301)), (2, some .int, (14, 236), (14, 235), (16, 302)), (13, some .int, (15, 0), (14, 239), (16, 303)), (10, some .int, (15, 4), (15, 3), (16, 304)), (3, some .boolean, (15, 9), (15, 8), (16, 305)), (4, some .int, (15, 13), (15, 12), (16, 306)), (5, some .int, (15, 17), (15, 16), (16, 307)), (3, none, (15, 22), (15, 21), (16, 308)), (1, some .int, (15, 28), (15, 26), (15, 27)), (5, some .int, (15, 32), (15, 30), (15, 31)), (5, some .int, (15, 36), (15, 34), (15, 35)), (1, some .int, (15, 40), (15, 38), (15, 39)), (1, some .int, (15, 44), (15, 42), (15, 43)), (2, some .int, (15, 48), (15, 46), (15, 47)), (2, none, (15, 52), (15, 51), (16, 309)), (5, none, (15, 62), (15, 61), (16, 310)), (3, some .boolean, (15, 67), (15, 66), (16, 311)), (3, some .boolean, (15, 71), (15, 70), (16, 312)), (6, some .boolean, (15, 75), (15, 74), (16, 313)), (4, some .int, (15, 79), (15, 78), (16, 314)), (8, some .boolean, (15, 84), (15, 83), (16, 315)), (5, some .boolean, (15, 89), (15, 88), (16, 316)), (3, some .int, (15, 93), (15, 91), (15, 92)), (1, some .int, (15, 97), (15, 95), (15, 96)), (5, some .int, (15, 101), (15, 100), (16, 317)), (2, some .int, (15, 105), (15, 103), (15, 104)), (6, none, (15, 109), (15, 108), (16, 318)), (9, some .boolean, (15, 113), (15, 112), (16, 319)), (3, some .int, (15, 117), (15, 115), (15, 116))]
/-- private methods: method, slots of its class, the places of three words -/
def mt_v : List (Nat × Nat × (Nat × Nat) × (Nat × Nat) × (Nat × Nat)) := [(11, 20, (0, 28), (2, 95), (2, 96)), (17, 18, (0, 36), (2, 123), (2, 124)), (20, 18, (0, 36), (2, 134), (2, 135)), (21, 18, (0, 36), (2, 138), (2, 139)), (24, 18, (0, 36), (2, 148), (2, 149)), (29, 18, (0, 36), (2, 205), (2, 206)), (30, 18, (0, 36), (2, 209), (2, 210)), (31, 18, (0, 36), (2, 213), (2, 214)), (34, 18, (0, 36), (2, 227), (2, 228)), (35, 18, (0, 36), (2, 231), (2, 232)), (36, 18, (0, 36), (2, 235), (2, 236)), (37, 18, (0, 36), (2, 239), (3, 0)), (38, 18, (0, 36), (3, 3), (3, 4)), (39, 18, (0, 36), (3, 7), (3, 8)), (42, 18, (0, 36), (3, 153), (3, 154)), (43, 18, (0, 36), (3, 157), (3, 158)), (44, 18, (0, 36), (3, 161), (3, 162)), (45, 18, (0, 36), (3, 165), (3, 166)), (48, 18, (0, 36), (4, 29), (4, 30)), (49, 18, (0, 36), (4, 33), (4, 34)), (50, 18, (0, 36), (4, 37), (4, 38)), (51, 18, (0, 36), (4, 41), (4, 42)), (52, 18, (0, 36), (4, 45), (4, 46)), (53, 18, (0, 36), (4, 49), (4, 50)), (54, 18, (0, 36), (4, 53), (4, 54)), (55, 18, (0, 36), (4, 57), (4, 58)), (56, 18, (0, 36), (4, 61), (4, 62)), (59, 18, (0, 36), (4, 192), (4, 193)), (60, 18, (0, 36), (4, 196), (4, 197)), (62, 18, (0, 36), (4, 203), (4, 204)), (64, 18, (0, 36), (4, 211), (4, 212)), (65, 20, (0, 28), (4, 215), (4, 216)), (76, 20, (0, 28), (5, 18), (5, 19)), (78, 3, (0, 105), (5, 26), (5, 27)), (79, 3, (0, 105), (5, 30), (5, 31)), (80, 3, (0, 105), (5, 34), (5, 35)), (82, 3, (0, 105), (5, 42), (5, 43)), (83, 3, (0, 105), (5, 46), (5, 47)), (84, 3, (0, 105), (5, 51), (5, 52)), (86, 3, (0, 105), (5, 59), (5, 60)), (88, 3, (0, 105), (5, 67), (5, 68)), (89, 3, (0, 105), (5, 71), (5, 72)), (90, 3, (0, 105), (5, 75), (5, 76)), (91, 3, (0, 105), (5, 79), (5, 80)), (92, 3, (0, 105), (5, 83), (5, 84)), (94, 3, (0, 105), (5, 90), (5, 91)), (96, 3, (0, 105), (5, 97), (5, 98)), (97, 3, (0, 105), (5, 101), (5, 102)), (98, 3, (0, 105), (5, 105), (5, 106)), (100, 3, (0, 105), (5, 113), (5, 114)), (101, 3, (0, 105), (5, 117), (5, 118)), (104, 3, (0, 105), (5, 129), (5, 130)), (106, 3, (0, 105), (5, 139), (5, 140)), (107, 3, (0, 105), (5, 143), (5, 144)), (108, 3, (0, 105), (5, 147), (5, 148)), (109, 3, (0, 105), (5, 151), (5, 152)), (110, 3, (0, 105), (5, 155), (5, 156)), (112, 3, (0, 105), (5, 162), (5, 163)), (114, 3, (0, 105), (5, 169), (5, 170)), (115, 3, (0, 105), (5, 173), (5, 174)), (116, 3, (0, 105), (5, 177), (5, 178)), (117, 3, (0, 105), (5, 181), (5, 182)), (119, 3, (0, 105), (5, 189), (5, 190)), (140, 20, (0, 28), (6, 34), (6, 35)), (143, 19, (0, 123), (6, 49), (6, 50)), (144, 19, (0, 123), (6, 53), (6, 54)), (146, 19, (0, 123), (6, 60), (6, 61)), (147, 19, (0, 123), (6, 65), (6, 66)), (148, 19, (0, 123), (6, 69), (6, 70)), (150, 19, (0, 123), (6, 77), (6, 78)), (151, 19, (0, 123), (6, 81), (6, 82)), (152, 19, (0, 123), (6, 85), (6, 86)), (153, 19, (0, 123), (6, 89), (6, 90)), (154, 19, (0, 123), (6, 94), (6, 95)), (155, 19, (0, 123), (6, 98), (6, 99)), (156, 19, (0, 123), (6, 102), (6, 103)), (157, 19, (0, 123), (6, 106), (6, 107)), (158, 19, (0, 123), (6, 110), (6, 111)), (159, 19, (0, 123), (6, 114), (6, 115)), (161, 19, (0, 123), (6, 121), (6, 122)), (162, 19, (0, 123), (6, 125), (6, 126)), (165, 19, (0, 123), (6, 135), (6, 136)), (166, 19, (0, 123), (6, 139), (6, 140)), (167, 19, (0, 123), (6, 143), (6, 144)), (168, 19, (0, 123), (6, 147), (6, 148)), (169, 19, (0, 123), (6, 151), (6, 152)), (170, 19, (0, 123), (6, 155), (6, 156)), (171, 19, (0, 123), (6, 159), (6, 160)), (172, 19, (0, 123), (6, 163), (6, 164)), (173, 19, (0, 123), (6, 168), (6, 169)), (177, 20, (0, 28), (6, 185), (6, 186)), (182, 11, (0, 236), (6, 206), (6, 207)), (183, 11, (0, 236), (6, 213), (6, 214)), (184, 11, (0, 236), (6, 217), (6, 218)), (185, 11, (0, 236), (6, 222), (6, 223)), (186, 11, (0, 236), (6, 226), (6, 227)), (187, 11, (0, 236), (6, 234), (6, 235)), (195, 11, (0, 236), (7, 29), (7, 30)), (197, 11, (0, 236), (7, 36), (7, 37)), (200, 11, (0, 236), (7, 47), (7, 48)), (203, 11, (0, 236), (7, 58), (7, 59)), (207, 11, (0, 236), (7, 86), (7, 87)), (209, 11, (0, 236), (7, 100), (7, 101)), (211, 11, (0, 236), (7, 110), (7, 111)), (212, 11, (0, 236), (7, 114), (7, 115)), (213, 11, (0, 236), (7, 118), (7, 119)), (216, 11, (0, 236), (7, 130), (7, 131)), (218, 11, (0, 236), (7, 139), (7, 140)), (219, 11, (0, 236), (7, 152), (7, 153)), (220, 11, (0, 236), (7, 157), (7, 158)), (221, 11, (0, 236), (7, 161), (7, 162)), (222, 11, (0, 236), (7, 167), (7, 168)), (224, 11, (0, 236), (7, 178), (7, 179)), (225, 11, (0, 236), (7, 182), (7, 183)), (227, 11, (0, 236), (7, 191), (7, 192)), (228, 11, (0, 236), (7, 195), (7, 196)), (229, 11, (0, 236), (7, 199), (7, 200)), (230, 11, (0, 236), (7, 203), (7, 204)), (231, 11, (0, 236), (7, 208), (7, 209)), (232, 11, (0, 236), (7, 212), (7, 213)), (233, 11, (0, 236), (7, 216), (7, 217)), (234, 11, (0, 236), (7, 223), (7, 224)), (235, 11, (0, 236), (7, 228), (7, 229)), (236, 11, (0, 236), (7, 233), (7, 234)), (240, 11, (0, 192), (8, 11), (8, 12)), (241, 11, (0, 192), (8, 15), (8, 16)), (242, 11, (0, 236), (8, 21), (8, 22)), (243, 11, (0, 236), (8, 25), (8, 26)), (245, 11, (0, 236), (8, 34), (8, 35)), (246, 11, (0, 236), (8, 38), (8, 39)), (252, 5, (2, 2), (8, 64), (8, 65)), (254, 20, (0, 28), (8, 72), (8, 73)), (260, 15, (1, 37), (8, 97), (8, 98)), (261, 15, (1, 37), (8, 103), (8, 104)), (264, 15, (1, 37), (8, 116), (8, 117)), (265, 15, (1, 37), (8, 120), (8, 121)), (267, 15, (1, 37), (8, 129), (8, 130)), (268, 15, (1, 37), (8, 133), (8, 134)), (273, 15, (1, 37), (8, 157), (8, 158)), (277, 15, (1, 37), (8, 176), (8, 177)), (282, 59, (9, 16), (10, 47), (10, 48)), (283, 59, (9, 16), (10, 51), (10, 52)), (284, 59, (9, 16), (10, 55), (10, 56)), (285, 59, (9, 16), (10, 59), (10, 60)), (286, 6, (9, 23), (10, 63), (10, 64)), (288, 6, (9, 23), (10, 70), (10, 71)), (293, 59, (9, 16), (10, 89), (10, 90)), (294, 59, (9, 16), (10, 93), (10, 94)), (295, 112, (8, 184), (10, 97), (10, 98)), (296, 59, (9, 16), (10, 101), (10, 102)), (297, 59, (9, 16), (10, 105), (10, 106)), (298, 59, (9, 16), (10, 109), (10, 110)), (299, 59, (9, 16), (10, 113), (10, 114)), (300, 59, (9, 16), (10, 117), (10, 118)), (301, 59, (9, 16), (10, 121), (10, 122)), (302, 59, (9, 16), (10, 125), (10, 126)), (303, 59, (9, 16), (10, 129), (10, 130)), (304, 59, (9, 16), (10, 133), (10, 134)), (305, 59, (9, 16), (10, 137), (10, 138)), (306, 59, (9, 16), (10, 141), (10, 142)), (307, 59, (9, 16), (10, 145), (10, 146)), (308, 59, (9, 16), (10, 149), (10, 150)), (309, 59, (9, 16), (10, 153), (10, 154)), (310, 59, (9, 16), (10, 157), (10, 158)), (311, 59, (9, 16), (10, 161), (10, 162)), (312, 59, (9, 16), (10, 165), (10, 166)), (313, 59, (9, 16), (10, 169), (10, 170)), (314, 59, (9, 16), (10, 173), (10, 174)), (315, 59, (9, 16), (10, 177), (10, 178)), (316, 59, (9, 16), (10, 181), (10, 182)), (317, 59, (9, 16), (10, 185), (10, 186)), (318, 59, (9, 16), (10, 189), (10, 190)), (319, 59, (9, 16), (10, 193), (10, 194)), (320, 59, (9, 16), (10, 197), (10, 198)), (321, 59, (9, 16), (10, 201), (10, 202)), (322, 59, (9, 16), (10, 205), (10, 206)), (325, 59, (9, 16), (10, 215), (10, 216)), (326, 59, (9, 16), (10, 219), (10, 220)), (327, 59, (9, 16), (10, 223), (10, 224)), (328, 59, (9, 16), (10, 227), (10, 228)), (329, 59, (9, 16), (10, 231), (10, 232)), (330, 59, (9, 16), (10, 235), (10, 236)), (331, 59, (9, 16), (10, 239), (11, 0)), (332, 59, (9, 16), (11, 3), (11, 4)), (333, 59, (9, 16), (11, 7), (11, 8)), (334, 59, (9, 16), (11, 12), (11, 13)), (335, 59, (9, 16), (11, 16), (11, 17)), (336, 59, (9, 16), (11, 20), (11, 21)), (337, 59, (9, 16), (11, 24), (11, 25)), (338, 59, (9, 16), (11, 28), (11, 29)), (339, 59, (9, 16), (11, 32), (11, 33)), (340, 59, (9, 16), (11, 36), (11, 37)), (341, 59, (9, 16), (11, 40), (11, 41)), (342, 59, (9, 16), (11, 44), (11, 45)), (343, 59, (9, 16), (11, 48), (11, 49)), (344, 59, (9, 16), (11, 52), (11, 53)), (345, 59, (9, 16), (11, 56), (11, 57)), (346, 59, (9, 16), (11, 60), (11, 61)), (347, 59, (9, 16), (11, 64), (11, 65)), (348, 59, (9, 16), (11, 68), (11, 69)), (349, 59, (9, 16), (11, 72), (11, 73)), (350, 59, (9, 16), (11, 76), (11, 77)), (351, 59, (9, 16), (11, 80), (11, 81)), (352, 59, (9, 16), (11, 84), (11, 85)), (353, 59, (9, 16), (11, 88), (11, 89)), (354, 59, (9, 16), (11, 92), (11, 93)), (355, 59, (9, 16), (11, 96), (11, 97)), (356, 59, (9, 16), (11, 100), (11, 101)), (357, 59, (9, 16), (11, 104), (11, 105)), (358, 59, (9, 16), (11, 108), (11, 109)), (359, 59, (9, 16), (11, 112), (11, 113)), (360, 59, (9, 16), (11, 116), (11, 117)), (361, 59, (9, 16), (11, 120), (11, 121)), (362, 59, (9, 16), (11, 124), (11, 125)), (363, 112, (8, 184), (11, 128), (11, 129)), (365, 112, (8, 184), (12, 234), (12, 235)), (369, 112, (8, 184), (13, 9), (13, 10)), (370, 112, (8, 184), (13, 15), (13, 16)), (371, 112, (8, 184), (13, 19), (13, 20)), (376, 59, (9, 16), (13, 39), (13, 40)), (379, 59, (9, 16), (13, 51), (13, 52)), (381, 59, (9, 16), (13, 61), (13, 62)), (382, 59, (9, 16), (13, 65), (13, 66)), (386, 112, (8, 184), (13, 81), (13, 82)), (387, 59, (9, 16), (13, 85), (13, 86)), (388, 112, (8, 184), (13, 90), (13, 91)), (391, 59, (9, 16), (13, 102), (13, 103)), (392, 59, (9, 16), (13, 106), (13, 107)), (396, 112, (8, 184), (13, 122), (13, 123)), (397, 112, (8, 184), (13, 126), (13, 127)), (398, 112, (8, 184), (13, 130), (13, 131)), (399, 112, (8, 184), (13, 135), (13, 136)), (401, 112, (8, 184), (13, 143), (13, 144)), (402, 112, (8, 184), (13, 147), (13, 148)), (403, 112, (8, 184), (13, 152), (13, 153)), (404, 112, (8, 184), (13, 156), (13, 157)), (405, 112, (8, 184), (13, 160), (13, 161)), (406, 112, (8, 184), (13, 164), (13, 165)), (407, 112, (8, 184), (13, 168), (13, 169)), (408, 112, (8, 184), (13, 172), (13, 173)), (409, 112, (8, 184), (13, 176), (13, 177)), (410, 112, (8, 184), (13, 180), (13, 181)), (411, 112, (8, 184), (13, 184), (13, 185)), (412, 112, (8, 184), (13, 188), (13, 189)), (413, 112, (8, 184), (13, 192), (13, 193)), (414, 112, (8, 184), (13, 196), (13, 197)), (415, 112, (8, 184), (13, 200), (13, 201)), (416, 112, (8, 184), (13, 204), (13, 205)), (417, 112, (8, 184), (13, 208), (13, 209)), (418, 112, (8, 184), (13, 212), (13, 213)), (419, 59, (9, 16), (13, 216), (13, 217)), (420, 112, (8, 184), (13, 220), (13, 221)), (421, 112, (8, 184), (13, 225), (13, 226)), (422, 112, (8, 184), (13, 229), (13, 230)), (423, 112, (8, 184), (13, 233), (13, 234)), (424, 112, (8, 184), (13, 237), (13, 238)), (429, 112, (8, 184), (14, 18), (14, 19)), (430, 112, (8, 184), (14, 22), (14, 23)), (431, 112, (8, 184), (14, 26), (14, 27)), (432, 112, (8, 184), (14, 30), (14, 31)), (433, 112, (8, 184), (14, 34), (14, 35)), (435, 112, (8, 184), (14, 45), (14, 46)), (436, 112, (8, 184), (14, 49), (14, 50)), (437, 112, (8, 184), (14, 53), (14, 54)), (439, 112, (8, 184), (14, 60), (14, 61)), (440, 112, (8, 184), (14, 64), (14, 65)), (441, 112, (8, 184), (14, 68), (14, 69)), (442, 112, (8, 184), (14, 72), (14, 73)), (443, 112, (8, 184), (14, 76), (14, 77)), (444, 112, (8, 184), (14, 80), (14, 81)), (445, 112, (8, 184), (14, 84), (14, 85)), (446, 112, (8, 184), (14, 88), (14, 89)), (447, 112, (8, 184), (14, 92), (14, 93)), (448, 112, (8, 184), (14, 96), (14, 97)), (449, 112, (8, 184), (14, 102), (14, 103)), (450, 112, (8, 184), (14, 106), (14, 107)), (451, 112, (8, 184), (14, 110), (14, 111)), (452, 112, (8, 184), (14, 114), (14, 115)), (453, 112, (8, 184), (14, 118), (14, 119)), (454, 112, (8, 184), (14, 122), (14, 123)), (455, 112, (8, 184), (14, 126), (14, 127)), (456, 112, (8, 184), (14, 130), (14, 131)), (457, 112, (8, 184), (14, 135), (14, 136)), (458, 112, (8, 184), (14, 139), (14, 140)), (459, 112, (8, 184), (14, 144), (14, 145)), (460, 112, (8, 184), (14, 148), (14, 149)), (461, 112, (8, 184), (14, 152), (14, 153)), (462, 112, (8, 184), (14, 156), (14, 157)), (463, 112, (8, 184), (14, 164), (14, 165)), (464, 112, (8, 184), (14, 170), (14, 171)), (465, 112, (8, 184), (14, 174), (14, 175)), (466, 112, (8, 184), (14, 178), (14, 179)), (467, 112, (8, 184), (14, 182), (14, 183)), (468, 112, (8, 184), (14, 188), (14, 189)), (469, 112, (8, 184), (14, 198), (14, 199)), (470, 112, (8, 184), (14, 202), (14, 203)), (471, 112, (8, 184), (14, 206), (14, 207)), (472, 112, (8, 184), (14, 210), (14, 211)), (473, 112, (8, 184), (14, 214), (14, 215)), (474, 112, (8, 184), (14, 219), (14, 220)), (475, 112, (8, 184), (14, 223), (14, 224)), (476, 112, (8, 184), (14, 230), (14, 231)), (477, 112, (8, 184), (14, 234), (14, 235)), (478, 112, (8, 184), (14, 238), (14, 239)), (479, 112, (8, 184), (15, 2), (15, 3)), (480, 112, (8, 184), (15, 7), (15, 8)), (481, 112, (8, 184), (15, 11), (15, 12)), (482, 112, (8, 184), (15, 15), (15, 16)), (483, 112, (8, 184), (15, 20), (15, 21)), (490, 112, (8, 184), (15, 50), (15, 51)), (491, 112, (8, 184), (15, 60), (15, 61)), (492, 112, (8, 184), (15, 65), (15, 66)), (493, 112, (8, 184), (15, 69), (15, 70)), (494, 112, (8, 184), (15, 73), (15, 74)), (495, 112, (8, 184), (15, 77), (15, 78)), (496, 112, (8, 184), (15, 82), (15, 83)), (497, 112, (8, 184), (15, 87), (15, 88)), (500, 112, (8, 184), (15, 99), (15, 100)), (502, 112, (8, 184), (15, 107), (15, 108)), (503, 112, (8, 184), (15, 111), (15, 112))]
def mt_h : List (Nat × List (Nat × Nat × Nat × Nat)) := [(367, [(135, 144, 147, 273)]), (397, [(132, 183, 186, 273)]), (440, [(63, 72, 75, 273)]), (489, [(49, 53, 56, 273)])]
/-- classes: name, slots, fields (whose, name, type, final, place of the word), the places of being instantiable and initialized -/
def mt_k : List (Nat × Nat × List (Nat × String × String × Bool × (Nat × Nat)) × (Nat × Nat) × (Nat × Nat)) := [(1, 20, [(1, "tape", "[B", true, (2, 49)), (1, "tapeSize", "I", false, (2, 51)), (1, "reader", "LRefactorHouse$Reader;", true, (2, 53)), (1, "judge", "LRefactorHouse$Judge;", true, (2, 55)), (1, "machine", "LRefactorHouse$Machine;", true, (2, 57)), (1, "edits", "LRefactorHouse$Edits;", true, (2, 59)), (1, "change", "LRefactorHouse$Change;", true, (2, 61)), (1, "finder", "LRefactorHouse$Finder;", true, (2, 63)), (1, "history", "LRefactorHouse$History;", true, (2, 65)), (1, "now", "LRefactorHouse$Prog;", false, (2, 67)), (1, "spare", "LRefactorHouse$Prog;", false, (2, 69)), (1, "place", "I", false, (2, 71)), (1, "sound", "Z", false, (2, 73)), (1, "inputs", "[I", true, (2, 75)), (1, "inputCount", "I", false, (2, 77)), (1, "hasRun", "Z", false, (2, 79)), (1, "lastRun", "[I", true, (2, 81)), (1, "lastNumbers", "[I", true, (2, 83)), (1, "twinInputs", "[I", true, (2, 85)), (1, "twinNumbers", "[I", true, (2, 87))], (0, 28), (0, 1)), (2, 18, [(2, "buckets", "[I", true, (0, 65)), (2, "waiting", "[LRefactorHouse$Exp;", true, (0, 67)), (2, "operators", "[I", true, (0, 69)), (2, "waits", "I", false, (0, 71)), (2, "p", "LRefactorHouse$Prog;", false, (0, 73)), (2, "begin", "I", false, (0, 75)), (2, "at", "I", false, (0, 77)), (2, "tail", "I", false, (0, 79)), (2, "tailPlace", "I", false, (0, 81)), (2, "limit", "I", false, (0, 83)), (2, "code", "I", false, (0, 85)), (2, "inRecipe", "Z", false, (0, 87)), (2, "mayType", "Z", false, (0, 89)), (2, "member", "LRefactorHouse$Decl;", false, (0, 91)), (2, "stat", "LRefactorHouse$Stat;", false, (0, 93)), (2, "fault", "I", false, (0, 95)), (2, "faultPlace", "I", false, (0, 97)), (2, "pattern", "LRefactorHouse$Exp;", false, (0, 99))], (0, 36), (0, 2)), (3, 3, [(3, "choice", "[LRefactorHouse$Decl;", true, (0, 115)), (3, "numbers", "[I", true, (0, 117)), (3, "p", "LRefactorHouse$Prog;", false, (0, 119))], (0, 105), (0, 3)), (4, 19, [(4, "ran", "[I", true, (0, 152)), (4, "numbers", "[I", true, (0, 154)), (4, "p", "LRefactorHouse$Prog;", false, (0, 156)), (4, "inputs", "[I", false, (0, 158)), (4, "inputCount", "I", false, (0, 160)), (4, "stack", "[I", true, (0, 162)), (4, "top", "I", false, (0, 164)), (4, "heap", "[I", true, (0, 166)), (4, "heapUsed", "I", false, (0, 168)), (4, "objectAt", "[I", true, (0, 170)), (4, "objectClass", "[I", true, (0, 172)), (4, "statics", "[I", true, (0, 174)), (4, "frames", "[[I", true, (0, 176)), (4, "depth", "I", false, (0, 178)), (4, "rows", "[[I", true, (0, 180)), (4, "rowSize", "[I", true, (0, 182)), (4, "target", "[[I", true, (0, 184)), (4, "fail", "I", false, (0, 186)), (4, "going", "Z", false, (0, 188))], (0, 123), (0, 4)), (5, 11, [(5, "place", "[I", true, (0, 212)), (5, "gone", "[I", true, (0, 214)), (5, "length", "[I", true, (0, 216)), (5, "start", "[I", true, (0, 218)), (5, "count", "I", false, (0, 220)), (5, "bytes", "[B", true, (0, 222)), (5, "copied", "[I", true, (0, 224)), (5, "used", "I", false, (0, 226)), (5, "came", "[I", true, (0, 228)), (5, "origin", "[I", true, (0, 230)), (5, "p", "LRefactorHouse$Prog;", false, (0, 232))], (0, 192), (0, 5)), (6, 11, [(6, "edits", "LRefactorHouse$Edits;", true, (1, 13)), (6, "p", "LRefactorHouse$Prog;", false, (1, 15)), (6, "name", "[B", false, (1, 17)), (6, "nameSize", "I", false, (1, 19)), (6, "where", "I", false, (1, 21)), (6, "told", "LRefactorHouse$Decl;", false, (1, 23)), (6, "exp", "LRefactorHouse$Exp;", false, (1, 25)), (6, "from", "LRefactorHouse$Stat;", false, (1, 27)), (6, "to", "LRefactorHouse$Stat;", false, (1, 29)), (6, "out", "LRefactorHouse$Decl;", false, (1, 31)), (6, "digits", "[I", true, (1, 33))], (0, 236), (0, 6)), (7, 15, [(7, "recipe", "LRefactorHouse$Prog;", true, (1, 210)), (7, "p", "LRefactorHouse$Prog;", false, (1, 212)), (7, "pattern", "LRefactorHouse$Exp;", false, (1, 214)), (7, "arrow", "I", false, (1, 216)), (7, "learned", "Z", false, (1, 218)), (7, "faultPlace", "I", false, (1, 220)), (7, "found", "[I", true, (1, 222)), (7, "foundCount", "I", false, (1, 224)), (7, "bound", "[LRefactorHouse$Exp;", true, (1, 226)), (7, "latest", "[I", true, (1, 228)), (7, "earlier", "[I", true, (1, 230)), (7, "runs", "[I", true, (1, 232)), (7, "pairFirst", "[I", true, (1, 234)), (7, "pairSecond", "[I", true, (1, 236)), (7, "pairCount", "I", false, (1, 238))], (1, 37), (0, 7)), (8, 19, [(8, "text", "[[B", true, (1, 149)), (8, "size", "[I", true, (1, 151)), (8, "at", "[I", true, (1, 153)), (8, "length", "[I", true, (1, 155)), (8, "code", "[I", true, (1, 157)), (8, "sym", "[I", true, (1, 159)), (8, "means", "[LRefactorHouse$Decl;", true, (1, 161)), (8, "tokens", "I", false, (1, 163)), (8, "exps", "[LRefactorHouse$Exp;", true, (1, 165)), (8, "expCount", "I", false, (1, 167)), (8, "stats", "[LRefactorHouse$Stat;", true, (1, 169)), (8, "statCount", "I", false, (1, 171)), (8, "decls", "[LRefactorHouse$Decl;", true, (1, 173)), (8, "declCount", "I", false, (1, 175)), (8, "classes", "[LRefactorHouse$Decl;", true, (1, 177)), (8, "classCount", "I", false, (1, 179)), (8, "judged", "Z", false, (1, 181)), (8, "error", "I", false, (1, 183)), (8, "errorPlace", "I", false, (1, 185))], (1, 43), (0, 8)), (9, 5, [(9, "texts", "[[B", true, (2, 16)), (9, "sizes", "[[I", true, (2, 18)), (9, "oldest", "I", false, (2, 20)), (9, "done", "I", false, (2, 22)), (9, "undone", "I", false, (2, 24))], (2, 2), (0, 9)), (12, 19, [(12, "index", "I", false, (3, 109)), (12, "kind", "I", false, (3, 111)), (12, "number", "I", false, (3, 113)), (12, "tok", "I", false, (3, 115)), (12, "typeTok", "I", false, (3, 117)), (12, "type", "I", false, (3, 119)), (12, "first", "I", false, (3, 121)), (12, "last", "I", false, (3, 123)), (12, "isStatic", "Z", false, (3, 125)), (12, "owner", "LRefactorHouse$Decl;", false, (3, 127)), (12, "above", "LRefactorHouse$Decl;", false, (3, 129)), (12, "sub", "LRefactorHouse$Decl;", false, (3, 131)), (12, "next", "LRefactorHouse$Decl;", false, (3, 133)), (12, "exp", "LRefactorHouse$Exp;", false, (3, 135)), (12, "stat", "LRefactorHouse$Stat;", false, (3, 137)), (12, "params", "I", false, (3, 139)), (12, "slot", "I", false, (3, 141)), (12, "slots", "I", false, (3, 143)), (12, "family", "LRefactorHouse$Decl;", false, (3, 145))], (3, 11), (0, 24)), (13, 14, [(13, "index", "I", false, (3, 235)), (13, "kind", "I", false, (3, 237)), (13, "first", "I", false, (3, 239)), (13, "last", "I", false, (4, 1)), (13, "inBlock", "Z", false, (4, 3)), (13, "canEnd", "Z", false, (4, 5)), (13, "up", "LRefactorHouse$Stat;", false, (4, 7)), (13, "sub", "LRefactorHouse$Stat;", false, (4, 9)), (13, "otherwise", "LRefactorHouse$Stat;", false, (4, 11)), (13, "next", "LRefactorHouse$Stat;", false, (4, 13)), (13, "exp", "LRefactorHouse$Exp;", false, (4, 15)), (13, "value", "LRefactorHouse$Exp;", false, (4, 17)), (13, "local", "LRefactorHouse$Decl;", false, (4, 19)), (13, "member", "LRefactorHouse$Decl;", false, (4, 21))], (3, 169), (0, 25)), (14, 18, [(14, "index", "I", false, (4, 150)), (14, "lo", "I", false, (4, 152)), (14, "kind", "I", false, (4, 154)), (14, "first", "I", false, (4, 156)), (14, "last", "I", false, (4, 158)), (14, "tok", "I", false, (4, 160)), (14, "value", "I", false, (4, 162)), (14, "type", "I", false, (4, 164)), (14, "args", "I", false, (4, 166)), (14, "left", "LRefactorHouse$Exp;", false, (4, 168)), (14, "right", "LRefactorHouse$Exp;", false, (4, 170)), (14, "arg", "LRefactorHouse$Exp;", false, (4, 172)), (14, "next", "LRefactorHouse$Exp;", false, (4, 174)), (14, "guard", "LRefactorHouse$Exp;", false, (4, 176)), (14, "means", "LRefactorHouse$Decl;", false, (4, 178)), (14, "stat", "LRefactorHouse$Stat;", false, (4, 180)), (14, "member", "LRefactorHouse$Decl;", false, (4, 182)), (14, "isTarget", "Z", false, (4, 184))], (4, 64), (0, 26)), (15, 112, [(15, "tape", "[B", true, (12, 4)), (15, "taped", "I", false, (12, 6)), (15, "stop", "Ljava/lang/IllegalStateException;", true, (12, 8)), (15, "fault", "I", false, (12, 10)), (15, "faultPlace", "I", false, (12, 12)), (15, "failing", "Ljava/lang/IllegalStateException;", true, (12, 14)), (15, "run", "LRefactorHouseModel$Program;", false, (12, 16)), (15, "fail", "I", false, (12, 18)), (15, "failPlace", "I", false, (12, 20)), (15, "steps", "I", false, (12, 22)), (15, "calls", "I", false, (12, 24)), (15, "objects", "I", false, (12, 26)), (15, "printed", "I", false, (12, 28)), (15, "numbers", "[I", true, (12, 30)), (15, "inputs", "[I", true, (12, 32)), (15, "inputCount", "I", false, (12, 34)), (15, "reading", "[I", false, (12, 36)), (15, "readCount", "I", false, (12, 38)), (15, "readMost", "I", false, (12, 40)), (15, "statics", "[I", true, (12, 42)), (15, "objectClasses", "[I", true, (12, 44)), (15, "objectFields", "[I", true, (12, 46)), (15, "fieldCells", "[I", false, (12, 48)), (15, "fieldsUsed", "I", false, (12, 50)), (15, "frame", "[I", false, (12, 52)), (15, "frameBase", "I", false, (12, 54)), (15, "frameTop", "I", false, (12, 56)), (15, "frameMethod", "I", false, (12, 58)), (15, "self", "I", false, (12, 60)), (15, "at", "I", false, (12, 62)), (15, "acts", "I", false, (12, 64)), (15, "actSorts", "[I", false, (12, 66)), (15, "actFirsts", "[I", false, (12, 68)), (15, "actSeconds", "[I", false, (12, 70)), (15, "methodActs", "[I", true, (12, 72)), (15, "makingActs", "[I", true, (12, 74)), (15, "aboves", "[I", true, (12, 76)), (15, "leasts", "[I", true, (12, 78)), (15, "links", "[I", true, (12, 80)), (15, "pile", "[I", false, (12, 82)), (15, "height", "I", false, (12, 84)), (15, "pc", "I", false, (12, 86)), (15, "underWay", "I", false, (12, 88)), (15, "oldActs", "[I", false, (12, 90)), (15, "oldBases", "[I", false, (12, 92)), (15, "oldTops", "[I", false, (12, 94)), (15, "oldMethods", "[I", false, (12, 96)), (15, "oldSelves", "[I", false, (12, 98)), (15, "oldPlaces", "[I", false, (12, 100)), (15, "runNumber", "I", false, (12, 102)), (15, "chosenRuns", "[I", true, (12, 104)), (15, "chosenMethods", "[I", true, (12, 106)), (15, "now", "LRefactorHouseModel$Program;", false, (12, 108)), (15, "next", "LRefactorHouseModel$Program;", false, (12, 110)), (15, "before", "LRefactorHouseModel$Program;", false, (12, 112)), (15, "pattern", "LRefactorHouseModel$Program;", true, (12, 114)), (15, "place", "I", false, (12, 116)), (15, "kept", "[[[B", true, (12, 118)), (15, "keptSizes", "[I", true, (12, 120)), (15, "step0", "I", false, (12, 122)), (15, "lastStep", "I", false, (12, 124)), (15, "ranOne", "Z", false, (12, 126)), (15, "edits", "I", false, (12, 128)), (15, "editPlaces", "[I", false, (12, 130)), (15, "editGoes", "[I", false, (12, 132)), (15, "editFirsts", "[I", false, (12, 134)), (15, "editSizes", "[I", false, (12, 136)), (15, "editBlanks", "[Z", false, (12, 138)), (15, "pieces", "I", false, (12, 140)), (15, "pieceSorts", "[I", false, (12, 142)), (15, "pieceFroms", "[I", false, (12, 144)), (15, "pieceSizes", "[I", false, (12, 146)), (15, "sound", "Z", false, (12, 148)), (15, "letters", "[B", true, (12, 150)), (15, "lettered", "I", false, (12, 152)), (15, "named", "[B", true, (12, 154)), (15, "namedSize", "I", false, (12, 156)), (15, "starts", "[I", false, (12, 158)), (15, "stops", "[I", false, (12, 160)), (15, "olds", "[I", true, (12, 162)), (15, "newSizes", "[I", true, (12, 164)), (15, "listed", "[I", true, (12, 166)), (15, "fronts", "[Z", true, (12, 168)), (15, "leastPlace", "I", false, (12, 170)), (15, "foundCount", "I", false, (12, 172)), (15, "foundNodes", "[I", true, (12, 174)), (15, "hasRecipe", "Z", false, (12, 176)), (15, "firstExp", "I", false, (12, 178)), (15, "secondFirst", "I", false, (12, 180)), (15, "secondLast", "I", false, (12, 182)), (15, "bound", "[I", true, (12, 184)), (15, "pairs", "I", false, (12, 186)), (15, "pairFirsts", "[I", true, (12, 188)), (15, "pairSeconds", "[I", true, (12, 190)), (15, "nameIds", "[I", true, (12, 192)), (15, "runStarts", "[I", true, (12, 194)), (15, "partners", "[I", true, (12, 196)), (15, "partnersOf", "[I", true, (12, 198)), (15, "stamps", "[I", true, (12, 200)), (15, "stampsOf", "[I", true, (12, 202)), (15, "stamp", "I", false, (12, 204)), (15, "isStart", "[Z", true, (12, 206)), (15, "hasRun", "Z", false, (12, 208)), (15, "ranFail", "I", false, (12, 210)), (15, "ranSteps", "I", false, (12, 212)), (15, "ranObjects", "I", false, (12, 214)), (15, "ranRead", "I", false, (12, 216)), (15, "ranPlace", "I", false, (12, 218)), (15, "ranPrinted", "I", false, (12, 220)), (15, "ranNumbers", "[I", true, (12, 222)), (15, "drawn", "[I", true, (12, 224)), (15, "firstNumbers", "[I", true, (12, 226))], (8, 184), (0, 10)), (18, 6, [], (8, 190), (0, 14)), (16, 59, [(16, "texts", "[[B", true, (9, 164)), (16, "sizes", "[I", true, (9, 166)), (16, "tokens", "LRefactorHouseModel$Tokens;", true, (9, 168)), (16, "firstTokens", "[I", true, (9, 170)), (16, "nodes", "I", false, (9, 172)), (16, "ops", "[I", true, (9, 174)), (16, "xs", "[I", true, (9, 176)), (16, "ys", "[I", true, (9, 178)), (16, "zs", "[I", true, (9, 180)), (16, "names", "[I", true, (9, 182)), (16, "firsts", "[I", true, (9, 184)), (16, "lasts", "[I", true, (9, 186)), (16, "nexts", "[I", true, (9, 188)), (16, "parents", "[I", true, (9, 190)), (16, "types", "[I", true, (9, 192)), (16, "homes", "[I", true, (9, 194)), (16, "told", "I", false, (9, 196)), (16, "sorts", "[I", true, (9, 198)), (16, "nameTokens", "[I", true, (9, 200)), (16, "typeTokens", "[I", true, (9, 202)), (16, "owners", "[I", true, (9, 204)), (16, "statics", "[Z", true, (9, 206)), (16, "bodies", "[I", true, (9, 208)), (16, "begins", "[I", true, (9, 210)), (16, "ends", "[I", true, (9, 212)), (16, "toldTypes", "[I", true, (9, 214)), (16, "paramCounts", "[I", true, (9, 216)), (16, "classes", "I", false, (9, 218)), (16, "classTold", "[I", true, (9, 220)), (16, "supers", "[I", true, (9, 222)), (16, "classNumbers", "[I", true, (9, 224)), (16, "means", "[I", true, (9, 226)), (16, "families", "[I", true, (9, 228)), (16, "error", "I", false, (9, 230)), (16, "errorPlace", "I", false, (9, 232)), (16, "t", "I", false, (9, 234)), (16, "fileFirst", "I", false, (9, 236)), (16, "deep", "I", false, (9, 238)), (16, "home", "I", false, (10, 0)), (16, "otherClasses", "I", false, (10, 2)), (16, "recipe", "Z", false, (10, 4)), (16, "most", "I", false, (10, 6)), (16, "second", "Z", false, (10, 8)), (16, "dollars", "I", false, (10, 10)), (16, "dollarTypes", "[I", true, (10, 12)), (16, "lateFault", "I", false, (10, 14)), (16, "latePlace", "I", false, (10, 16)), (16, "known", "[I", true, (10, 18)), (16, "knows", "I", false, (10, 20)), (16, "here", "I", false, (10, 22)), (16, "isStatic", "Z", false, (10, 24)), (16, "method", "I", false, (10, 26)), (16, "mightBe", "[I", true, (10, 28)), (16, "kept", "[I", true, (10, 30)), (16, "fieldSlots", "[I", true, (10, 32)), (16, "fieldCounts", "[I", true, (10, 34)), (16, "byteTokens", "[I", true, (10, 36)), (16, "mapped", "Z", false, (10, 38)), (16, "this$0", "LRefactorHouseModel;", true, (10, 40))], (9, 16), (0, 15)), (17, 6, [(17, "sorts", "[I", true, (9, 46)), (17, "codes", "[I", true, (9, 48)), (17, "froms", "[I", true, (9, 50)), (17, "sizes", "[I", true, (9, 52)), (17, "files", "[I", true, (9, 54)), (17, "count", "I", false, (9, 56))], (9, 23), (0, 16))]
/-- types of arrays: what their places are -/
def mt_L : List FieldType := [.int, .byte, .boolean, (.object "RefactorHouse$Exp"), (.object "RefactorHouse$Decl"), (.array .int), (.array .byte), (.object "RefactorHouse$Stat"), (.array (.array .byte))]
/-- fields by class and constant pool number: class, place, whether by the nest, its host, place of the word -/
def mt_F : List (List (Nat × Nat × Nat × Bool × String × (Nat × Nat))) := [[], [(9, 0, 0, false, "", (2, 29)), (16, 0, 2, false, "", (2, 31)), (23, 0, 3, false, "", (2, 32)), (30, 0, 4, false, "", (2, 33)), (37, 0, 5, false, "", (2, 34)), (46, 0, 6, false, "", (2, 35)), (53, 0, 7, false, "", (2, 36)), (60, 0, 8, false, "", (2, 37)), (69, 0, 9, false, "", (2, 38)), (73, 0, 10, false, "", (2, 39)), (76, 0, 11, false, "", (2, 40)), (80, 0, 13, false, "", (2, 42)), (84, 0, 16, false, "", (2, 45)), (87, 0, 17, false, "", (2, 46)), (90, 0, 18, false, "", (2, 47)), (93, 0, 19, false, "", (2, 48)), (96, 0, 1, false, "", (2, 30)), (107, 7, 0, false, "", (1, 57)), (117, 7, 1, false, "", (1, 64)), (128, 1, 16, false, "", (0, 61)), (137, 0, 15, false, "", (2, 44)), (144, 0, 12, false, "", (2, 41)), (151, 7, 3, false, "", (1, 76)), (154, 7, 4, false, "", (1, 82)), (164, 7, 18, false, "", (1, 147)), (167, 7, 17, false, "", (1, 143)), (170, 7, 16, false, "", (1, 140)), (179, 7, 2, false, "", (1, 73)), (182, 9, 3, false, "", (3, 38)), (187, 9, 1, false, "", (3, 26)), (194, 11, 7, false, "", (4, 108)), (220, 0, 14, false, "", (2, 43)), (230, 3, 0, false, "", (0, 132)), (233, 3, 1, false, "", (0, 134)), (236, 8, 3, false, "", (2, 13)), (259, 5, 4, false, "", (1, 6)), (262, 4, 4, false, "", (0, 205)), (265, 4, 0, false, "", (0, 198)), (267, 4, 1, false, "", (0, 200)), (270, 4, 2, false, "", (0, 202)), (285, 8, 4, false, "", (2, 15)), (295, 6, 5, false, "", (1, 196)), (304, 11, 3, false, "", (4, 89)), (307, 11, 4, false, "", (4, 94)), (310, 6, 4, false, "", (1, 194)), (313, 6, 7, false, "", (1, 199)), (323, 6, 14, false, "", (1, 209)), (326, 6, 12, false, "", (1, 205)), (329, 6, 13, false, "", (1, 207))], [(9, 1, 0, false, "", (0, 43)), (17, 1, 1, false, "", (0, 44)), (21, 1, 2, false, "", (0, 45)), (24, 1, 4, false, "", (0, 47)), (39, 1, 15, false, "", (0, 58)), (47, 1, 11, false, "", (0, 54)), (51, 1, 12, false, "", (0, 55)), (54, 7, 1, false, "", (1, 61)), (57, 1, 16, false, "", (0, 60)), (80, 1, 17, false, "", (0, 64)), (84, 1, 3, false, "", (0, 46)), (87, 1, 13, false, "", (0, 56)), (91, 1, 14, false, "", (0, 57)), (95, 1, 9, false, "", (0, 52)), (98, 7, 7, false, "", (1, 94)), (101, 1, 5, false, "", (0, 48)), (104, 1, 6, false, "", (0, 49)), (111, 7, 0, false, "", (1, 58)), (121, 1, 7, false, "", (0, 50)), (131, 7, 2, false, "", (1, 70)), (133, 7, 3, false, "", (1, 75)), (136, 7, 4, false, "", (1, 81)), (139, 1, 10, false, "", (0, 53)), (141, 7, 6, false, "", (1, 90)), (145, 7, 5, false, "", (1, 86)), (152, 1, 8, false, "", (0, 51)), (184, 7, 13, false, "", (1, 126)), (187, 7, 12, false, "", (1, 121)), (200, 7, 15, false, "", (1, 137)), (207, 9, 2, false, "", (3, 31)), (210, 7, 14, false, "", (1, 132)), (213, 9, 4, false, "", (3, 42)), (220, 9, 11, false, "", (3, 77)), (223, 9, 12, false, "", (3, 81)), (226, 9, 6, false, "", (3, 51)), (229, 9, 7, false, "", (3, 55)), (236, 9, 9, false, "", (3, 67)), (239, 9, 8, false, "", (3, 62)), (250, 9, 14, false, "", (3, 91)), (255, 10, 3, false, "", (3, 190)), (258, 9, 13, false, "", (3, 84)), (260, 9, 15, false, "", (3, 94)), (263, 7, 11, false, "", (1, 116)), (266, 7, 10, false, "", (1, 111)), (274, 10, 2, false, "", (3, 185)), (275, 10, 13, false, "", (3, 233)), (279, 10, 1, false, "", (3, 179)), (282, 10, 10, false, "", (3, 221)), (287, 11, 17, false, "", (4, 149)), (290, 10, 11, false, "", (3, 225)), (293, 10, 12, false, "", (3, 229)), (303, 10, 4, false, "", (3, 195)), (306, 10, 7, false, "", (3, 203)), (308, 10, 9, false, "", (3, 215)), (310, 10, 8, false, "", (3, 209)), (326, 11, 3, false, "", (4, 88)), (331, 11, 4, false, "", (4, 93)), (332, 11, 10, false, "", (4, 123)), (335, 11, 6, false, "", (4, 103)), (337, 7, 8, false, "", (1, 101)), (340, 11, 1, false, "", (4, 76)), (343, 11, 13, false, "", (4, 134)), (346, 7, 9, false, "", (1, 106)), (352, 11, 5, false, "", (4, 98)), (355, 11, 9, false, "", (4, 120)), (358, 11, 15, false, "", (4, 142)), (359, 11, 16, false, "", (4, 144)), (373, 11, 12, false, "", (4, 131)), (375, 11, 11, false, "", (4, 127)), (378, 11, 8, false, "", (4, 115))], [(11, 2, 0, false, "", (0, 112)), (17, 2, 1, false, "", (0, 113)), (21, 2, 2, false, "", (0, 114)), (25, 7, 16, false, "", (1, 138)), (31, 7, 17, false, "", (1, 141)), (35, 7, 18, false, "", (1, 146)), (47, 7, 9, false, "", (1, 103)), (50, 7, 8, false, "", (1, 97)), (54, 11, 16, false, "", (4, 143)), (64, 11, 7, false, "", (4, 106)), (76, 7, 2, false, "", (1, 67)), (83, 7, 15, false, "", (1, 135)), (86, 7, 5, false, "", (1, 85)), (89, 7, 14, false, "", (1, 130)), (92, 9, 3, false, "", (3, 33)), (95, 9, 10, false, "", (3, 72)), (98, 7, 6, false, "", (1, 89)), (105, 9, 4, false, "", (3, 41)), (112, 7, 13, false, "", (1, 125)), (115, 7, 12, false, "", (1, 120)), (118, 9, 1, false, "", (3, 24)), (121, 9, 2, false, "", (3, 29)), (124, 9, 5, false, "", (3, 46)), (143, 9, 9, false, "", (3, 66)), (146, 9, 11, false, "", (3, 76)), (153, 9, 12, false, "", (3, 80)), (156, 9, 8, false, "", (3, 61)), (159, 11, 2, false, "", (4, 80)), (160, 11, 5, false, "", (4, 96)), (174, 11, 14, false, "", (4, 137)), (176, 11, 9, false, "", (4, 117)), (180, 11, 6, false, "", (4, 102)), (190, 11, 3, false, "", (4, 85)), (193, 11, 10, false, "", (4, 122)), (216, 9, 0, false, "", (3, 18)), (223, 9, 14, false, "", (3, 90)), (227, 10, 4, false, "", (3, 194)), (232, 10, 6, false, "", (3, 200)), (235, 10, 3, false, "", (3, 189)), (248, 11, 11, false, "", (4, 126)), (251, 11, 12, false, "", (4, 130)), (260, 9, 15, false, "", (3, 97)), (263, 11, 8, false, "", (4, 114)), (275, 7, 11, false, "", (1, 117)), (278, 7, 10, false, "", (1, 112)), (286, 10, 5, false, "", (3, 197)), (288, 10, 1, false, "", (3, 181)), (289, 10, 10, false, "", (3, 223)), (292, 10, 12, false, "", (3, 231)), (299, 10, 11, false, "", (3, 227)), (309, 10, 2, false, "", (3, 186)), (314, 10, 13, false, "", (3, 234)), (315, 10, 7, false, "", (3, 206)), (317, 10, 8, false, "", (3, 210)), (320, 10, 9, false, "", (3, 217)), (322, 9, 13, false, "", (3, 85)), (329, 9, 17, false, "", (3, 103)), (340, 9, 18, false, "", (3, 108)), (343, 9, 16, false, "", (3, 100))], [(11, 3, 0, false, "", (0, 131)), (15, 3, 1, false, "", (0, 133)), (18, 3, 5, false, "", (0, 138)), (22, 3, 7, false, "", (0, 140)), (25, 3, 9, false, "", (0, 142)), (28, 3, 10, false, "", (0, 143)), (31, 3, 11, false, "", (0, 144)), (36, 3, 12, false, "", (0, 145)), (39, 3, 14, false, "", (0, 147)), (42, 3, 15, false, "", (0, 148)), (45, 3, 16, false, "", (0, 149)), (48, 3, 2, false, "", (0, 135)), (52, 3, 3, false, "", (0, 136)), (61, 3, 4, false, "", (0, 137)), (71, 3, 6, false, "", (0, 139)), (74, 3, 8, false, "", (0, 141)), (77, 3, 13, false, "", (0, 146)), (80, 3, 17, false, "", (0, 150)), (83, 3, 18, false, "", (0, 151)), (95, 7, 8, false, "", (1, 98)), (108, 7, 10, false, "", (1, 108)), (116, 7, 13, false, "", (1, 124)), (119, 7, 12, false, "", (1, 119)), (123, 9, 1, false, "", (3, 22)), (128, 9, 8, false, "", (3, 59)), (131, 9, 13, false, "", (3, 83)), (139, 7, 15, false, "", (1, 134)), (142, 7, 14, false, "", (1, 129)), (153, 9, 10, false, "", (3, 71)), (157, 9, 0, false, "", (3, 17)), (160, 9, 2, false, "", (3, 28)), (169, 9, 11, false, "", (3, 75)), (172, 9, 18, false, "", (3, 105)), (175, 9, 12, false, "", (3, 79)), (178, 7, 2, false, "", (1, 71)), (181, 9, 3, false, "", (3, 36)), (184, 10, 2, false, "", (3, 183)), (193, 11, 13, false, "", (4, 133)), (202, 11, 0, false, "", (4, 71)), (203, 11, 2, false, "", (4, 81)), (204, 11, 6, false, "", (4, 101)), (210, 11, 17, false, "", (4, 147)), (213, 11, 14, false, "", (4, 138)), (237, 9, 16, false, "", (3, 99)), (240, 11, 8, false, "", (4, 113)), (243, 11, 9, false, "", (4, 118)), (260, 9, 14, false, "", (3, 89)), (264, 10, 0, false, "", (3, 175)), (265, 9, 17, false, "", (3, 102)), (271, 11, 1, false, "", (4, 75)), (281, 9, 5, false, "", (3, 47)), (284, 9, 15, false, "", (3, 96)), (287, 7, 3, false, "", (1, 78)), (294, 10, 1, false, "", (3, 180)), (295, 10, 10, false, "", (3, 222)), (296, 10, 11, false, "", (3, 226)), (298, 10, 7, false, "", (3, 205)), (300, 10, 12, false, "", (3, 230)), (306, 11, 7, false, "", (4, 110)), (307, 10, 8, false, "", (3, 208)), (323, 10, 9, false, "", (3, 216)), (325, 10, 6, false, "", (3, 201))], [(9, 4, 0, false, "", (0, 197)), (15, 4, 1, false, "", (0, 199)), (18, 4, 2, false, "", (0, 201)), (21, 4, 3, false, "", (0, 203)), (24, 4, 5, false, "", (0, 206)), (28, 4, 6, false, "", (0, 207)), (31, 4, 8, false, "", (0, 209)), (34, 4, 9, false, "", (0, 210)), (37, 4, 10, false, "", (0, 211)), (41, 4, 4, false, "", (0, 204)), (45, 4, 7, false, "", (0, 208)), (60, 7, 2, false, "", (1, 68)), (103, 7, 3, false, "", (1, 77)), (112, 9, 3, false, "", (3, 37)), (117, 7, 1, false, "", (1, 65)), (128, 7, 0, false, "", (1, 59))], [(9, 5, 10, false, "", (1, 12)), (15, 5, 0, false, "", (1, 1)), (19, 5, 1, false, "", (1, 2)), (23, 5, 2, false, "", (1, 3)), (27, 5, 3, false, "", (1, 4)), (31, 5, 4, false, "", (1, 5)), (34, 5, 5, false, "", (1, 7)), (38, 5, 6, false, "", (1, 8)), (42, 5, 7, false, "", (1, 9)), (46, 5, 8, false, "", (1, 10)), (49, 5, 9, false, "", (1, 11)), (85, 9, 9, false, "", (3, 65)), (90, 9, 10, false, "", (3, 70)), (124, 9, 1, false, "", (3, 23)), (135, 9, 8, false, "", (3, 60)), (143, 10, 1, false, "", (3, 177)), (167, 7, 11, false, "", (1, 114)), (170, 7, 10, false, "", (1, 109)), (174, 10, 2, false, "", (3, 182)), (177, 10, 4, false, "", (3, 192)), (180, 10, 6, false, "", (3, 199)), (183, 10, 3, false, "", (3, 187)), (186, 10, 9, false, "", (3, 213)), (189, 10, 10, false, "", (3, 220)), (190, 11, 14, false, "", (4, 136)), (195, 7, 2, false, "", (1, 72)), (198, 7, 9, false, "", (1, 105)), (201, 7, 8, false, "", (1, 100)), (205, 11, 2, false, "", (4, 82)), (210, 11, 11, false, "", (4, 125)), (217, 11, 3, false, "", (4, 86)), (218, 11, 12, false, "", (4, 129)), (230, 7, 7, false, "", (1, 95)), (233, 7, 4, false, "", (1, 83)), (236, 7, 6, false, "", (1, 91)), (239, 9, 14, false, "", (3, 88)), (246, 11, 5, false, "", (4, 97)), (257, 10, 13, false, "", (3, 232)), (271, 9, 3, false, "", (3, 39)), (276, 11, 4, false, "", (4, 91)), (284, 11, 15, false, "", (4, 141)), (285, 11, 7, false, "", (4, 109)), (288, 11, 17, false, "", (4, 148)), (314, 9, 7, false, "", (3, 56)), (318, 9, 0, false, "", (3, 19)), (321, 7, 13, false, "", (1, 127)), (324, 7, 12, false, "", (1, 122)), (330, 9, 15, false, "", (3, 93)), (364, 9, 5, false, "", (3, 48)), (377, 10, 7, false, "", (3, 204)), (386, 11, 9, false, "", (4, 119)), (389, 9, 6, false, "", (3, 53)), (415, 9, 18, false, "", (3, 107)), (431, 9, 4, false, "", (3, 43)), (445, 9, 13, false, "", (3, 86)), (452, 10, 8, false, "", (3, 211)), (474, 1, 16, false, "", (0, 62)), (482, 7, 17, false, "", (1, 144)), (485, 7, 18, false, "", (1, 148))], [(14, 6, 0, false, "", (1, 189)), (20, 6, 5, false, "", (1, 195)), (24, 6, 6, false, "", (1, 197)), (30, 6, 8, false, "", (1, 200)), (34, 6, 9, false, "", (1, 201)), (37, 6, 10, false, "", (1, 202)), (40, 6, 11, false, "", (1, 203)), (43, 6, 12, false, "", (1, 204)), (46, 6, 13, false, "", (1, 206)), (49, 6, 4, false, "", (1, 193)), (53, 6, 7, false, "", (1, 198)), (56, 6, 14, false, "", (1, 208)), (59, 6, 1, false, "", (1, 190)), (62, 7, 0, false, "", (1, 55)), (72, 7, 1, false, "", (1, 62)), (81, 1, 16, false, "", (0, 59)), (82, 1, 17, false, "", (0, 63)), (86, 6, 2, false, "", (1, 191)), (91, 6, 3, false, "", (1, 192)), (94, 7, 7, false, "", (1, 93)), (97, 7, 4, false, "", (1, 80)), (100, 7, 2, false, "", (1, 69)), (113, 7, 9, false, "", (1, 104)), (116, 7, 8, false, "", (1, 99)), (119, 11, 2, false, "", (4, 79)), (122, 11, 4, false, "", (4, 90)), (125, 11, 5, false, "", (4, 95)), (128, 11, 7, false, "", (4, 107)), (131, 7, 15, false, "", (1, 136)), (134, 7, 14, false, "", (1, 131)), (138, 9, 3, false, "", (3, 34)), (145, 9, 5, false, "", (3, 45)), (152, 11, 3, false, "", (4, 84)), (162, 11, 15, false, "", (4, 140)), (166, 10, 1, false, "", (3, 178)), (169, 10, 10, false, "", (3, 219)), (172, 11, 17, false, "", (4, 146)), (175, 11, 0, false, "", (4, 70)), (178, 11, 1, false, "", (4, 74)), (188, 11, 6, false, "", (4, 100)), (191, 11, 8, false, "", (4, 112)), (194, 11, 9, false, "", (4, 116)), (209, 7, 5, false, "", (1, 87)), (242, 7, 11, false, "", (1, 115)), (245, 7, 10, false, "", (1, 110)), (253, 10, 2, false, "", (3, 184)), (258, 10, 4, false, "", (3, 193)), (261, 10, 3, false, "", (3, 188)), (262, 10, 9, false, "", (3, 214))], [(11, 7, 14, false, "", (1, 128)), (17, 7, 18, false, "", (1, 145)), (23, 7, 0, false, "", (1, 54)), (26, 7, 1, false, "", (1, 60)), (30, 7, 2, false, "", (1, 66)), (33, 7, 3, false, "", (1, 74)), (36, 7, 4, false, "", (1, 79)), (39, 7, 5, false, "", (1, 84)), (42, 7, 6, false, "", (1, 88)), (47, 7, 8, false, "", (1, 96)), (53, 7, 10, false, "", (1, 107)), (57, 7, 12, false, "", (1, 118)), (60, 7, 7, false, "", (1, 92)), (63, 7, 9, false, "", (1, 102)), (66, 7, 11, false, "", (1, 113)), (69, 7, 13, false, "", (1, 123)), (72, 7, 15, false, "", (1, 133)), (75, 7, 16, false, "", (1, 139)), (79, 7, 17, false, "", (1, 142)), (88, 9, 3, false, "", (3, 35)), (102, 9, 1, false, "", (3, 25)), (105, 9, 2, false, "", (3, 30)), (112, 9, 18, false, "", (3, 106)), (116, 9, 0, false, "", (3, 20)), (119, 9, 15, false, "", (3, 95)), (122, 9, 6, false, "", (3, 52)), (125, 9, 7, false, "", (3, 57)), (132, 11, 3, false, "", (4, 87)), (133, 11, 4, false, "", (4, 92)), (134, 11, 2, false, "", (4, 83)), (135, 9, 10, false, "", (3, 73)), (138, 9, 5, false, "", (3, 49)), (141, 9, 8, false, "", (3, 63)), (144, 9, 9, false, "", (3, 68)), (155, 11, 1, false, "", (4, 77)), (158, 11, 0, false, "", (4, 72)), (159, 11, 6, false, "", (4, 104)), (162, 11, 14, false, "", (4, 139))], [(11, 8, 0, false, "", (2, 9)), (19, 8, 1, false, "", (2, 10)), (22, 8, 3, false, "", (2, 12)), (26, 8, 4, false, "", (2, 14)), (33, 8, 2, false, "", (2, 11)), (36, 7, 0, false, "", (1, 56)), (41, 7, 1, false, "", (1, 63))], [], [], [(9, 9, 0, false, "", (3, 16)), (15, 9, 1, false, "", (3, 21)), (18, 9, 3, false, "", (3, 32)), (21, 9, 2, false, "", (3, 27)), (24, 9, 4, false, "", (3, 40)), (27, 9, 5, false, "", (3, 44)), (30, 9, 6, false, "", (3, 50)), (33, 9, 7, false, "", (3, 54)), (36, 9, 8, false, "", (3, 58)), (40, 9, 9, false, "", (3, 64)), (44, 9, 10, false, "", (3, 69)), (47, 9, 11, false, "", (3, 74)), (50, 9, 12, false, "", (3, 78)), (53, 9, 13, false, "", (3, 82)), (57, 9, 14, false, "", (3, 87)), (61, 9, 15, false, "", (3, 92)), (64, 9, 16, false, "", (3, 98)), (67, 9, 17, false, "", (3, 101)), (70, 9, 18, false, "", (3, 104))], [(7, 10, 0, false, "", (3, 174)), (13, 10, 6, false, "", (3, 198)), (17, 10, 1, false, "", (3, 176)), (20, 10, 4, false, "", (3, 191)), (24, 10, 5, false, "", (3, 196)), (27, 10, 7, false, "", (3, 202)), (30, 10, 8, false, "", (3, 207)), (33, 10, 9, false, "", (3, 212)), (36, 10, 10, false, "", (3, 218)), (40, 10, 11, false, "", (3, 224)), (43, 10, 12, false, "", (3, 228))], [(9, 11, 0, false, "", (4, 69)), (15, 11, 1, false, "", (4, 73)), (18, 11, 2, false, "", (4, 78)), (21, 11, 6, false, "", (4, 99)), (24, 11, 7, false, "", (4, 105)), (27, 11, 8, false, "", (4, 111)), (30, 11, 10, false, "", (4, 121)), (34, 11, 11, false, "", (4, 124)), (37, 11, 12, false, "", (4, 128)), (40, 11, 13, false, "", (4, 132)), (43, 11, 14, false, "", (4, 135)), (47, 11, 17, false, "", (4, 145))], [(15, 12, 3, false, "", (11, 135)), (19, 12, 4, false, "", (11, 136)), (22, 12, 2, false, "", (11, 134)), (26, 15, 1, true, "RefactorHouseModel", (9, 32)), (32, 15, 0, true, "RefactorHouseModel", (9, 30)), (57, 12, 31, false, "", (11, 163)), (60, 12, 30, false, "", (11, 162)), (67, 12, 32, false, "", (11, 164)), (70, 12, 33, false, "", (11, 165)), (73, 12, 37, false, "", (11, 169)), (80, 12, 6, false, "", (11, 138)), (84, 14, 13, true, "RefactorHouseModel", (9, 86)), (87, 14, 5, true, "RefactorHouseModel", (9, 70)), (90, 14, 6, true, "RefactorHouseModel", (9, 72)), (93, 14, 8, true, "RefactorHouseModel", (9, 76)), (96, 12, 38, false, "", (11, 170)), (103, 14, 2, true, "RefactorHouseModel", (9, 64)), (107, 15, 3, true, "RefactorHouseModel", (9, 38)), (110, 14, 9, true, "RefactorHouseModel", (9, 78)), (117, 14, 31, true, "RefactorHouseModel", (9, 122)), (120, 14, 17, true, "RefactorHouseModel", (9, 94)), (121, 14, 21, true, "RefactorHouseModel", (9, 102)), (125, 14, 30, true, "RefactorHouseModel", (9, 120)), (128, 14, 7, true, "RefactorHouseModel", (9, 74)), (131, 14, 12, true, "RefactorHouseModel", (9, 84)), (137, 15, 4, true, "RefactorHouseModel", (9, 42)), (140, 14, 10, true, "RefactorHouseModel", (9, 80)), (143, 15, 2, true, "RefactorHouseModel", (9, 36)), (153, 12, 36, false, "", (11, 168)), (156, 14, 29, true, "RefactorHouseModel", (9, 118)), (159, 14, 28, true, "RefactorHouseModel", (9, 116)), (162, 14, 16, true, "RefactorHouseModel", (9, 91)), (165, 14, 22, true, "RefactorHouseModel", (9, 104)), (168, 14, 18, true, "RefactorHouseModel", (9, 96)), (175, 14, 4, true, "RefactorHouseModel", (9, 67)), (181, 12, 34, false, "", (11, 166)), (184, 14, 27, true, "RefactorHouseModel", (9, 113)), (187, 12, 35, false, "", (11, 167)), (193, 12, 7, false, "", (11, 139)), (196, 12, 29, false, "", (11, 161)), (199, 12, 8, false, "", (11, 140)), (202, 12, 5, false, "", (11, 137)), (205, 12, 9, false, "", (11, 141)), (211, 12, 49, false, "", (11, 181)), (214, 12, 10, false, "", (11, 142)), (217, 12, 11, false, "", (11, 143)), (220, 12, 12, false, "", (11, 144)), (223, 12, 16, false, "", (11, 148)), (226, 12, 18, false, "", (11, 150)), (229, 12, 17, false, "", (11, 149)), (232, 12, 23, false, "", (11, 155)), (235, 12, 25, false, "", (11, 157)), (238, 12, 26, false, "", (11, 158)), (241, 12, 27, false, "", (11, 159)), (244, 12, 28, false, "", (11, 160)), (247, 12, 40, false, "", (11, 172)), (250, 12, 42, false, "", (11, 174)), (253, 12, 19, false, "", (11, 151)), (259, 12, 41, false, "", (11, 173)), (279, 14, 26, true, "RefactorHouseModel", (9, 112)), (282, 14, 25, true, "RefactorHouseModel", (9, 110)), (285, 12, 39, false, "", (11, 171)), (288, 12, 43, false, "", (11, 175)), (291, 12, 44, false, "", (11, 176)), (294, 12, 45, false, "", (11, 177)), (297, 12, 46, false, "", (11, 178)), (300, 12, 47, false, "", (11, 179)), (303, 12, 48, false, "", (11, 180)), (315, 12, 24, false, "", (11, 156)), (318, 12, 20, false, "", (11, 152)), (321, 12, 21, false, "", (11, 153)), (324, 14, 20, true, "RefactorHouseModel", (9, 100)), (327, 14, 55, true, "RefactorHouseModel", (9, 160)), (330, 14, 54, true, "RefactorHouseModel", (9, 158)), (333, 12, 50, false, "", (11, 182)), (336, 12, 51, false, "", (11, 183)), (343, 12, 22, false, "", (11, 154)), (380, 12, 13, false, "", (11, 145)), (388, 12, 0, false, "", (11, 132)), (397, 12, 14, false, "", (11, 146)), (403, 12, 52, false, "", (11, 185)), (406, 12, 53, false, "", (11, 186)), (409, 12, 54, false, "", (11, 187)), (412, 12, 55, false, "", (11, 188)), (415, 12, 56, false, "", (11, 189)), (420, 12, 57, false, "", (11, 190)), (423, 12, 58, false, "", (11, 191)), (426, 12, 63, false, "", (11, 195)), (429, 12, 64, false, "", (11, 196)), (432, 12, 65, false, "", (11, 197)), (435, 12, 66, false, "", (11, 198)), (438, 12, 67, false, "", (11, 199)), (441, 12, 69, false, "", (11, 201)), (444, 12, 70, false, "", (11, 202)), (447, 12, 71, false, "", (11, 203)), (450, 12, 73, false, "", (11, 205)), (453, 12, 75, false, "", (11, 207)), (456, 12, 77, false, "", (11, 209)), (459, 12, 78, false, "", (11, 210)), (462, 12, 79, false, "", (11, 211)), (465, 12, 80, false, "", (11, 212)), (468, 12, 81, false, "", (11, 213)), (471, 12, 82, false, "", (11, 214)), (474, 12, 85, false, "", (11, 217)), (477, 12, 90, false, "", (11, 222)), (480, 12, 92, false, "", (11, 224)), (483, 12, 93, false, "", (11, 225)), (486, 12, 94, false, "", (11, 226)), (489, 12, 95, false, "", (11, 227)), (492, 12, 96, false, "", (11, 228)), (495, 12, 97, false, "", (11, 229)), (498, 12, 98, false, "", (11, 230)), (501, 12, 99, false, "", (11, 231)), (504, 12, 101, false, "", (11, 233)), (507, 12, 107, false, "", (11, 239)), (510, 12, 109, false, "", (12, 1)), (513, 12, 110, false, "", (12, 2)), (516, 12, 111, false, "", (12, 3)), (525, 14, 1, true, "RefactorHouseModel", (9, 62)), (526, 14, 0, true, "RefactorHouseModel", (9, 60)), (530, 12, 62, false, "", (11, 194)), (533, 12, 68, false, "", (11, 200)), (536, 12, 74, false, "", (11, 206)), (539, 12, 72, false, "", (11, 204)), (553, 12, 76, false, "", (11, 208)), (568, 14, 11, true, "RefactorHouseModel", (9, 82)), (631, 14, 3, true, "RefactorHouseModel", (9, 66)), (634, 15, 5, true, "RefactorHouseModel", (9, 45)), (640, 14, 34, true, "RefactorHouseModel", (9, 127)), (656, 14, 23, true, "RefactorHouseModel", (9, 106)), (659, 14, 24, true, "RefactorHouseModel", (9, 108)), (662, 12, 83, false, "", (11, 215)), (729, 14, 15, true, "RefactorHouseModel", (9, 90)), (748, 14, 14, true, "RefactorHouseModel", (9, 88)), (825, 14, 19, true, "RefactorHouseModel", (9, 98)), (842, 14, 36, true, "RefactorHouseModel", (9, 131)), (845, 14, 35, true, "RefactorHouseModel", (9, 129)), (848, 14, 41, true, "RefactorHouseModel", (9, 139)), (851, 14, 37, true, "RefactorHouseModel", (9, 133)), (854, 14, 38, true, "RefactorHouseModel", (9, 135)), (857, 14, 42, true, "RefactorHouseModel", (9, 141)), (860, 14, 43, true, "RefactorHouseModel", (9, 143)), (863, 14, 45, true, "RefactorHouseModel", (9, 147)), (873, 12, 87, false, "", (11, 219)), (879, 12, 88, false, "", (11, 220)), (882, 12, 89, false, "", (11, 221)), (891, 14, 46, true, "RefactorHouseModel", (9, 149)), (907, 14, 44, true, "RefactorHouseModel", (9, 145)), (922, 12, 84, false, "", (11, 216)), (931, 12, 91, false, "", (11, 223)), (937, 12, 100, false, "", (11, 232)), (940, 12, 1, false, "", (11, 133)), (946, 12, 86, false, "", (11, 218)), (955, 12, 59, false, "", (11, 192)), (958, 12, 60, false, "", (11, 193)), (964, 12, 102, false, "", (11, 234)), (967, 14, 33, true, "RefactorHouseModel", (9, 125)), (973, 12, 15, false, "", (11, 147)), (984, 12, 103, false, "", (11, 235)), (987, 12, 104, false, "", (11, 236)), (990, 12, 105, false, "", (11, 237)), (993, 12, 106, false, "", (11, 238)), (996, 12, 108, false, "", (12, 0))], [(3, 14, 58, false, "", (9, 163)), (17, 14, 0, false, "", (9, 59)), (20, 14, 1, false, "", (9, 61)), (27, 14, 2, false, "", (9, 63)), (31, 14, 3, false, "", (9, 65)), (34, 14, 5, false, "", (9, 69)), (37, 14, 6, false, "", (9, 71)), (40, 14, 7, false, "", (9, 73)), (43, 14, 8, false, "", (9, 75)), (46, 14, 9, false, "", (9, 77)), (49, 14, 10, false, "", (9, 79)), (52, 14, 11, false, "", (9, 81)), (55, 14, 12, false, "", (9, 83)), (58, 14, 13, false, "", (9, 85)), (61, 14, 14, false, "", (9, 87)), (64, 14, 15, false, "", (9, 89)), (67, 14, 17, false, "", (9, 93)), (70, 14, 18, false, "", (9, 95)), (73, 14, 19, false, "", (9, 97)), (76, 14, 20, false, "", (9, 99)), (79, 14, 21, false, "", (9, 101)), (83, 14, 22, false, "", (9, 103)), (86, 14, 23, false, "", (9, 105)), (89, 14, 24, false, "", (9, 107)), (92, 14, 25, false, "", (9, 109)), (95, 14, 26, false, "", (9, 111)), (98, 14, 28, false, "", (9, 115)), (101, 14, 29, false, "", (9, 117)), (104, 14, 30, false, "", (9, 119)), (107, 14, 31, false, "", (9, 121)), (110, 14, 32, false, "", (9, 123)), (113, 14, 44, false, "", (9, 144)), (116, 14, 47, false, "", (9, 150)), (119, 14, 52, false, "", (9, 155)), (122, 14, 53, false, "", (9, 156)), (125, 14, 54, false, "", (9, 157)), (128, 14, 55, false, "", (9, 159)), (131, 14, 56, false, "", (9, 161)), (134, 15, 4, true, "RefactorHouseModel", (9, 41)), (137, 15, 2, true, "RefactorHouseModel", (9, 35)), (140, 15, 0, true, "RefactorHouseModel", (9, 29)), (141, 14, 35, false, "", (9, 128)), (157, 14, 36, false, "", (9, 130)), (160, 14, 41, false, "", (9, 138)), (166, 15, 1, true, "RefactorHouseModel", (9, 33)), (189, 14, 37, false, "", (9, 132)), (192, 14, 4, false, "", (9, 68)), (195, 14, 38, false, "", (9, 134)), (201, 14, 16, false, "", (9, 92)), (204, 15, 5, true, "RefactorHouseModel", (9, 44)), (207, 14, 39, false, "", (9, 136)), (210, 14, 40, false, "", (9, 137)), (285, 14, 45, false, "", (9, 146)), (288, 14, 46, false, "", (9, 148)), (291, 14, 43, false, "", (9, 142)), (294, 14, 42, false, "", (9, 140)), (300, 12, 52, true, "RefactorHouseModel", (11, 184)), (308, 15, 3, true, "RefactorHouseModel", (9, 39)), (313, 14, 27, false, "", (9, 114)), (320, 14, 33, false, "", (9, 124)), (323, 14, 34, false, "", (9, 126)), (373, 14, 48, false, "", (9, 151)), (376, 14, 49, false, "", (9, 152)), (379, 14, 50, false, "", (9, 153)), (382, 14, 51, false, "", (9, 154)), (441, 14, 57, false, "", (9, 162))], [(9, 15, 0, false, "", (9, 28)), (15, 15, 1, false, "", (9, 31)), (18, 15, 2, false, "", (9, 34)), (21, 15, 3, false, "", (9, 37)), (24, 15, 4, false, "", (9, 40)), (45, 15, 5, false, "", (9, 43))]]
def mt_N : List (List (Nat × Nat × (Nat × Nat))) := [[(7, 0, (0, 27)), (10, 12, (8, 183))], [(13, 1, (0, 35)), (20, 2, (0, 104)), (27, 3, (0, 122)), (34, 4, (0, 191)), (41, 5, (0, 235)), (50, 6, (1, 36)), (57, 8, (2, 1)), (64, 7, (2, 27))], [(15, 11, (0, 41)), (190, 9, (3, 10)), (256, 10, (3, 168))], [], [], [], [], [(9, 7, (1, 42))], [], [], [], [], [], [], [], [(40, 14, (9, 15)), (273, 13, (8, 189))], [(24, 15, (9, 22))]]
def mt_A : List (List (Nat × Nat × (Nat × Nat) × (Nat × Nat))) := [[], [], [(15, 3, (0, 41), (0, 42))], [(9, 4, (0, 110), (0, 111))], [], [], [], [(28, 3, (1, 188), (0, 42))], [(9, 4, (1, 48), (0, 111)), (45, 3, (1, 51), (0, 42)), (51, 7, (1, 52), (1, 53))], [(9, 6, (2, 7), (1, 50))]]
def mt_C : List (List (Nat × Nat × Nat × Nat × String × (Nat × Nat))) := [[(9, 4, 1, 0, "", (0, 29)), (12, 4, 279, 0, "", (8, 185)), (13, 2, 10, 5, "", (2, 90)), (17, 2, 364, 5, "", (12, 229)), (18, 2, 12, 1, "", (2, 98)), (22, 2, 366, 1, "", (12, 237)), (23, 2, 13, 1, "", (2, 102)), (26, 2, 367, 1, "", (13, 1)), (27, 2, 69, 0, "", (4, 230)), (31, 2, 372, 0, "", (13, 22)), (32, 2, 70, 1, "", (4, 234)), (35, 2, 373, 1, "", (13, 26)), (36, 2, 71, 2, "", (4, 238)), (40, 2, 374, 2, "", (13, 30)), (41, 2, 72, 2, "", (5, 2)), (44, 2, 375, 2, "", (13, 34)), (45, 2, 75, 0, "", (5, 13)), (48, 2, 377, 0, "", (13, 42)), (49, 2, 121, 2, "", (5, 195)), (52, 2, 378, 2, "", (13, 46)), (53, 2, 123, 2, "", (5, 204)), (56, 2, 380, 2, "", (13, 56)), (57, 2, 125, 1, "", (5, 212)), (60, 2, 383, 1, "", (13, 68)), (61, 2, 127, 2, "", (5, 220)), (64, 2, 384, 2, "", (13, 72)), (65, 2, 129, 1, "", (5, 228)), (68, 2, 385, 1, "", (13, 76)), (69, 2, 133, 2, "", (6, 5)), (72, 2, 389, 2, "", (13, 93)), (73, 2, 135, 1, "", (6, 13)), (76, 2, 390, 1, "", (13, 97)), (77, 2, 137, 1, "", (6, 21)), (80, 2, 393, 1, "", (13, 109)), (81, 2, 138, 0, "", (6, 25)), (84, 2, 394, 0, "", (13, 113)), (85, 2, 139, 1, "", (6, 29)), (88, 2, 395, 1, "", (13, 117)), (89, 2, 174, 1, "", (6, 171)), (92, 2, 425, 1, "", (14, 0)), (93, 2, 175, 1, "", (6, 175)), (96, 2, 426, 1, "", (14, 4)), (97, 2, 176, 2, "", (6, 179)), (100, 2, 427, 2, "", (14, 8)), (101, 2, 178, 3, "", (6, 188)), (105, 2, 428, 3, "", (14, 13)), (106, 2, 247, 0, "", (8, 42)), (109, 2, 484, 0, "", (15, 25)), (110, 2, 248, 2, "", (8, 46)), (113, 2, 485, 2, "", (15, 29)), (114, 2, 250, 0, "", (8, 54)), (117, 2, 486, 0, "", (15, 33)), (118, 2, 253, 0, "", (8, 67)), (121, 2, 487, 0, "", (15, 37)), (122, 2, 256, 0, "", (8, 79)), (125, 2, 488, 0, "", (15, 41)), (126, 2, 257, 0, "", (8, 83)), (129, 2, 489, 0, "", (15, 45)), (130, 2, 269, 2, "", (8, 136)), (133, 2, 498, 2, "", (15, 90)), (134, 2, 271, 0, "", (8, 144)), (137, 2, 499, 0, "", (15, 94)), (138, 2, 274, 1, "", (8, 164)), (141, 2, 501, 1, "", (15, 102)), (142, 2, 278, 2, "", (8, 179)), (145, 2, 504, 2, "", (15, 114))], [(3, 9, 0, 0, "", (0, 32)), (15, 5, 2, 0, "RefactorHouse", (0, 37)), (22, 5, 3, 0, "RefactorHouse", (0, 106)), (29, 5, 4, 0, "RefactorHouse", (0, 124)), (36, 5, 5, 0, "RefactorHouse", (0, 193)), (43, 4, 6, 1, "", (0, 237)), (52, 5, 7, 0, "RefactorHouse", (1, 38)), (59, 5, 9, 0, "RefactorHouse", (2, 3)), (66, 4, 8, 3, "", (2, 28)), (99, 2, 11, 1, "", (2, 94)), (103, 2, 14, 1, "", (2, 106)), (111, 7, 0, 5, "", (2, 113)), (120, 2, 15, 1, "", (2, 114)), (124, 2, 16, 3, "", (2, 118)), (131, 2, 65, 0, "", (4, 214)), (134, 2, 67, 0, "", (4, 222)), (141, 2, 68, 1, "", (4, 226)), (147, 2, 66, 0, "", (4, 218)), (148, 2, 73, 1, "", (5, 6)), (157, 0, 74, 1, "", (5, 10)), (160, 2, 76, 0, "", (5, 17)), (172, 2, 77, 1, "", (5, 21)), (175, 2, 122, 1, "", (5, 199)), (190, 2, 124, 2, "", (5, 208)), (199, 2, 126, 1, "", (5, 216)), (202, 2, 128, 2, "", (5, 224)), (206, 2, 130, 1, "", (5, 232)), (209, 2, 131, 1, "", (5, 237)), (213, 2, 134, 2, "", (6, 9)), (217, 2, 136, 1, "", (6, 17)), (223, 2, 140, 0, "", (6, 33)), (226, 2, 142, 3, "", (6, 42)), (239, 2, 141, 2, "", (6, 37)), (244, 2, 177, 0, "", (6, 184)), (247, 2, 179, 3, "", (6, 192)), (251, 2, 181, 3, "", (6, 201)), (255, 2, 238, 3, "", (8, 2)), (271, 2, 249, 2, "", (8, 50)), (275, 2, 239, 1, "", (8, 58)), (278, 2, 251, 2, "", (8, 59)), (282, 2, 254, 1, "", (8, 71)), (288, 2, 255, 1, "", (8, 75)), (291, 2, 258, 4, "", (8, 87)), (296, 2, 262, 0, "", (8, 107)), (300, 2, 270, 1, "", (8, 140)), (316, 2, 272, 1, "", (8, 148)), (319, 2, 275, 2, "", (8, 168)), (334, 11, 0, 1, "", (2, 161))], [(3, 9, 0, 0, "", (0, 40)), (28, 2, 18, 0, "", (2, 126)), (33, 0, 19, 2, "", (2, 130)), (43, 2, 17, 1, "", (2, 122)), (60, 2, 20, 2, "", (2, 133)), (65, 2, 34, 0, "", (2, 226)), (69, 2, 35, 1, "", (2, 230)), (73, 2, 36, 1, "", (2, 234)), (76, 2, 52, 1, "", (4, 44)), (107, 2, 21, 1, "", (2, 137)), (115, 0, 22, 2, "", (2, 141)), (124, 0, 23, 3, "", (2, 144)), (128, 2, 24, 3, "", (2, 147)), (148, 2, 31, 1, "", (2, 212)), (155, 1, 25, 1, "RefactorHouse", (2, 151)), (159, 1, 26, 1, "RefactorHouse", (2, 154)), (162, 1, 27, 3, "RefactorHouse", (2, 157)), (165, 1, 28, 1, "RefactorHouse", (2, 201)), (168, 2, 29, 2, "", (2, 204)), (171, 2, 30, 1, "", (2, 208)), (174, 2, 32, 1, "", (2, 216)), (177, 2, 33, 3, "", (2, 220)), (181, 2, 37, 1, "", (2, 238)), (192, 5, 40, 0, "RefactorHouse", (3, 12)), (193, 2, 41, 3, "", (3, 148)), (197, 2, 38, 1, "", (3, 2)), (203, 2, 39, 2, "", (3, 6)), (216, 2, 42, 2, "", (3, 152)), (232, 2, 43, 0, "", (3, 156)), (242, 2, 44, 1, "", (3, 160)), (246, 2, 45, 1, "", (3, 164)), (251, 2, 48, 2, "", (4, 28)), (270, 5, 46, 0, "RefactorHouse", (3, 170)), (271, 2, 47, 2, "", (4, 24)), (276, 2, 51, 2, "", (4, 40)), (283, 2, 64, 1, "", (4, 210)), (296, 2, 49, 1, "", (4, 32)), (299, 2, 50, 2, "", (4, 36)), (313, 2, 53, 1, "", (4, 48)), (316, 0, 61, 1, "", (4, 199)), (319, 2, 62, 3, "", (4, 202)), (323, 2, 63, 1, "", (4, 206)), (327, 2, 56, 4, "", (4, 60)), (349, 5, 57, 0, "RefactorHouse", (4, 65)), (350, 2, 58, 2, "", (4, 187)), (360, 2, 54, 1, "", (4, 52)), (363, 2, 55, 1, "", (4, 56)), (366, 2, 60, 4, "", (4, 195)), (370, 2, 59, 1, "", (4, 191))], [(3, 9, 0, 0, "", (0, 109)), (38, 2, 78, 0, "", (5, 25)), (41, 2, 82, 0, "", (5, 41)), (44, 2, 84, 0, "", (5, 50)), (60, 2, 89, 1, "", (5, 70)), (67, 2, 110, 0, "", (5, 154)), (70, 2, 116, 0, "", (5, 176)), (73, 2, 117, 0, "", (5, 180)), (79, 2, 80, 2, "", (5, 33)), (101, 2, 79, 1, "", (5, 29)), (108, 2, 81, 1, "", (5, 37)), (125, 2, 83, 1, "", (5, 45)), (129, 2, 63, 1, "", (5, 49)), (132, 2, 85, 0, "", (5, 54)), (136, 2, 86, 1, "", (5, 58)), (140, 2, 88, 1, "", (5, 66)), (149, 2, 87, 2, "", (5, 62)), (161, 2, 90, 2, "", (5, 74)), (165, 2, 91, 1, "", (5, 78)), (168, 2, 97, 1, "", (5, 100)), (171, 2, 100, 1, "", (5, 112)), (183, 2, 107, 2, "", (5, 142)), (187, 2, 108, 1, "", (5, 146)), (196, 2, 109, 2, "", (5, 150)), (200, 2, 103, 2, "", (5, 124)), (204, 2, 92, 2, "", (5, 82)), (208, 2, 94, 3, "", (5, 89)), (212, 2, 96, 2, "", (5, 96)), (219, 0, 93, 2, "", (5, 86)), (238, 0, 95, 2, "", (5, 93)), (241, 2, 99, 1, "", (5, 108)), (244, 2, 98, 1, "", (5, 104)), (253, 2, 101, 2, "", (5, 116)), (257, 2, 104, 1, "", (5, 128)), (266, 2, 102, 2, "", (5, 120)), (269, 2, 105, 2, "", (5, 132)), (272, 2, 106, 2, "", (5, 138)), (282, 0, 111, 1, "", (5, 158)), (295, 2, 112, 2, "", (5, 161)), (301, 2, 114, 2, "", (5, 168)), (305, 0, 113, 1, "", (5, 165)), (310, 2, 115, 1, "", (5, 172)), (323, 0, 19, 2, "", (5, 184)), (332, 0, 118, 1, "", (5, 185)), (336, 2, 119, 1, "", (5, 188)), (346, 0, 120, 1, "", (5, 192))], [(5, 9, 0, 0, "", (0, 127)), (55, 0, 22, 2, "", (6, 46)), (65, 0, 19, 2, "", (6, 47)), (87, 2, 143, 0, "", (6, 48)), (90, 2, 147, 1, "", (6, 64)), (101, 2, 154, 2, "", (6, 93)), (105, 2, 166, 1, "", (6, 138)), (112, 2, 167, 2, "", (6, 142)), (135, 2, 144, 2, "", (6, 52)), (145, 0, 145, 1, "", (6, 56)), (149, 2, 146, 1, "", (6, 59)), (163, 7, 0, 5, "", (6, 63)), (189, 2, 151, 1, "", (6, 80)), (198, 2, 155, 1, "", (6, 97)), (207, 2, 153, 1, "", (6, 88)), (216, 2, 157, 2, "", (6, 105)), (220, 2, 158, 1, "", (6, 109)), (224, 2, 159, 2, "", (6, 113)), (227, 2, 162, 1, "", (6, 124)), (230, 2, 156, 0, "", (6, 101)), (234, 2, 165, 1, "", (6, 134)), (246, 0, 160, 2, "", (6, 117)), (249, 2, 150, 0, "", (6, 76)), (253, 2, 161, 0, "", (6, 120)), (256, 2, 152, 4, "", (6, 84)), (268, 0, 163, 4, "", (6, 128)), (274, 2, 148, 0, "", (6, 68)), (277, 0, 149, 2, "", (6, 72)), (290, 2, 32, 1, "", (6, 75)), (303, 2, 168, 2, "", (6, 146)), (310, 2, 169, 2, "", (6, 150)), (313, 2, 170, 1, "", (6, 154)), (316, 2, 171, 2, "", (6, 158)), (319, 2, 172, 2, "", (6, 162)), (328, 2, 173, 2, "", (6, 167))], [(3, 9, 0, 0, "", (0, 196)), (48, 0, 19, 2, "", (6, 200)), (54, 0, 22, 2, "", (7, 13)), (65, 2, 190, 1, "", (7, 5)), (69, 2, 191, 2, "", (7, 9)), (73, 1, 26, 1, "RefactorHouse", (7, 22)), (77, 2, 32, 1, "", (7, 23)), (80, 10, 0, 0, "", (7, 75)), (85, 11, 0, 1, "", (7, 83)), (89, 2, 193, 2, "", (7, 18)), (92, 2, 205, 2, "", (7, 66)), (97, 2, 206, 1, "", (7, 71)), (104, 2, 99, 1, "", (7, 94)), (120, 2, 240, 4, "", (8, 10)), (124, 2, 241, 4, "", (8, 14))], [(3, 9, 0, 0, "", (1, 0)), (52, 2, 180, 1, "", (6, 196)), (58, 2, 182, 3, "", (6, 205)), (62, 2, 185, 1, "", (6, 221)), (66, 2, 187, 0, "", (6, 233)), (70, 2, 195, 0, "", (7, 28)), (73, 2, 207, 0, "", (7, 85)), (76, 2, 211, 0, "", (7, 109)), (79, 2, 219, 0, "", (7, 151)), (82, 2, 222, 0, "", (7, 166)), (93, 2, 224, 1, "", (7, 177)), (97, 2, 225, 0, "", (7, 181)), (100, 2, 227, 0, "", (7, 190)), (103, 2, 232, 0, "", (7, 211)), (106, 2, 234, 0, "", (7, 222)), (109, 2, 235, 0, "", (7, 227)), (112, 2, 237, 0, "", (7, 238)), (115, 2, 122, 1, "", (6, 209)), (121, 2, 130, 1, "", (6, 210)), (127, 2, 124, 2, "", (6, 211)), (131, 2, 183, 2, "", (6, 212)), (139, 2, 184, 1, "", (6, 216)), (146, 2, 186, 0, "", (6, 225)), (150, 1, 28, 1, "RefactorHouse", (6, 232)), (153, 1, 25, 1, "RefactorHouse", (6, 229)), (156, 1, 26, 1, "RefactorHouse", (6, 230)), (159, 1, 27, 3, "RefactorHouse", (6, 231)), (163, 2, 73, 1, "", (6, 220)), (206, 2, 188, 2, "", (6, 237)), (213, 2, 198, 1, "", (7, 39)), (220, 2, 189, 2, "", (7, 1)), (224, 2, 194, 0, "", (7, 24)), (227, 2, 192, 3, "", (7, 14)), (242, 0, 196, 2, "", (7, 32)), (249, 2, 197, 2, "", (7, 35)), (253, 0, 199, 1, "", (7, 43)), (260, 2, 200, 1, "", (7, 46)), (264, 0, 202, 3, "", (7, 54)), (268, 2, 203, 2, "", (7, 57)), (272, 2, 132, 2, "", (7, 61)), (277, 2, 204, 2, "", (7, 62)), (280, 2, 201, 3, "", (7, 50)), (291, 2, 191, 2, "", (7, 89)), (294, 2, 208, 1, "", (7, 90)), (300, 2, 206, 1, "", (7, 98)), (304, 2, 209, 0, "", (7, 99)), (309, 2, 210, 2, "", (7, 104)), (315, 2, 212, 1, "", (7, 113)), (327, 2, 213, 1, "", (7, 117)), (333, 0, 214, 2, "", (7, 121)), (336, 2, 215, 3, "", (7, 125)), (340, 2, 216, 1, "", (7, 129)), (344, 2, 81, 1, "", (7, 124)), (347, 2, 217, 3, "", (7, 133)), (353, 2, 218, 2, "", (7, 138)), (359, 2, 190, 1, "", (7, 144)), (380, 2, 136, 1, "", (7, 155)), (383, 2, 220, 0, "", (7, 156)), (390, 2, 221, 1, "", (7, 160)), (396, 2, 205, 2, "", (7, 164)), (403, 2, 223, 1, "", (7, 172)), (408, 2, 226, 2, "", (7, 185)), (412, 2, 228, 1, "", (7, 194)), (418, 2, 229, 1, "", (7, 198)), (421, 2, 231, 1, "", (7, 207)), (424, 2, 230, 2, "", (7, 202)), (427, 2, 102, 2, "", (7, 206)), (434, 2, 233, 1, "", (7, 215)), (437, 2, 63, 1, "", (7, 219)), (442, 2, 85, 0, "", (7, 220)), (446, 0, 149, 2, "", (7, 226)), (457, 2, 236, 2, "", (7, 232)), (465, 2, 239, 1, "", (8, 6)), (468, 2, 16, 3, "", (8, 18)), (477, 2, 77, 1, "", (8, 19)), (488, 2, 242, 1, "", (8, 20)), (492, 2, 245, 1, "", (8, 33)), (495, 2, 244, 2, "", (8, 28)), (499, 2, 243, 2, "", (8, 24)), (503, 0, 22, 2, "", (8, 32)), (508, 2, 246, 2, "", (8, 37)), (512, 2, 105, 2, "", (8, 41))], [(3, 9, 0, 0, "", (1, 41)), (11, 4, 8, 3, "", (1, 44)), (66, 7, 0, 5, "", (8, 91)), (75, 2, 259, 1, "", (8, 92)), (87, 2, 260, 0, "", (8, 96)), (103, 2, 32, 1, "", (8, 100)), (107, 2, 63, 1, "", (8, 101)), (110, 2, 261, 1, "", (8, 102)), (141, 2, 33, 3, "", (8, 106)), (146, 0, 19, 2, "", (8, 111)), (155, 0, 263, 1, "", (8, 112)), (159, 2, 264, 1, "", (8, 115)), (181, 2, 265, 2, "", (8, 119)), (185, 2, 268, 2, "", (8, 132)), (197, 2, 103, 2, "", (8, 123)), (201, 0, 266, 1, "", (8, 124)), (205, 2, 267, 2, "", (8, 128)), (212, 2, 189, 2, "", (8, 152)), (220, 2, 206, 1, "", (8, 154)), (226, 2, 273, 2, "", (8, 156)), (232, 2, 194, 0, "", (8, 163)), (235, 2, 217, 3, "", (8, 160)), (239, 2, 204, 2, "", (8, 161)), (249, 0, 276, 2, "", (8, 172)), (254, 2, 277, 3, "", (8, 175))], [(3, 9, 0, 0, "", (1, 47)), (82, 7, 0, 5, "", (2, 110)), (91, 2, 32, 1, "", (2, 224)), (95, 2, 73, 1, "", (5, 203)), (98, 2, 122, 1, "", (5, 236)), (108, 2, 132, 2, "", (6, 1)), (128, 2, 215, 3, "", (7, 189)), (147, 2, 81, 1, "", (5, 136)), (151, 2, 87, 2, "", (5, 137))], [(3, 9, 0, 0, "", (2, 6)), (29, 2, 252, 2, "", (8, 63)), (45, 7, 0, 5, "", (6, 41))], [(13, 0, 164, 3, "", (6, 131))], [], [(3, 9, 0, 0, "", (3, 15))], [(1, 9, 0, 0, "", (3, 173))], [(3, 9, 0, 0, "", (4, 68))], [(5, 10, 0, 0, "", (10, 83)), (11, 11, 0, 1, "", (10, 84)), (35, 0, 324, 2, "", (10, 211)), (39, 3, 325, 2, "RefactorHouseModel", (10, 214)), (45, 0, 160, 2, "", (13, 141)), (51, 7, 0, 5, "", (11, 131)), (63, 0, 400, 2, "", (13, 138)), (76, 2, 402, 1, "", (13, 146)), (99, 2, 399, 3, "", (13, 134)), (113, 3, 327, 2, "RefactorHouseModel", (13, 150)), (134, 2, 401, 1, "", (13, 142)), (146, 2, 403, 1, "", (13, 151)), (149, 2, 404, 2, "", (13, 155)), (171, 3, 294, 1, "RefactorHouseModel", (13, 55)), (178, 0, 22, 2, "", (13, 133)), (190, 2, 405, 1, "", (13, 159)), (208, 2, 412, 1, "", (13, 187)), (255, 2, 398, 0, "", (13, 129)), (262, 2, 406, 0, "", (13, 163)), (265, 2, 423, 1, "", (13, 232)), (269, 2, 418, 4, "", (13, 211)), (275, 2, 424, 2, "", (13, 236)), (306, 2, 414, 0, "", (13, 195)), (309, 2, 415, 0, "", (13, 199)), (312, 3, 419, 1, "RefactorHouseModel", (13, 215)), (339, 3, 352, 2, "RefactorHouseModel", (13, 223)), (346, 2, 420, 2, "", (13, 219)), (349, 2, 407, 3, "", (13, 167)), (353, 2, 421, 2, "", (13, 224)), (356, 2, 408, 1, "", (13, 171)), (359, 2, 409, 1, "", (13, 175)), (362, 2, 410, 2, "", (13, 179)), (365, 2, 411, 0, "", (13, 183)), (368, 2, 413, 1, "", (13, 191)), (371, 2, 416, 3, "", (13, 203)), (374, 2, 417, 2, "", (13, 207)), (377, 2, 422, 0, "", (13, 228)), (383, 9, 0, 0, "", (8, 188)), (393, 8, 0, 1, "", (8, 229)), (400, 5, 280, 1, "RefactorHouseModel", (9, 17)), (519, 3, 282, 0, "RefactorHouseModel", (10, 46)), (522, 2, 363, 1, "", (11, 127)), (543, 0, 438, 2, "", (14, 56)), (547, 2, 439, 3, "", (14, 59)), (550, 2, 436, 1, "", (14, 48)), (556, 2, 462, 1, "", (14, 155)), (565, 2, 457, 1, "", (14, 134)), (573, 2, 458, 2, "", (14, 138)), (578, 2, 437, 2, "", (14, 52)), (581, 2, 444, 1, "", (14, 79)), (585, 2, 442, 0, "", (14, 71)), (588, 2, 443, 2, "", (14, 75)), (591, 0, 434, 1, "", (14, 38)), (595, 2, 445, 1, "", (14, 83)), (598, 0, 289, 1, "", (14, 37)), (601, 0, 290, 1, "", (14, 41)), (604, 2, 447, 3, "", (14, 91)), (607, 2, 448, 2, "", (14, 95)), (610, 3, 379, 1, "RefactorHouseModel", (13, 50)), (613, 2, 441, 0, "", (14, 67)), (616, 2, 446, 0, "", (14, 87)), (619, 3, 283, 0, "RefactorHouseModel", (13, 12)), (622, 2, 432, 2, "", (14, 29)), (625, 3, 285, 2, "RefactorHouseModel", (13, 13)), (628, 3, 284, 0, "RefactorHouseModel", (14, 99)), (637, 3, 331, 0, "RefactorHouseModel", (14, 100)), (643, 2, 449, 1, "", (14, 101)), (646, 0, 291, 3, "", (14, 42)), (650, 2, 467, 1, "", (14, 181)), (653, 2, 453, 1, "", (14, 117)), (665, 2, 371, 0, "", (13, 18)), (668, 2, 430, 0, "", (14, 21)), (671, 2, 431, 1, "", (14, 25)), (674, 2, 450, 1, "", (14, 105)), (677, 2, 459, 2, "", (14, 143)), (680, 2, 464, 2, "", (14, 169)), (683, 2, 469, 1, "", (14, 197)), (686, 2, 474, 1, "", (14, 218)), (689, 2, 476, 2, "", (14, 229)), (692, 2, 478, 1, "", (14, 237)), (695, 2, 479, 1, "", (15, 1)), (698, 2, 481, 1, "", (15, 10)), (701, 2, 482, 1, "", (15, 14)), (704, 2, 433, 0, "", (14, 33)), (708, 2, 388, 1, "", (13, 89)), (711, 3, 392, 2, "RefactorHouseModel", (14, 43)), (714, 2, 435, 2, "", (14, 44)), (717, 2, 440, 0, "", (14, 63)), (720, 3, 387, 1, "RefactorHouseModel", (13, 84)), (723, 2, 451, 1, "", (14, 109)), (726, 2, 452, 0, "", (14, 113)), (732, 2, 454, 3, "", (14, 121)), (736, 2, 455, 2, "", (14, 125)), (739, 2, 456, 1, "", (14, 129)), (742, 3, 376, 1, "RefactorHouseModel", (13, 38)), (745, 3, 381, 2, "RefactorHouseModel", (13, 60)), (751, 2, 460, 1, "", (14, 147)), (754, 2, 461, 1, "", (14, 151)), (759, 2, 463, 0, "", (14, 163)), (766, 2, 465, 2, "", (14, 173)), (769, 2, 466, 4, "", (14, 177)), (773, 3, 335, 2, "RefactorHouseModel", (14, 185)), (778, 2, 468, 4, "", (14, 187)), (794, 3, 391, 1, "RefactorHouseModel", (13, 101)), (797, 2, 470, 2, "", (14, 201)), (801, 2, 471, 1, "", (14, 205)), (804, 2, 472, 1, "", (14, 209)), (807, 2, 473, 3, "", (14, 213)), (810, 3, 339, 1, "RefactorHouseModel", (14, 217)), (813, 2, 475, 1, "", (14, 222)), (822, 2, 477, 0, "", (14, 233)), (830, 2, 480, 2, "", (15, 6)), (835, 2, 483, 2, "", (15, 19)), (866, 3, 286, 5, "RefactorHouseModel", (15, 53)), (870, 3, 314, 0, "RefactorHouseModel", (15, 54)), (876, 3, 305, 1, "RefactorHouseModel", (15, 55)), (885, 3, 293, 0, "RefactorHouseModel", (15, 56)), (888, 3, 297, 0, "RefactorHouseModel", (15, 57)), (894, 2, 295, 2, "", (15, 58)), (897, 2, 495, 2, "", (15, 76)), (900, 3, 326, 3, "RefactorHouseModel", (15, 85)), (904, 3, 382, 1, "RefactorHouseModel", (15, 63)), (910, 3, 350, 2, "RefactorHouseModel", (15, 80)), (913, 2, 496, 2, "", (15, 81)), (916, 2, 497, 2, "", (15, 86)), (919, 2, 494, 2, "", (15, 72)), (925, 2, 492, 1, "", (15, 64)), (928, 2, 493, 1, "", (15, 68)), (934, 2, 503, 3, "", (15, 110)), (943, 2, 365, 1, "", (12, 233)), (949, 0, 368, 2, "", (13, 5)), (952, 2, 369, 1, "", (13, 8)), (961, 2, 370, 0, "", (13, 14)), (970, 2, 386, 1, "", (13, 80)), (976, 2, 396, 2, "", (13, 121)), (980, 2, 397, 3, "", (13, 125)), (1000, 2, 429, 3, "", (14, 17)), (1003, 2, 490, 0, "", (15, 49)), (1006, 2, 491, 0, "", (15, 59)), (1009, 2, 500, 0, "", (15, 98)), (1012, 2, 502, 1, "", (15, 106))], [(9, 9, 0, 0, "", (9, 20)), (26, 5, 281, 0, "RefactorHouseModel", (9, 24)), (145, 2, 294, 1, "", (10, 92)), (149, 3, 295, 2, "RefactorHouseModel", (10, 96)), (153, 2, 293, 0, "", (10, 88)), (163, 2, 300, 0, "", (10, 116)), (169, 2, 307, 1, "", (10, 144)), (173, 2, 299, 0, "", (10, 112)), (176, 2, 296, 1, "", (10, 100)), (179, 2, 306, 1, "", (10, 140)), (182, 2, 297, 0, "", (10, 104)), (185, 2, 301, 1, "", (10, 120)), (198, 2, 318, 2, "", (10, 188)), (214, 3, 286, 5, "RefactorHouseModel", (10, 62)), (218, 2, 298, 1, "", (10, 108)), (222, 2, 302, 6, "", (10, 124)), (226, 2, 303, 1, "", (10, 128)), (229, 2, 304, 0, "", (10, 132)), (232, 2, 305, 1, "", (10, 136)), (235, 2, 308, 2, "", (10, 148)), (238, 2, 309, 0, "", (10, 152)), (242, 2, 310, 0, "", (10, 156)), (245, 2, 314, 0, "", (10, 172)), (248, 2, 311, 0, "", (10, 160)), (251, 2, 312, 0, "", (10, 164)), (254, 2, 317, 6, "", (10, 184)), (258, 2, 313, 0, "", (10, 168)), (261, 2, 329, 0, "", (10, 230)), (264, 2, 330, 0, "", (10, 234)), (267, 2, 315, 1, "", (10, 176)), (270, 2, 316, 0, "", (10, 180)), (273, 2, 328, 1, "", (10, 226)), (276, 2, 319, 0, "", (10, 192)), (279, 2, 320, 0, "", (10, 196)), (282, 2, 321, 1, "", (10, 200)), (297, 2, 322, 2, "", (10, 204)), (304, 1, 323, 4, "RefactorHouseModel", (10, 208)), (309, 2, 327, 2, "", (10, 222)), (316, 2, 326, 3, "", (10, 218)), (326, 2, 335, 2, "", (11, 15)), (330, 2, 339, 1, "", (11, 31)), (333, 2, 338, 2, "", (11, 27)), (336, 2, 332, 2, "", (11, 2)), (339, 2, 333, 0, "", (11, 6)), (342, 2, 336, 0, "", (11, 19)), (345, 2, 340, 0, "", (11, 35)), (348, 2, 361, 0, "", (11, 119)), (351, 2, 325, 2, "", (11, 10)), (355, 2, 334, 2, "", (11, 11)), (358, 2, 337, 1, "", (11, 23)), (361, 2, 341, 1, "", (11, 39)), (364, 2, 342, 2, "", (11, 43)), (367, 2, 358, 1, "", (11, 107)), (370, 2, 359, 1, "", (11, 111)), (385, 2, 346, 1, "", (11, 59)), (388, 2, 343, 1, "", (11, 47)), (391, 2, 350, 2, "", (11, 75)), (394, 2, 360, 1, "", (11, 115)), (397, 2, 344, 1, "", (11, 51)), (400, 2, 345, 1, "", (11, 55)), (403, 2, 348, 4, "", (11, 67)), (407, 2, 354, 1, "", (11, 91)), (410, 2, 356, 2, "", (11, 99)), (413, 2, 357, 1, "", (11, 103)), (416, 2, 347, 3, "", (11, 63)), (420, 2, 355, 1, "", (11, 95)), (423, 2, 349, 2, "", (11, 71)), (426, 2, 351, 1, "", (11, 79)), (429, 2, 352, 2, "", (11, 83)), (432, 2, 353, 2, "", (11, 87)), (435, 2, 362, 0, "", (11, 123)), (438, 2, 392, 2, "", (13, 105)), (444, 2, 283, 0, "", (10, 50)), (447, 2, 284, 0, "", (10, 54)), (450, 2, 285, 2, "", (10, 58)), (453, 2, 331, 0, "", (10, 238)), (456, 2, 376, 1, "", (13, 54)), (459, 2, 379, 1, "", (13, 88)), (462, 2, 382, 1, "", (13, 64))], [(3, 9, 0, 0, "", (9, 27)), (27, 0, 287, 3, "", (10, 66)), (31, 1, 289, 1, "RefactorHouseModel", (10, 73)), (35, 1, 290, 1, "RefactorHouseModel", (10, 76)), (38, 1, 291, 3, "RefactorHouseModel", (10, 79)), (41, 0, 292, 2, "", (10, 85)), (49, 2, 288, 5, "", (10, 69))]]
def mt_K : List (List (Nat × Int × (Nat × Nat))) := [[], [(243, 1103515245, (6, 183))], [(64, 1000000, (2, 225))], [], [(21, 76800, (0, 128)), (94, 100000000, (6, 92)), (322, 1000000, (6, 166))], [], [], [(208, 1000000, (8, 127))], [], [], [], [], [], [], [], [(999, 1103515245, (14, 12))]]
def mt_U : List (List (Nat × Nat × String × (Nat × Nat))) := [[], [(332, 0, "class   extends static  int     bool    void    if      else    while   return  print   read    new     this    null    true    false   ", (2, 160))], [], [], [], [(95, 1, "(", (7, 70)), (101, 2, ")", (7, 84)), (108, 6, "int", (7, 95)), (110, 7, "bool", (7, 96))], [(298, 3, " ", (7, 97)), (307, 4, " = ", (7, 103)), (312, 5, "; ", (7, 108)), (351, 8, "(", (7, 137)), (357, 9, ");", (7, 143)), (362, 10, " static ", (7, 145)), (365, 11, "void", (7, 146)), (367, 12, ") { ", (7, 147)), (369, 13, " return ", (7, 148)), (371, 14, ";", (7, 149)), (373, 15, " }", (7, 150)), (375, 16, ", ", (7, 142)), (394, 17, ")", (7, 165)), (399, 18, "() { return ", (7, 170)), (401, 19, "; }", (7, 171)), (406, 20, "()", (7, 176)), (440, 21, ".", (7, 221)), (455, 22, "!(", (7, 231)), (461, 23, " { ", (7, 236)), (463, 24, " } ", (7, 237))], [(218, 25, "(", (8, 153)), (224, 26, " ", (8, 155)), (230, 27, ")", (8, 162))], [], [], [], [], [], [], [], [(3, 30, "class extends static int bool void if else while return print read new this null true false ", (10, 82)), (392, 28, "stop", (8, 228)), (396, 29, "fail", (9, 14)), (559, 36, "int", (14, 159)), (561, 37, "bool", (14, 160)), (563, 38, "void", (14, 161)), (571, 31, "(", (14, 133)), (576, 32, ")", (14, 142)), (757, 33, " ", (14, 162)), (762, 34, " = ", (14, 167)), (764, 35, "; ", (14, 168)), (776, 39, "static ", (14, 186)), (782, 40, ") { ", (14, 192)), (784, 41, " return ", (14, 193)), (786, 42, ";", (14, 194)), (788, 43, " }", (14, 195)), (790, 44, ");", (14, 196)), (792, 45, ", ", (14, 191)), (816, 46, "() { return ", (14, 226)), (818, 47, "; }", (14, 227)), (820, 48, "()", (14, 228)), (828, 49, ".", (15, 5)), (833, 50, "!(", (15, 18)), (838, 51, " { ", (15, 23)), (840, 52, " } ", (15, 24))]]
def mt_M : List (List (Nat × Nat × Nat × Nat × (Nat × Nat) × (Nat × Nat) × (Nat × Nat))) := [[], [], [], [], [(34, 5, 0, 0, (0, 129), (0, 130), (99, 0))], [], [], [], [(21, 6, 1, 0, (1, 49), (1, 50), (99, 0))], [(17, 5, 0, 0, (2, 8), (0, 130), (99, 0))], [], [], [], [], [], [(418, 8, 6, 1, (10, 44), (10, 45), (1, 50))], [(15, 6, 1, 0, (9, 21), (1, 50), (99, 0))]]
/-- the places of the words of arrays of ints, bytes, booleans -/
def mt_ac : (Nat × Nat) × (Nat × Nat) × (Nat × Nat) := ((0, 103), (0, 102), (10, 43))
def mt_E : List (Nat × Nat) := [(3, 11), (4, 9), (7, 10)]
def mt_X : Nat := 13
/-- types of arrays of arrays of bytes, the type of what they hold -/
def mt_B : List (Nat × Nat) := [(6, 1), (8, 6)]
/-- the texts of the constants, by their numbers: the place of what is said of each among what is given at the start, the bytes -/
def mt_TX : List (Nat × Nat × Nat × List Int32) := [(1, 332, 26, [99, 108, 97, 115, 115, 32, 32, 32, 101, 120, 116, 101, 110, 100, 115, 32, 115, 116, 97, 116, 105, 99, 32, 32, 105, 110, 116, 32, 32, 32, 32, 32, 98, 111, 111, 108, 32, 32, 32, 32, 118, 111, 105, 100, 32, 32, 32, 32, 105, 102, 32, 32, 32, 32, 32, 32, 101, 108, 115, 101, 32, 32, 32, 32, 119, 104, 105, 108, 101, 32, 32, 32, 114, 101, 116, 117, 114, 110, 32, 32, 112, 114, 105, 110, 116, 32, 32, 32, 114, 101, 97, 100, 32, 32, 32, 32, 110, 101, 119, 32, 32, 32, 32, 32, 116, 104, 105, 115, 32, 32, 32, 32, 110, 117, 108, 108, 32, 32, 32, 32, 116, 114, 117, 101, 32, 32, 32, 32, 102, 97, 108, 115, 101, 32, 32, 32]), (5, 95, 166, [40]), (5, 101, 171, [41]), (6, 298, 191, [32]), (6, 307, 196, [32, 61, 32]), (6, 312, 203, [59, 32]), (5, 108, 176, [105, 110, 116]), (5, 110, 183, [98, 111, 111, 108]), (6, 351, 209, [40]), (6, 357, 221, [41, 59]), (6, 362, 227, [32, 115, 116, 97, 116, 105, 99, 32]), (6, 365, 239, [118, 111, 105, 100]), (6, 367, 247, [41, 32, 123, 32]), (6, 369, 255, [32, 114, 101, 116, 117, 114, 110, 32]), (6, 371, 267, [59]), (6, 373, 272, [32, 125]), (6, 375, 215, [44, 32]), (6, 394, 278, [41]), (6, 399, 284, [40, 41, 32, 123, 32, 114, 101, 116, 117, 114, 110, 32]), (6, 401, 300, [59, 32, 125]), (6, 406, 307, [40, 41]), (6, 440, 313, [46]), (6, 455, 318, [33, 40]), (6, 461, 324, [32, 123, 32]), (6, 463, 331, [32, 125, 32]), (7, 218, 338, [40]), (7, 224, 345, [32]), (7, 230, 351, [41]), (15, 392, 358, [115, 116, 111, 112]), (15, 396, 366, [102, 97, 105, 108]), (15, 3, 374, [99, 108, 97, 115, 115, 32, 101, 120, 116, 101, 110, 100, 115, 32, 115, 116, 97, 116, 105, 99, 32, 105, 110, 116, 32, 98, 111, 111, 108, 32, 118, 111, 105, 100, 32, 105, 102, 32, 101, 108, 115, 101, 32, 119, 104, 105, 108, 101, 32, 114, 101, 116, 117, 114, 110, 32, 112, 114, 105, 110, 116, 32, 114, 101, 97, 100, 32, 110, 101, 119, 32, 116, 104, 105, 115, 32, 110, 117, 108, 108, 32, 116, 114, 117, 101, 32, 102, 97, 108, 115, 101, 32]), (15, 571, 470, [40]), (15, 576, 478, [41]), (15, 757, 512, [32]), (15, 762, 519, [32, 61, 32]), (15, 764, 527, [59, 32]), (15, 559, 486, [105, 110, 116]), (15, 561, 494, [98, 111, 111, 108]), (15, 563, 503, [118, 111, 105, 100]), (15, 776, 534, [115, 116, 97, 116, 105, 99, 32]), (15, 782, 552, [41, 32, 123, 32]), (15, 784, 561, [32, 114, 101, 116, 117, 114, 110, 32]), (15, 786, 574, [59]), (15, 788, 580, [32, 125]), (15, 790, 587, [41, 59]), (15, 792, 545, [44, 32]), (15, 816, 594, [40, 41, 32, 123, 32, 114, 101, 116, 117, 114, 110, 32]), (15, 818, 611, [59, 32, 125]), (15, 820, 619, [40, 41]), (15, 828, 626, [46]), (15, 833, 632, [33, 40]), (15, 838, 639, [32, 123, 32]), (15, 840, 647, [32, 125, 32])]
end
section
/-! the tables as the small machine takes them -/
def mt_Nm (y : Nat) : MethodName := match mt_m[y]? with
  | some q => ⟨mt_own q.1, q.2.1, q.2.2⟩
  | none => ⟨"", "", ""⟩
def mt_Cd (y : Nat) : ByteArray := mt_c.getD y ⟨#[]⟩
def mt_pv : List (MethodName × Nat) := mt_v.map fun q => (mt_Nm q.1, q.2.1)
def mt_Ts : List Jvm.Cond := k2_sels mt_pv ++ tables_1
def mt_Us : List Jvm.Cond := [.laysStatic Bundle.tN "UNASSIGNED_STACK" Bundle.steD, .laysStatic Bundle.tN "SUPPRESSED_SENTINEL" Bundle.listD, .isRef (.static Bundle.tN "UNASSIGNED_STACK" Bundle.steD), .isRef (.static Bundle.tN "SUPPRESSED_SENTINEL" Bundle.listD)]
def mt_ch : Nat → List Jvm.Cond
  | 0 => tables_1_1
  | 1 => tables_1_2
  | 2 => tables_1_3
  | 3 => tables_1_4
  | 4 => tables_1_5
  | 5 => tables_1_6
  | 6 => tables_1_7
  | 7 => tables_1_8
  | 8 => tables_1_9
  | 9 => tables_1_10
  | 10 => tables_1_11
  | 11 => tables_1_12
  | 12 => tables_1_13
  | 13 => tables_1_14
  | 14 => tables_1_15
  | 15 => tables_1_16
  | 16 => k2_sels mt_pv
  | _ => []
def mt_in (q : Nat × Nat) (w : Jvm.Cond) : Bool := decide ((mt_ch q.1)[q.2]? = some w)
theorem mt_in_mem {q : Nat × Nat} {w : Jvm.Cond} (h : mt_in q w = true) : w ∈ mt_Ts := by
  have h1 : w ∈ mt_ch q.1 := List.mem_of_getElem? (of_decide_eq_true h)
  have h2 : w ∈ mt_ch q.1 → w ∈ mt_Ts := by
    unfold mt_ch mt_Ts tables_1
    split <;> intro h <;> first | (exact absurd h List.not_mem_nil) | simp only [List.mem_append, h, true_or, or_true]
  exact h2 h1
def mt_fl (ci : Nat) : List (Nat × String × String × Bool × (Nat × Nat)) := match mt_k[ci]? with
  | some q => q.2.2.1
  | none => []
def mt_T (ci : Nat) : u_T := fun k => match (mt_fl ci)[k]? with
  | some f => (mt_own f.1, f.2.1, f.2.2.1, f.2.2.2.1)
  | none => ("", "", "", false)
def mt_cn (ci : Nat) : String := match mt_k[ci]? with
  | some q => mt_own q.1
  | none => ""
def mt_cl : List vw_C := (List.range mt_k.length).map fun ci => (mt_cn ci, mt_T ci, (mt_fl ci).length)
theorem mt_cl_at {ci : Nat} (h : ci < mt_k.length) : mt_cl[ci]? = some (mt_cn ci, mt_T ci, (mt_fl ci).length) := by
  unfold mt_cl
  rw [List.getElem?_map, List.getElem?_range h]
  rfl
theorem mt_cl_of {ci : Nat} {r : vw_C} (h : mt_cl[ci]? = some r) : ci < mt_k.length ∧ r = (mt_cn ci, mt_T ci, (mt_fl ci).length) := by
  have h1 : ci < mt_cl.length := (List.getElem?_eq_some_iff.mp h).1
  have h2 : ci < mt_k.length := by simpa [mt_cl] using h1
  rw [mt_cl_at h2] at h
  exact ⟨h2, (Option.some.inj h).symm⟩
def mt_oc (y : Nat) : Nat := match mt_m[y]? with
  | some q => q.1
  | none => 99
def mt_pick {α : Type} (l : List (List (Nat × α))) (y idx : Nat) : Option α := ((l.getD (mt_oc y) []).find? (fun e => Nat.beq e.1 idx)).map (fun e => e.2)
theorem mt_pick_of {α : Type} {l : List (List (Nat × α))} {y idx : Nat} {r : α} (h : mt_pick l y idx = some r) : (idx, r) ∈ l.getD (mt_oc y) [] := by
  unfold mt_pick at h
  rw [Option.map_eq_some_iff] at h
  obtain ⟨e, h1, h2⟩ := h
  have h3 := List.mem_of_find?_eq_some h1
  have h4 := List.find?_some h1
  have h5 : e.1 = idx := Nat.eq_of_beq_eq_true h4
  obtain ⟨a, b⟩ := e
  cases h5
  cases h2
  exact h3
def mt_gT (ci k : Nat) : Option FieldType := match (mt_fl ci)[k]? with
  | some f => parseFieldDescriptor f.2.2.1
  | none => none
def mt_inf (y : Nat) : Nat × Option FieldType × (Nat × Nat) × (Nat × Nat) × (Nat × Nat) := mt_i.getD y (0, none, (99, 0), (99, 0), (99, 0))
def mt_gH (y : Nat) : List (Nat × Nat × Nat × Nat) := match mt_h.find? (fun e => Nat.beq e.1 y) with
  | some e => e.2
  | none => []
def mt_gW (z : Nat) : Nat := (mt_k.findIdx? (fun c => Nat.beq c.1 (mt_oc z))).getD 99
def mt_gD (ci : Nat) : List Value := (mt_fl ci).map fun f => match parseFieldDescriptor f.2.2.1 with
  | some ty => defaultValue ty
  | none => .null
/-- the tables, for a script of n ints f -/
def mt_G (n : Nat) (f : Nat → Int32) : mv_G :=
  (fun y pc => match decode (mt_Cd y) pc with
    | .ok q => some q
    | .error _ => none,
   fun y idx => (mt_pick mt_F y idx).map fun e => (e.1, e.2.1),
   fun y idx => (mt_pick mt_N y idx).map fun e => e.1,
   fun y idx => (mt_pick mt_A y idx).map fun e => e.1,
   fun y idx => (mt_pick mt_C y idx).map fun e => (e.1, e.2.1, e.2.2.1),
   fun y idx => match mt_pick mt_K y idx with
    | some e => some (.int (Int32.ofInt e.1))
    | none => (mt_pick mt_U y idx).map fun e => .ref (mv_big + 1 + e.1),
   fun y => (mt_inf y).1,
   mt_gH,
   fun ci => match mt_k[ci]? with
    | some q => q.2.1
    | none => 0,
   mt_gD,
   mt_gT,
   fun ci k => match (mt_fl ci)[k]? with
    | some f => f.2.2.2.1
    | none => false,
   fun y ci => match mt_m[y]?, mt_k[ci]? with
    | some q, some c => Nat.beq q.1 c.1 && decide (q.2.1 = "<init>")
    | _, _ => false,
   fun t => mt_L[t]?,
   fun t => (mt_E.find? (fun e => Nat.beq e.1 t)).map fun e => e.2,
   fun y => (mt_inf y).2.1,
   mt_gW,
   mt_X,
   fun y idx => (mt_pick mt_M y idx).map fun e => (e.1, e.2.1, e.2.2.1),
   fun a => if a = mv_big then some (n, f) else none,
   fun a => if a ≤ mv_big then none else (mt_TX[a - (mv_big + 1)]?).map fun e => e.2.2.2,
   fun t => (mt_B.find? (fun e => Nat.beq e.1 t)).map fun e => e.2)
end
section
/-! the tables are right -/
theorem mt_cls (y : Nat) : (mt_Nm y).cls = mt_own (mt_oc y) := by
  unfold mt_Nm mt_oc
  cases mt_m[y]? with
  | none => exact (by decide +kernel : "" = mt_own 99)
  | some q => rfl
def mt_mem (w : Jvm.Cond) : Bool := decide (w ∈ tables_1)
theorem mt_mem_mem {w : Jvm.Cond} (h : mt_mem w = true) : w ∈ mt_Ts := List.mem_append.mpr (Or.inr (of_decide_eq_true h))
def mt_all {α : Type} (l : List (List α)) (b : Nat → α → Bool) : Bool := (List.range l.length).all fun o => (l.getD o []).all (b o)
theorem mt_all_of {α : Type} {l : List (List α)} {b : Nat → α → Bool} (h : mt_all l b = true) {o : Nat} {e : α} (he : e ∈ l.getD o []) : b o e = true := by
  rcases Nat.lt_or_ge o l.length with q | q
  · exact List.all_eq_true.mp (List.all_eq_true.mp h o (List.mem_range.mpr q)) e he
  · rw [List.getD_eq_getElem?_getD, List.getElem?_eq_none q] at he
    exact absurd he List.not_mem_nil
/-- classes -/
def mt_okk (ci : Nat) : Bool := match mt_k[ci]? with
  | some q => (List.range q.2.2.1.length).all (fun k => match q.2.2.1[k]? with
      | some f => Nat.beq f.1 q.1 && mt_in f.2.2.2.2 (u_lay (mt_cn ci) (mt_T ci) k) && (parseFieldDescriptor f.2.2.1).isSome
      | none => false) && decide ((q.2.2.1.map fun f => f.2.1).Nodup) && mt_in q.2.2.2.1 (.instantiable (mt_cn ci) q.2.1) && mt_in q.2.2.2.2 (.initialized (mt_cn ci)) && (mt_gD ci).all (fun v => match v with
        | .null => true
        | .int _ => true
        | _ => false)
  | none => false
set_option maxRecDepth 100000 in
theorem mt_okk_all : (List.range mt_k.length).all mt_okk = true := by decide +kernel
def mt_okf (o : Nat) (e : Nat × Nat × Nat × Bool × String × (Nat × Nat)) : Bool := Nat.blt e.2.1 mt_k.length && Nat.blt e.2.2.1 (mt_fl e.2.1).length && mt_in e.2.2.2.2.2 (if e.2.2.2.1 = true then .fieldLinkNest (mt_own o) e.1 (mt_T e.2.1 e.2.2.1).1 (mt_T e.2.1 e.2.2.1).2.1 (mt_T e.2.1 e.2.2.1).2.2.1 e.2.2.2.2.1 else .fieldLink (mt_own o) e.1 (mt_T e.2.1 e.2.2.1).1 (mt_T e.2.1 e.2.2.1).2.1 (mt_T e.2.1 e.2.2.1).2.2.1) && (!e.2.2.2.1 || !decide (mt_own o = mt_cn e.2.1))
set_option maxRecDepth 100000 in
theorem mt_okf_all : mt_all mt_F mt_okf = true := by decide +kernel
def mt_okn (o : Nat) (e : Nat × Nat × (Nat × Nat)) : Bool := Nat.blt e.2.1 mt_k.length && mt_in e.2.2 (.classLink (mt_own o) e.1 (mt_cn e.2.1))
set_option maxRecDepth 100000 in
theorem mt_okn_all : mt_all mt_N mt_okn = true := by decide +kernel
def mt_oka (o : Nat) (e : Nat × Nat × (Nat × Nat) × (Nat × Nat)) : Bool := match mt_L[e.2.1]? with
  | some (.object C) => mt_in e.2.2.1 (.classLink (mt_own o) e.1 C) && mt_in e.2.2.2 (.arrayOver (.object C))
  | some (.array ty) => mt_in e.2.2.1 (.classLink (mt_own o) e.1 (FieldType.array ty).toString) && mt_in e.2.2.2 (.arrayOver (.array ty))
  | _ => false
set_option maxRecDepth 100000 in
theorem mt_oka_all : mt_all mt_A mt_oka = true := by decide +kernel
def mt_oki (o : Nat) (e : Nat × Int × (Nat × Nat)) : Bool := mt_in e.2.2 (.constant (mt_own o) e.1 (Int32.ofInt e.2.1))
set_option maxRecDepth 100000 in
theorem mt_oki_all : mt_all mt_K mt_oki = true := by decide +kernel
def mt_leq : List UInt8 → List UInt8 → Bool
  | [], [] => true
  | a :: r, b :: t => Nat.beq a.toNat b.toNat && mt_leq r t
  | _, _ => false
theorem mt_leq_eq : ∀ {a b : List UInt8}, mt_leq a b = true → a = b
  | [], [], _ => rfl
  | [], _ :: _, h => by cases h
  | _ :: _, [], h => by cases h
  | a :: r, b :: t, h => by
    unfold mt_leq at h
    obtain ⟨h1, h2⟩ := Bool.and_eq_true_iff.mp h
    rw [mt_leq_eq h2, UInt8.toNat_inj.mp (Nat.eq_of_beq_eq_true h1)]
def mt_beq (a b : ByteArray) : Bool := mt_leq a.data.toList b.data.toList
theorem mt_beq_eq {a b : ByteArray} (h : mt_beq a b = true) : a = b := by
  have h1 := mt_leq_eq h
  obtain ⟨⟨x⟩⟩ := a
  obtain ⟨⟨y⟩⟩ := b
  cases h1
  rfl
def mt_inC (q : Nat × Nat) (m : MethodName) (b : ByteArray) (l : Nat) (r : Option FieldType) : Bool := match (mt_ch q.1)[q.2]? with
  | some (.code m' b' l' r') => decide (m' = m) && mt_beq b' b && Nat.beq l' l && decide (r' = r)
  | _ => false
def mt_inH (q : Nat × Nat) (m : MethodName) (b : ByteArray) (l : Nat) (r : Option FieldType) (h : List (Nat × Nat × Nat × Nat)) : Bool := match (mt_ch q.1)[q.2]? with
  | some (.codeWith m' b' l' r' h') => decide (m' = m) && mt_beq b' b && Nat.beq l' l && decide (r' = r) && decide (h' = h)
  | _ => false
def mt_okm (z : Nat) : Bool := (match mt_gH z with
  | [] => mt_inC (mt_inf z).2.2.1 (mt_Nm z) (mt_Cd z) (mt_inf z).1 (mt_inf z).2.1
  | h => mt_inH (mt_inf z).2.2.1 (mt_Nm z) (mt_Cd z) (mt_inf z).1 (mt_inf z).2.1 h) && !decide ((mt_Nm z).cls = "java/lang/invoke/MethodHandle") && !decide ((mt_Nm z).cls = "java/lang/invoke/VarHandle")
set_option maxRecDepth 100000 in
theorem mt_okm_all : ((List.range mt_m.length).drop 1).all mt_okm = true := by decide +kernel
set_option maxRecDepth 100000 in
theorem mt_okp_all : ((List.range mt_m.length).drop 1).all (fun z => plainFor (mt_Nm z)) = true := by decide +kernel
end
section
/-! the tables are right: calls, constants, grids, handlers, the private methods' selection -/
def mt_okl (o : Nat) (e : Nat × Nat × Nat × Nat × String × (Nat × Nat)) : Bool := if e.2.1 = 1 ∨ e.2.1 = 3 ∨ e.2.1 = 5 then mt_in e.2.2.2.2.2 (.methodLinkNest (mt_own o) e.1 (mt_Nm e.2.2.1) e.2.2.2.2.1) else mt_in e.2.2.2.2.2 (.methodLink (mt_own o) e.1 (mt_Nm e.2.2.1))
def mt_okd (z n : Nat) : Bool := match parseMethodDescriptor (mt_Nm z).desc with
  | some sig => Nat.beq n sig.parameters.length
  | none => true
def mt_zin (z : Nat) : Bool := Nat.blt 0 z && Nat.blt z mt_m.length
def mt_okc (o : Nat) (e : Nat × Nat × Nat × Nat × String × (Nat × Nat)) : Bool :=
  if e.2.1 ≤ 1 then mt_zin e.2.2.1 && mt_okl o e && mt_okd e.2.2.1 e.2.2.2.1 && mt_in (mt_inf e.2.2.1).2.2.2.1 (.static (mt_Nm e.2.2.1)) && mt_in (mt_inf e.2.2.1).2.2.2.2 (.initialized (mt_Nm e.2.2.1).cls)
  else if e.2.1 ≤ 3 then mt_zin e.2.2.1 && mt_okl o e && mt_okd e.2.2.1 e.2.2.2.1 && mt_in (mt_inf e.2.2.1).2.2.2.1 (.instanceMethod (mt_Nm e.2.2.1)) && mt_in (mt_inf e.2.2.1).2.2.2.2 (.selects (mt_Nm e.2.2.1).cls (mt_Nm e.2.2.1) (mt_Nm e.2.2.1)) && Nat.blt (mt_gW e.2.2.1) mt_k.length && decide (mt_cn (mt_gW e.2.2.1) = (mt_Nm e.2.2.1).cls)
  else if e.2.1 ≤ 5 then mt_zin e.2.2.1 && mt_okl o e && mt_okd e.2.2.1 e.2.2.2.1 && mt_in (mt_inf e.2.2.1).2.2.2.1 (.instanceMethod (mt_Nm e.2.2.1)) && decide ((mt_Nm e.2.2.1).name = "<init>") && mt_inC (mt_inf e.2.2.1).2.2.1 (mt_Nm e.2.2.1) (mt_Cd e.2.2.1) (mt_inf e.2.2.1).1 none
  else if e.2.1 = 7 then mt_in e.2.2.2.2.2 (.methodLink (mt_own o) e.1 arraycopyName)
  else if e.2.1 = 9 then mt_in e.2.2.2.2.2 (.methodLink (mt_own o) e.1 Lib.objectInit)
  else if e.2.1 = 10 then mt_in e.2.2.2.2.2 (.methodLink (mt_own o) e.1 st_y6)
  else if e.2.1 = 11 then mt_in e.2.2.2.2.2 (.methodLink (mt_own o) e.1 st_y4)
  else true
def mt_stayb : Jvm.Cond → Bool
  | .arrayClass _ => true
  | .arrayOver (.object _) => true
  | .arrayOver (.array _) => true
  | .declares _ => true
  | .castable _ _ => true
  | w => w.onTables && w.keepsH
def mt_ok8 (o : Nat) (e : Nat × Nat × Nat × Nat × String × (Nat × Nat)) : Bool := !(Nat.beq e.2.1 8) || (Bundle.ownAtoms (mt_own o) e.1 mv_ISE mv_up).all (fun w => (mt_mem w && mt_stayb w) || decide (w ∈ mt_Us))
set_option maxRecDepth 100000 in
theorem mt_ok8_all : mt_all mt_C mt_ok8 = true := by decide +kernel
def mt_seg {α : Type} (l : List α) (i : Nat) : List α := (l.drop (40 * i)).take 40
theorem mt_seg_of {α : Type} {l : List α} {p : α → Bool} {k : Nat} (hl : l.length ≤ 40 * k) (h : ∀ i, i < k → (mt_seg l i).all p = true) : l.all p = true := by
  refine List.all_eq_true.mpr fun e he => ?_
  obtain ⟨j, hj⟩ := List.mem_iff_getElem?.mp he
  have hlt : j < l.length := (List.getElem?_eq_some_iff.mp hj).1
  refine List.all_eq_true.mp (h (j / 40) (by omega)) e (List.mem_of_getElem? (i := j % 40) ?_)
  unfold mt_seg
  rw [List.getElem?_take, if_pos (by omega), List.getElem?_drop, show 40 * (j / 40) + j % 40 = j by omega]
  exact hj
set_option maxRecDepth 100000 in
theorem mt_sg_0_0 : (mt_seg (mt_C.getD 0 []) 0).all (mt_okc 0) = true := by decide +kernel
set_option maxRecDepth 100000 in
theorem mt_sg_0_1 : (mt_seg (mt_C.getD 0 []) 1).all (mt_okc 0) = true := by decide +kernel
set_option maxRecDepth 100000 in
theorem mt_sg_1_0 : (mt_seg (mt_C.getD 1 []) 0).all (mt_okc 1) = true := by decide +kernel
set_option maxRecDepth 100000 in
theorem mt_sg_1_1 : (mt_seg (mt_C.getD 1 []) 1).all (mt_okc 1) = true := by decide +kernel
set_option maxRecDepth 100000 in
theorem mt_sg_2_0 : (mt_seg (mt_C.getD 2 []) 0).all (mt_okc 2) = true := by decide +kernel
set_option maxRecDepth 100000 in
theorem mt_sg_2_1 : (mt_seg (mt_C.getD 2 []) 1).all (mt_okc 2) = true := by decide +kernel
set_option maxRecDepth 100000 in
theorem mt_sg_3_0 : (mt_seg (mt_C.getD 3 []) 0).all (mt_okc 3) = true := by decide +kernel
set_option maxRecDepth 100000 in
theorem mt_sg_3_1 : (mt_seg (mt_C.getD 3 []) 1).all (mt_okc 3) = true := by decide +kernel
set_option maxRecDepth 100000 in
theorem mt_sg_4_0 : (mt_seg (mt_C.getD 4 []) 0).all (mt_okc 4) = true := by decide +kernel
set_option maxRecDepth 100000 in
theorem mt_sg_5_0 : (mt_seg (mt_C.getD 5 []) 0).all (mt_okc 5) = true := by decide +kernel
set_option maxRecDepth 100000 in
theorem mt_sg_6_0 : (mt_seg (mt_C.getD 6 []) 0).all (mt_okc 6) = true := by decide +kernel
set_option maxRecDepth 100000 in
theorem mt_sg_6_1 : (mt_seg (mt_C.getD 6 []) 1).all (mt_okc 6) = true := by decide +kernel
set_option maxRecDepth 100000 in
theorem mt_sg_6_2 : (mt_seg (mt_C.getD 6 []) 2).all (mt_okc 6) = true := by decide +kernel
set_option maxRecDepth 100000 in
theorem mt_sg_7_0 : (mt_seg (mt_C.getD 7 []) 0).all (mt_okc 7) = true := by decide +kernel
set_option maxRecDepth 100000 in
theorem mt_sg_8_0 : (mt_seg (mt_C.getD 8 []) 0).all (mt_okc 8) = true := by decide +kernel
set_option maxRecDepth 100000 in
theorem mt_sg_9_0 : (mt_seg (mt_C.getD 9 []) 0).all (mt_okc 9) = true := by decide +kernel
set_option maxRecDepth 100000 in
theorem mt_sg_10_0 : (mt_seg (mt_C.getD 10 []) 0).all (mt_okc 10) = true := by decide +kernel
set_option maxRecDepth 100000 in
theorem mt_sg_12_0 : (mt_seg (mt_C.getD 12 []) 0).all (mt_okc 12) = true := by decide +kernel
set_option maxRecDepth 100000 in
theorem mt_sg_13_0 : (mt_seg (mt_C.getD 13 []) 0).all (mt_okc 13) = true := by decide +kernel
set_option maxRecDepth 100000 in
theorem mt_sg_14_0 : (mt_seg (mt_C.getD 14 []) 0).all (mt_okc 14) = true := by decide +kernel
set_option maxRecDepth 100000 in
theorem mt_sg_15_0 : (mt_seg (mt_C.getD 15 []) 0).all (mt_okc 15) = true := by decide +kernel
set_option maxRecDepth 100000 in
theorem mt_sg_15_1 : (mt_seg (mt_C.getD 15 []) 1).all (mt_okc 15) = true := by decide +kernel
set_option maxRecDepth 100000 in
theorem mt_sg_15_2 : (mt_seg (mt_C.getD 15 []) 2).all (mt_okc 15) = true := by decide +kernel
set_option maxRecDepth 100000 in
theorem mt_sg_15_3 : (mt_seg (mt_C.getD 15 []) 3).all (mt_okc 15) = true := by decide +kernel
set_option maxRecDepth 100000 in
theorem mt_sg_16_0 : (mt_seg (mt_C.getD 16 []) 0).all (mt_okc 16) = true := by decide +kernel
set_option maxRecDepth 100000 in
theorem mt_sg_16_1 : (mt_seg (mt_C.getD 16 []) 1).all (mt_okc 16) = true := by decide +kernel
set_option maxRecDepth 100000 in
theorem mt_sg_17_0 : (mt_seg (mt_C.getD 17 []) 0).all (mt_okc 17) = true := by decide +kernel
theorem mt_sg_0 : (mt_C.getD 0 []).all (mt_okc 0) = true := mt_seg_of (k := 2) (by decide +kernel) fun i hi => match i, hi with
  | 0, _ => mt_sg_0_0
  | 1, _ => mt_sg_0_1
  | n + 2, h => absurd h (by omega)
theorem mt_sg_1 : (mt_C.getD 1 []).all (mt_okc 1) = true := mt_seg_of (k := 2) (by decide +kernel) fun i hi => match i, hi with
  | 0, _ => mt_sg_1_0
  | 1, _ => mt_sg_1_1
  | n + 2, h => absurd h (by omega)
theorem mt_sg_2 : (mt_C.getD 2 []).all (mt_okc 2) = true := mt_seg_of (k := 2) (by decide +kernel) fun i hi => match i, hi with
  | 0, _ => mt_sg_2_0
  | 1, _ => mt_sg_2_1
  | n + 2, h => absurd h (by omega)
theorem mt_sg_3 : (mt_C.getD 3 []).all (mt_okc 3) = true := mt_seg_of (k := 2) (by decide +kernel) fun i hi => match i, hi with
  | 0, _ => mt_sg_3_0
  | 1, _ => mt_sg_3_1
  | n + 2, h => absurd h (by omega)
theorem mt_sg_4 : (mt_C.getD 4 []).all (mt_okc 4) = true := mt_seg_of (k := 1) (by decide +kernel) fun i hi => match i, hi with
  | 0, _ => mt_sg_4_0
  | n + 1, h => absurd h (by omega)
theorem mt_sg_5 : (mt_C.getD 5 []).all (mt_okc 5) = true := mt_seg_of (k := 1) (by decide +kernel) fun i hi => match i, hi with
  | 0, _ => mt_sg_5_0
  | n + 1, h => absurd h (by omega)
theorem mt_sg_6 : (mt_C.getD 6 []).all (mt_okc 6) = true := mt_seg_of (k := 3) (by decide +kernel) fun i hi => match i, hi with
  | 0, _ => mt_sg_6_0
  | 1, _ => mt_sg_6_1
  | 2, _ => mt_sg_6_2
  | n + 3, h => absurd h (by omega)
theorem mt_sg_7 : (mt_C.getD 7 []).all (mt_okc 7) = true := mt_seg_of (k := 1) (by decide +kernel) fun i hi => match i, hi with
  | 0, _ => mt_sg_7_0
  | n + 1, h => absurd h (by omega)
theorem mt_sg_8 : (mt_C.getD 8 []).all (mt_okc 8) = true := mt_seg_of (k := 1) (by decide +kernel) fun i hi => match i, hi with
  | 0, _ => mt_sg_8_0
  | n + 1, h => absurd h (by omega)
theorem mt_sg_9 : (mt_C.getD 9 []).all (mt_okc 9) = true := mt_seg_of (k := 1) (by decide +kernel) fun i hi => match i, hi with
  | 0, _ => mt_sg_9_0
  | n + 1, h => absurd h (by omega)
theorem mt_sg_10 : (mt_C.getD 10 []).all (mt_okc 10) = true := mt_seg_of (k := 1) (by decide +kernel) fun i hi => match i, hi with
  | 0, _ => mt_sg_10_0
  | n + 1, h => absurd h (by omega)
theorem mt_sg_11 : (mt_C.getD 11 []).all (mt_okc 11) = true := by decide +kernel
theorem mt_sg_12 : (mt_C.getD 12 []).all (mt_okc 12) = true := mt_seg_of (k := 1) (by decide +kernel) fun i hi => match i, hi with
  | 0, _ => mt_sg_12_0
  | n + 1, h => absurd h (by omega)
theorem mt_sg_13 : (mt_C.getD 13 []).all (mt_okc 13) = true := mt_seg_of (k := 1) (by decide +kernel) fun i hi => match i, hi with
  | 0, _ => mt_sg_13_0
  | n + 1, h => absurd h (by omega)
theorem mt_sg_14 : (mt_C.getD 14 []).all (mt_okc 14) = true := mt_seg_of (k := 1) (by decide +kernel) fun i hi => match i, hi with
  | 0, _ => mt_sg_14_0
  | n + 1, h => absurd h (by omega)
theorem mt_sg_15 : (mt_C.getD 15 []).all (mt_okc 15) = true := mt_seg_of (k := 4) (by decide +kernel) fun i hi => match i, hi with
  | 0, _ => mt_sg_15_0
  | 1, _ => mt_sg_15_1
  | 2, _ => mt_sg_15_2
  | 3, _ => mt_sg_15_3
  | n + 4, h => absurd h (by omega)
theorem mt_sg_16 : (mt_C.getD 16 []).all (mt_okc 16) = true := mt_seg_of (k := 2) (by decide +kernel) fun i hi => match i, hi with
  | 0, _ => mt_sg_16_0
  | 1, _ => mt_sg_16_1
  | n + 2, h => absurd h (by omega)
theorem mt_sg_17 : (mt_C.getD 17 []).all (mt_okc 17) = true := mt_seg_of (k := 1) (by decide +kernel) fun i hi => match i, hi with
  | 0, _ => mt_sg_17_0
  | n + 1, h => absurd h (by omega)
theorem mt_okc_all : mt_all mt_C mt_okc = true := List.all_eq_true.mpr fun o ho => match o, ho with
  | 0, _ => mt_sg_0
  | 1, _ => mt_sg_1
  | 2, _ => mt_sg_2
  | 3, _ => mt_sg_3
  | 4, _ => mt_sg_4
  | 5, _ => mt_sg_5
  | 6, _ => mt_sg_6
  | 7, _ => mt_sg_7
  | 8, _ => mt_sg_8
  | 9, _ => mt_sg_9
  | 10, _ => mt_sg_10
  | 11, _ => mt_sg_11
  | 12, _ => mt_sg_12
  | 13, _ => mt_sg_13
  | 14, _ => mt_sg_14
  | 15, _ => mt_sg_15
  | 16, _ => mt_sg_16
  | 17, _ => mt_sg_17
  | n + 18, h => absurd (List.mem_range.mp h) (by rw [show mt_C.length = 18 by decide +kernel]; omega)
set_option maxRecDepth 100000 in
theorem mt_okc_79 : (mt_mem (.native arraycopyName) && mt_mem (.static arraycopyName) && mt_mem (.initialized "java/lang/System") && mt_mem (.instanceMethod Lib.objectInit)) = true := by decide +kernel
theorem mt_objc : Cond.code Lib.objectInit ⟨#[0xb1]⟩ 1 none ∈ mt_Ts := List.mem_append.mpr (Or.inr (List.mem_of_getElem? (i := 34) rfl))
def mt_okv (q : Nat × Nat × (Nat × Nat) × (Nat × Nat) × (Nat × Nat)) : Bool := decide ((mt_ch q.2.2.1.1)[q.2.2.1.2]? = some (.instantiable (mt_Nm q.1).cls q.2.1)) && decide ((mt_ch q.2.2.2.1.1)[q.2.2.2.1.2]? = some (.privateMethod (mt_Nm q.1))) && decide ((mt_ch q.2.2.2.2.1)[q.2.2.2.2.2]? = some (.instanceMethod (mt_Nm q.1))) && Nat.blt q.2.2.1.1 16 && Nat.blt q.2.2.2.1.1 16 && Nat.blt q.2.2.2.2.1 16 && mt_zin q.1
set_option maxRecDepth 100000 in
theorem mt_okv_all : mt_v.all mt_okv = true := by decide +kernel
def mt_is (t : Nat) (ty : FieldType) : Bool := decide (mt_L[t]? = some ty)
def mt_okr (o : Nat) (e : Nat × Nat × Nat × Nat × (Nat × Nat) × (Nat × Nat) × (Nat × Nat)) (ty : FieldType) : Bool :=
  if e.2.2.2.1 = 0 then mt_is e.2.1 (.array ty) && mt_is e.2.2.1 ty && mt_in e.2.2.2.2.2.1 (.arrayOver (.array ty)) && mt_in e.2.2.2.2.1 (.classLink (mt_own o) e.1 ("[" ++ (FieldType.array ty).toString))
  else mt_is e.2.1 (.array (.array ty)) && mt_is e.2.2.1 (.array ty) && mt_is e.2.2.2.1 ty && mt_in e.2.2.2.2.2.1 (.arrayOver (.array (.array ty))) && mt_in e.2.2.2.2.2.2 (.arrayOver (.array ty)) && mt_in e.2.2.2.2.1 (.classLink (mt_own o) e.1 ("[" ++ (FieldType.array (.array ty)).toString))
set_option maxRecDepth 100000 in
theorem mt_okr_all : mt_all mt_M (fun o e => mt_okr o e .int || mt_okr o e .byte) = true := by decide +kernel
set_option maxRecDepth 100000 in
theorem mt_okac : (mt_in mt_ac.1 (.arrayClass .int) && mt_in mt_ac.2.1 (.arrayClass .byte) && mt_in mt_ac.2.2 (.arrayClass .boolean) && mt_is 0 .int && mt_is 1 .byte && mt_is 2 .boolean) = true := by decide +kernel
def mt_okh (e : Nat × List (Nat × Nat × Nat × Nat)) : Bool := e.2.all fun h => Nat.blt 0 h.2.2.2 && mt_mem (.classLink (mt_Nm e.1).cls h.2.2.2 mv_ISE)
set_option maxRecDepth 100000 in
theorem mt_okh_all : mt_h.all mt_okh = true := by decide +kernel
set_option maxRecDepth 100000 in
theorem mt_okX : (Nat.blt mt_X mt_k.length && decide (mt_cn mt_X = mv_ISE) && Nat.beq (mt_fl mt_X).length 0) = true := by decide +kernel
set_option maxRecDepth 100000 in
theorem mt_okE_all : mt_E.all (fun e => Nat.blt e.2 mt_k.length && mt_is e.1 (.object (mt_cn e.2))) = true := by decide +kernel
/-- texts: the words of String.length and String.charAt -/
def mt_v6 : List Jvm.Cond := ([.instanceMethod st_y6, .selects st_C st_y6 st_y6, .initialized st_C] : List Jvm.Cond) ++ st_w6
def mt_v4 : List Jvm.Cond := ([.instanceMethod st_y4, .selects st_C st_y4 st_y4, .initialized st_C] : List Jvm.Cond) ++ st_w4
set_option maxRecDepth 100000 in
theorem mt_v6_in : GoodIn tables_1 mt_v6 := goodIn_p _ [1758, 1762] rfl (by decide +kernel)
set_option maxRecDepth 100000 in
theorem mt_v4_in : GoodIn tables_1 mt_v4 := goodIn_p _ [644, 648, 653, 656, 661] rfl (by decide +kernel)
theorem mt_v64 : (mt_v6.all mt_stayb && mt_v4.all mt_stayb) = true := by decide +kernel
set_option maxRecDepth 100000 in
theorem mt_okB_all : mt_B.all (fun e => mt_is e.1 (.array (mt_L.getD e.2 .int)) && Nat.blt e.2 mt_L.length && (decide (mt_L.getD e.2 .int = .byte) || decide (mt_L.getD e.2 .int = .array .byte)) && mt_mem (.arrayOver (.array (mt_L.getD e.2 .int)))) = true := by decide +kernel
end
section
/-! the tables are right, as the machine asks -/
def mt_Tg : List Jvm.Cond := mt_Ts.filter mt_stayb
theorem mt_g {w : Jvm.Cond} (h : w ∈ mt_Ts) (hs : mt_stayb w = true) : w ∈ mt_Tg := List.mem_filter.mpr ⟨h, hs⟩
theorem mt_stay_ac (t : FieldType) : mv_stay (.arrayClass t) := fun args a' s U hW h => by
  have h1 : (Cond.arrayClass t).before args (s.setVm U.vm) = true := Cond.before_shiftedFace (State.Shifted.of_warmed hW) _ rfl h
  exact h1
theorem mt_stay_de (t : MethodName) : mv_stay (.declares t) := fun args a' s U hW h => by
  have h1 : (Cond.declares t).before args (s.setVm U.vm) = true := Cond.before_shiftedFace (State.Shifted.of_warmed hW) _ rfl h
  exact h1
theorem mt_stay_ca (t u : String) : mv_stay (.castable t u) := fun args a' s U hW h => by
  have h1 : (Cond.castable t u).before args (s.setVm U.vm) = true := Cond.before_shiftedFace (State.Shifted.of_warmed hW) _ rfl h
  exact h1
theorem mt_stay_oa (t : FieldType) : mv_stay (.arrayOver (.array t)) := fun args a' s U hW h => over_moved hW.alike h
theorem mt_stay_oo (n : String) : mv_stay (.arrayOver (.object n)) := fun args a' s U hW h => by
  have hal := hW.alike
  obtain ⟨comp, c, k, hc, hi, hk, hkind, hn⟩ := Cond.arrayOver_spec h
  have e1 : U.vm.findClass n = some comp := by first | (rw [← hal.findClass]; exact hc) | (rw [hal.findClass]; exact hc)
  have e3 : U.vm.findClass ("[" ++ (FieldType.object n).toString) = some c := by first | (rw [← hal.findClass]; exact hn) | (rw [hal.findClass]; exact hn)
  have e2 : (U.vm.classes.findIdx? fun x => match x.kind with | .array component _ => component == comp | _ => false) = some c := by
    rw [hal.findIdx?_eq _ (fun _ => rfl)]; exact hi
  obtain ⟨k', hk', he⟩ := hal.2.2 _ _ hk
  have hkind' : k'.kind = .array comp (.object n) := by rw [he]; exact hkind
  simp only [Cond.before, Cond.holds, Cond.value, beq_iff_eq, e1, e2, hk', Option.bind_some, Option.map_some, hkind']
  simp [e3]
  refine Option.bind_eq_some_iff.mpr ⟨c, e2, ?_⟩
  simp [hk', hkind']
theorem mt_stay_H {w : Jvm.Cond} (h : (w.onTables && w.keepsH) = true) : mv_stay w := fun args a' s U hW hb => by
  simp only [Bool.and_eq_true] at h
  have h1 := Cond.onTables_warmH (T := U) (args' := a') hW h.1 h.2 hb
  rwa [State.setVm_self] at h1
theorem mt_stay_of {w : Jvm.Cond} (h : mt_stayb w = true) : mv_stay w := by
  unfold mt_stayb at h
  split at h
  · exact mt_stay_ac _
  · exact mt_stay_oo _
  · exact mt_stay_oa _
  · exact mt_stay_de _
  · exact mt_stay_ca _ _
  · exact mt_stay_H h
theorem mt_good : ∀ w ∈ mt_Tg, mv_stay w := fun w hw => mt_stay_of (List.mem_filter.mp hw).2
theorem mt_is_at {t : Nat} {ty : FieldType} (h : mt_is t ty = true) : mt_L[t]? = some ty := of_decide_eq_true h
theorem mt_gL_ok (n : Nat) (f : Nat → Int32) : mv_okL mt_L mt_Tg (mt_G n f) := by
  have h := mt_okac
  simp only [Bool.and_eq_true] at h
  obtain ⟨⟨⟨⟨⟨h1, h2⟩, h3⟩, h4⟩, h5⟩, h6⟩ := h
  exact ⟨mt_is_at h4, mt_is_at h5, mt_is_at h6, mt_g (mt_in_mem h1) rfl, mt_g (mt_in_mem h2) rfl, mt_g (mt_in_mem h3) rfl, fun t ty h => h, fun t t2 h => by
    have h : (mt_B.find? (fun e => Nat.beq e.1 t)).map (fun e => e.2) = some t2 := h
    rw [Option.map_eq_some_iff] at h
    obtain ⟨e, g1, g2⟩ := h
    have g3 := List.all_eq_true.mp mt_okB_all e (List.mem_of_find?_eq_some g1)
    have g4 : e.1 = t := Nat.eq_of_beq_eq_true (List.find?_some (p := fun e : Nat × Nat => Nat.beq e.1 t) g1)
    simp only [Bool.and_eq_true, Bool.or_eq_true] at g3
    obtain ⟨⟨⟨k1, k2⟩, k3⟩, k4⟩ := g3
    subst g2
    subst g4
    refine ⟨mt_L.getD e.2 .int, ?_, mt_is_at k1, ?_, mt_g (mt_mem_mem k4) rfl⟩
    · rcases k3 with k3 | k3
      · exact Or.inl (of_decide_eq_true k3)
      · exact Or.inr (of_decide_eq_true k3)
    · have k5 : e.2 < mt_L.length := Nat.le_of_ble_eq_true k2
      rw [List.getD_eq_getElem?_getD, List.getElem?_eq_getElem k5]
      rfl⟩
theorem mt_lt {a b : Nat} (h : Nat.blt a b = true) : a < b := Nat.le_of_ble_eq_true h
theorem mt_gE_ok (n : Nat) (f : Nat → Int32) : mv_okE mt_cl mt_L (mt_G n f) := by
  intro t ci h
  have h : (mt_E.find? (fun e => Nat.beq e.1 t)).map (fun e => e.2) = some ci := h
  rw [Option.map_eq_some_iff] at h
  obtain ⟨e, h1, h2⟩ := h
  have h3 := List.all_eq_true.mp mt_okE_all e (List.mem_of_find?_eq_some h1)
  have h4 : e.1 = t := Nat.eq_of_beq_eq_true (List.find?_some (p := fun e : Nat × Nat => Nat.beq e.1 t) h1)
  rw [Bool.and_eq_true] at h3
  subst h2
  subst h4
  exact ⟨_, _, _, mt_cl_at (mt_lt h3.1), mt_is_at h3.2⟩
/-- a class's own rows -/
theorem mt_k_at {ci : Nat} (h : ci < mt_k.length) : ∃ q, mt_k[ci]? = some q ∧ mt_fl ci = q.2.2.1 ∧ mt_cn ci = mt_own q.1 := by
  obtain ⟨q, hq⟩ : ∃ q, mt_k[ci]? = some q := ⟨_, List.getElem?_eq_getElem h⟩
  refine ⟨q, hq, ?_, ?_⟩
  · unfold mt_fl
    rw [hq]
  · unfold mt_cn
    rw [hq]
theorem mt_T_at {ci k : Nat} {f : Nat × String × String × Bool × (Nat × Nat)} (h : (mt_fl ci)[k]? = some f) : mt_T ci k = (mt_own f.1, f.2.1, f.2.2.1, f.2.2.2.1) := by
  unfold mt_T
  rw [h]
theorem mt_kk {ci : Nat} (h : ci < mt_k.length) : mt_okk ci = true := List.all_eq_true.mp mt_okk_all ci (List.mem_range.mpr h)
theorem mt_okk_in {ci k : Nat} (h : ci < mt_k.length) {f : Nat × String × String × Bool × (Nat × Nat)} (hf : (mt_fl ci)[k]? = some f) : (∃ q, mt_k[ci]? = some q ∧ f.1 = q.1) ∧ mt_in f.2.2.2.2 (u_lay (mt_cn ci) (mt_T ci) k) = true ∧ (parseFieldDescriptor f.2.2.1).isSome = true := by
  obtain ⟨q, hq, hl, -⟩ := mt_k_at h
  have h1 := mt_kk h
  unfold mt_okk at h1
  rw [hq] at h1
  simp only [Bool.and_eq_true] at h1
  obtain ⟨⟨⟨⟨h1, -⟩, -⟩, -⟩, -⟩ := h1
  rw [hl] at hf
  have h2 := List.all_eq_true.mp h1 k (List.mem_range.mpr (List.getElem?_eq_some_iff.mp hf).1)
  rw [hf] at h2
  simp only [Bool.and_eq_true] at h2
  exact ⟨⟨q, hq, Nat.eq_of_beq_eq_true h2.1.1⟩, h2.1.2, h2.2⟩
theorem mt_lay_stay (C : String) (T : u_T) (k : Nat) : mt_stayb (u_lay C T k) = true := by
  unfold u_lay
  split <;> rfl
theorem mt_ws_in {ci : Nat} (h : ci < mt_k.length) : ∀ w ∈ u_ws (mt_cn ci) (mt_T ci) (mt_fl ci).length, w ∈ mt_Tg := by
  intro w hw
  obtain ⟨k, hk, rfl⟩ := List.mem_map.mp hw
  obtain ⟨f, hf⟩ : ∃ f, (mt_fl ci)[k]? = some f := ⟨_, List.getElem?_eq_getElem (List.mem_range.mp hk)⟩
  exact mt_g (mt_in_mem (mt_okk_in h hf).2.1) (mt_lay_stay _ _ _)
theorem mt_gC_ok (n : Nat) (f : Nat → Int32) {ci : Nat} (h : ci < mt_k.length) : mv_okC mt_cl mt_Tg (mt_G n f) ci := by
  have at_ : ∀ k, k < (mt_fl ci).length → ∃ g ty, (mt_fl ci)[k]? = some g ∧ parseFieldDescriptor g.2.2.1 = some ty ∧ mt_gT ci k = some ty := by
    intro k hk
    obtain ⟨g, hg⟩ : ∃ g, (mt_fl ci)[k]? = some g := ⟨_, List.getElem?_eq_getElem hk⟩
    obtain ⟨ty, hty⟩ := Option.isSome_iff_exists.mp (mt_okk_in h hg).2.2
    refine ⟨g, ty, hg, hty, ?_⟩
    unfold mt_gT
    rw [hg]
    exact hty
  refine ⟨_, _, _, fun k => (mt_gT ci k).getD .int, mt_cl_at h, mt_ws_in h, fun k hk => ?_, fun a ha b hb hab => ?_, fun k hk => ?_, fun k hk => ?_, fun j hj => ?_, fun ad => ?_⟩
  · obtain ⟨g, ty, h1, h2, h3⟩ := at_ k hk
    rw [mt_T_at h1]
    show parseFieldDescriptor g.2.2.1 = some ((mt_gT ci k).getD .int)
    rw [h3]
    exact h2
  · obtain ⟨q, hq, hl, -⟩ := mt_k_at h
    have h1 := mt_kk h
    unfold mt_okk at h1
    rw [hq] at h1
    simp only [Bool.and_eq_true] at h1
    obtain ⟨⟨⟨⟨-, h1⟩, -⟩, -⟩, -⟩ := h1
    have h1 := of_decide_eq_true h1
    obtain ⟨ga, tya, ha1, -⟩ := at_ a ha
    obtain ⟨gb, tyb, hb1, -⟩ := at_ b hb
    rw [mt_T_at ha1, mt_T_at hb1]
    intro e
    rw [hl] at ha1 hb1
    refine hab ((List.getElem_inj h1 (h₀ := by rw [List.length_map]; rw [hl] at ha; exact ha) (h₁ := by rw [List.length_map]; rw [hl] at hb; exact hb)).mp ?_)
    rw [List.getElem_map, List.getElem_map, (List.getElem?_eq_some_iff.mp ha1).2, (List.getElem?_eq_some_iff.mp hb1).2]
    exact e
  · obtain ⟨g, ty, h1, h2, h3⟩ := at_ k hk
    show mt_gT ci k = some ((mt_gT ci k).getD .int)
    rw [h3]
    rfl
  · obtain ⟨g, ty, h1, h2, h3⟩ := at_ k hk
    rw [mt_T_at h1]
    show (match (mt_fl ci)[k]? with | some f => f.2.2.2.1 | none => false) = _
    rw [h1]
  · obtain ⟨g, ty, h1, h2, h3⟩ := at_ j hj
    show defaultValue ((mt_gT ci j).getD .int) = (mt_gD ci).getD j .null
    rw [h3]
    unfold mt_gD
    rw [List.getD_eq_getElem?_getD, List.getElem?_map, h1]
    show _ = (match parseFieldDescriptor g.2.2.1 with | some ty => defaultValue ty | none => .null)
    rw [h2]
    rfl
  · obtain ⟨q, hq, hl, -⟩ := mt_k_at h
    have h1 := mt_kk h
    unfold mt_okk at h1
    rw [hq] at h1
    simp only [Bool.and_eq_true] at h1
    obtain ⟨-, h1⟩ := h1
    show (mt_gD ci).map (mv_v ad) = mt_gD ci
    conv => rhs; rw [← List.map_id (mt_gD ci)]
    apply List.map_congr_left
    intro v hv
    have h2 := List.all_eq_true.mp h1 v hv
    cases v <;> first | rfl | cases h2
end
section
/-! the tables are right, as the machine asks: the whole of it -/
theorem mt_F_ok {y idx ci k : Nat} {b : Bool} {hst : String} {p : Nat × Nat} (h : (idx, ci, k, b, hst, p) ∈ mt_F.getD (mt_oc y) []) : mv_okF mt_cl mt_Tg (mt_Nm y).cls idx ci k ∧ ci < mt_k.length ∧ ((mt_Nm y).cls = mt_cn ci → Cond.fieldLink (mt_Nm y).cls idx (mt_T ci k).1 (mt_T ci k).2.1 (mt_T ci k).2.2.1 ∈ mt_Tg) := by
  have h1 := mt_all_of mt_okf_all h
  unfold mt_okf at h1
  simp only [Bool.and_eq_true] at h1
  obtain ⟨⟨⟨h1, h2⟩, h3⟩, h4⟩ := h1
  have h1 := mt_lt h1
  rw [mt_cls]
  cases b with
  | true =>
    rw [if_pos rfl] at h3
    refine ⟨⟨_, _, _, mt_cl_at h1, mt_lt h2, mt_ws_in h1, Or.inr ⟨hst, mt_g (mt_in_mem h3) rfl⟩⟩, h1, fun e => ?_⟩
    simp [e] at h4
  | false =>
    rw [if_neg (by decide)] at h3
    have h5 := mt_g (mt_in_mem h3) rfl
    exact ⟨⟨_, _, _, mt_cl_at h1, mt_lt h2, mt_ws_in h1, Or.inl h5⟩, h1, fun _ => h5⟩
theorem mt_M_ok {z : Nat} (n : Nat) (f : Nat → Int32) (h : mt_zin z = true) : mv_okM mt_Nm mt_Cd mt_Tg (mt_G n f) z := by
  unfold mt_zin at h
  rw [Bool.and_eq_true] at h
  have h0 : z ∈ (List.range mt_m.length).drop 1 := by
    refine List.mem_of_getElem? (i := z - 1) ?_
    have := mt_lt h.1
    rw [List.getElem?_drop, show 1 + (z - 1) = z by omega, List.getElem?_range (mt_lt h.2)]
  have h1 := List.all_eq_true.mp mt_okm_all z h0
  have h2 := List.all_eq_true.mp mt_okp_all z h0
  unfold mt_okm at h1
  simp only [Bool.and_eq_true] at h1
  obtain ⟨⟨h1, h3⟩, h4⟩ := h1
  refine ⟨?_, h2, by simpa using h3, by simpa using h4⟩
  split at h1
  · rename_i hh
    refine Or.inl ⟨?_, hh⟩
    unfold mt_inC at h1
    split at h1
    · rename_i m' b' l' r' hw
      simp only [Bool.and_eq_true] at h1
      obtain ⟨⟨⟨e1, e2⟩, e3⟩, e4⟩ := h1
      have e1 := of_decide_eq_true e1
      have e2 := mt_beq_eq e2
      have e3 := Nat.eq_of_beq_eq_true e3
      have e4 := of_decide_eq_true e4
      subst e1 e2 e3 e4
      exact mt_g (mt_in_mem (q := (mt_inf z).2.2.1) (decide_eq_true hw)) rfl
    · cases h1
  · refine Or.inr ?_
    unfold mt_inH at h1
    split at h1
    · rename_i m' b' l' r' h' hw
      simp only [Bool.and_eq_true] at h1
      obtain ⟨⟨⟨⟨e1, e2⟩, e3⟩, e4⟩, e5⟩ := h1
      have e1 := of_decide_eq_true e1
      have e2 := mt_beq_eq e2
      have e3 := Nat.eq_of_beq_eq_true e3
      have e4 := of_decide_eq_true e4
      have e5 := of_decide_eq_true e5
      subst e1 e2 e3 e4 e5
      exact mt_g (mt_in_mem (q := (mt_inf z).2.2.1) (decide_eq_true hw)) rfl
    · cases h1
theorem mt_K_ok {y idx kd z n : Nat} {hst : String} {p : Nat × Nat} (h : mt_okl (mt_oc y) (idx, kd, z, n, hst, p) = true) : mv_okK mt_Tg (mt_Nm y).cls idx (mt_Nm z) := by
  unfold mt_okl at h
  rw [mt_cls]
  split at h
  · exact Or.inr ⟨hst, mt_g (mt_in_mem h) rfl⟩
  · exact Or.inl (mt_g (mt_in_mem h) rfl)
theorem mt_D_ok {z n : Nat} (h : mt_okd z n = true) : mv_okN (mt_Nm z) n := by
  intro sig hs
  unfold mt_okd at h
  rw [hs] at h
  exact Nat.eq_of_beq_eq_true h
theorem mt_pick3 {y idx kd z n : Nat} (h : (mt_pick mt_C y idx).map (fun e => (e.1, e.2.1, e.2.2.1)) = some (kd, z, n)) : ∃ (hst : String) (p : Nat × Nat), (idx, kd, z, n, hst, p) ∈ mt_C.getD (mt_oc y) [] := by
  rw [Option.map_eq_some_iff] at h
  obtain ⟨e, h1, h2⟩ := h
  obtain ⟨kd', z', n', hst, p⟩ := e
  cases h2
  exact ⟨hst, p, mt_pick_of h1⟩
theorem mt_calls {y idx kd z n0 : Nat} (n : Nat) (f : Nat → Int32) (h : (mt_pick mt_C y idx).map (fun e => (e.1, e.2.1, e.2.2.1)) = some (kd, z, n0)) : (kd = 0 ∨ kd = 1 → mv_okM mt_Nm mt_Cd mt_Tg (mt_G n f) z ∧ mv_okS mt_Nm mt_Tg (mt_Nm y).cls idx z n0) ∧ (kd = 2 ∨ kd = 3 → mv_okM mt_Nm mt_Cd mt_Tg (mt_G n f) z ∧ mv_okV mt_Nm mt_cl mt_Tg (mt_G n f) (mt_Nm y).cls idx z n0) ∧ (kd = 4 ∨ kd = 5 → mv_okM mt_Nm mt_Cd mt_Tg (mt_G n f) z ∧ mv_okI mt_Nm mt_Cd mt_Tg (mt_G n f) (mt_Nm y).cls idx z n0) := by
  obtain ⟨hst, p, hm⟩ := mt_pick3 h
  have h1 := mt_all_of mt_okc_all hm
  refine ⟨fun hk => ?_, fun hk => ?_, fun hk => ?_⟩
  · have h1 : mt_okc (mt_oc y) (idx, kd, z, n0, hst, p) = true := h1
    unfold mt_okc at h1
    rw [if_pos (show kd ≤ 1 by omega)] at h1
    simp only [Bool.and_eq_true] at h1
    obtain ⟨⟨⟨⟨a1, a2⟩, a3⟩, a4⟩, a5⟩ := h1
    exact ⟨mt_M_ok n f a1, mt_K_ok a2, mt_g (mt_in_mem a4) rfl, mt_g (mt_in_mem a5) rfl, mt_D_ok a3⟩
  · have h1 : mt_okc (mt_oc y) (idx, kd, z, n0, hst, p) = true := h1
    unfold mt_okc at h1
    rw [if_neg (show ¬ kd ≤ 1 by omega), if_pos (show kd ≤ 3 by omega)] at h1
    simp only [Bool.and_eq_true] at h1
    obtain ⟨⟨⟨⟨⟨⟨a1, a2⟩, a3⟩, a4⟩, a5⟩, a6⟩, a7⟩ := h1
    refine ⟨mt_M_ok n f a1, mt_K_ok a2, mt_g (mt_in_mem a4) rfl, mt_g (mt_in_mem a5) rfl, ?_, mt_D_ok a3⟩
    refine ⟨mt_T (mt_gW z), (mt_fl (mt_gW z)).length, ?_⟩
    rw [← of_decide_eq_true a7]
    exact mt_cl_at (mt_lt a6)
  · have h1 : mt_okc (mt_oc y) (idx, kd, z, n0, hst, p) = true := h1
    unfold mt_okc at h1
    rw [if_neg (show ¬ kd ≤ 1 by omega), if_neg (show ¬ kd ≤ 3 by omega), if_pos (show kd ≤ 5 by omega)] at h1
    simp only [Bool.and_eq_true] at h1
    obtain ⟨⟨⟨⟨⟨a1, a2⟩, a3⟩, a4⟩, a5⟩, a6⟩ := h1
    refine ⟨mt_M_ok n f a1, mt_K_ok a2, mt_g (mt_in_mem a4) rfl, of_decide_eq_true a5, ?_, mt_D_ok a3⟩
    unfold mt_inC at a6
    split at a6
    · rename_i m' b' l' r' hw
      simp only [Bool.and_eq_true] at a6
      obtain ⟨⟨⟨e1, e2⟩, e3⟩, e4⟩ := a6
      have e1 := of_decide_eq_true e1
      have e2 := mt_beq_eq e2
      have e3 := Nat.eq_of_beq_eq_true e3
      have e4 := of_decide_eq_true e4
      subst e1 e2 e3 e4
      exact mt_g (mt_in_mem (q := (mt_inf z).2.2.1) (decide_eq_true hw)) rfl
    · cases a6
theorem mt_gi {own : String} {idx : Nat} {y : MethodName} {v : List Jvm.Cond} (h : Cond.methodLink own idx y ∈ mt_Ts) (hv : GoodIn tables_1 v) (hs : v.all mt_stayb = true) : GoodIn mt_Tg (.methodLink own idx y :: v) := by
  intro w hw
  rcases List.mem_cons.mp hw with rfl | hw
  · exact ⟨mt_g h rfl, Or.inl rfl⟩
  · exact ⟨mt_g (List.mem_append.mpr (Or.inr (hv w hw).1)) (List.all_eq_true.mp hs w hw), (hv w hw).2⟩
theorem mt_N8_ok (n : Nat) (f : Nat → Int32) : mv_okN8 mt_Nm mt_cl mt_Tg mt_Us (mt_G n f) := by
  intro y idx kd z n0 h
  obtain ⟨hst, p, hm⟩ := mt_pick3 h
  have h1 : mt_okc (mt_oc y) (idx, kd, z, n0, hst, p) = true := mt_all_of mt_okc_all hm
  have h8 : mt_ok8 (mt_oc y) (idx, kd, z, n0, hst, p) = true := mt_all_of mt_ok8_all hm
  have h79 := mt_okc_79
  simp only [Bool.and_eq_true] at h79
  obtain ⟨⟨⟨p1, p2⟩, p3⟩, p4⟩ := h79
  refine ⟨fun hk => ?_, fun hk => ?_, fun hk => ?_, fun hk => ?_, fun hk => ?_⟩
  · subst hk
    unfold mv_okM7
    rw [mt_cls]
    exact ⟨mt_g (mt_in_mem h1) rfl, mt_g (mt_mem_mem p1) rfl, mt_g (mt_mem_mem p2) rfl, mt_g (mt_mem_mem p3) rfl⟩
  · subst hk
    have hX := mt_okX
    simp only [Bool.and_eq_true] at hX
    obtain ⟨⟨x1, x2⟩, x3⟩ := hX
    refine ⟨⟨mt_T mt_X, ?_⟩, ?_⟩
    · have e1 := mt_cl_at (mt_lt x1)
      rw [of_decide_eq_true x2, Nat.eq_of_beq_eq_true x3] at e1
      exact e1
    · rw [mt_cls]
      intro w hw
      unfold mt_ok8 at h8
      rw [Bool.or_eq_true] at h8
      rcases h8 with h8 | h8
      · cases h8
      have h9 := List.all_eq_true.mp h8 w hw
      rw [Bool.or_eq_true] at h9
      rcases h9 with h9 | h9
      · rw [Bool.and_eq_true] at h9
        exact Or.inl (mt_g (mt_mem_mem h9.1) h9.2)
      · exact Or.inr (of_decide_eq_true h9)
  · subst hk
    unfold mv_okM9
    rw [mt_cls]
    exact ⟨mt_g (mt_in_mem h1) rfl, mt_g (mt_mem_mem p4) rfl, mt_g mt_objc rfl⟩
  · subst hk
    rw [mt_cls]
    exact mt_gi (mt_in_mem h1) mt_v6_in (Bool.and_eq_true_iff.mp mt_v64).1
  · subst hk
    rw [mt_cls]
    exact mt_gi (mt_in_mem h1) mt_v4_in (Bool.and_eq_true_iff.mp mt_v64).2
theorem mt_hand_of : ∀ (l : List (Nat × Nat × Nat × Nat)) (pc h ct : Nat), mv_hand l pc = some (h, ct) → ∃ e ∈ l, e.2.2.2 = ct
  | [], _, _, _, q => by cases q
  | (a, b, c, d) :: r, pc, h, ct, q => by
    unfold mv_hand at q
    split at q
    · cases q
      exact ⟨_, List.mem_cons_self, rfl⟩
    · obtain ⟨e, h1, h2⟩ := mt_hand_of r pc h ct q
      exact ⟨e, List.mem_cons_of_mem _ h1, h2⟩
theorem mt_G_ok (n : Nat) (f : Nat → Int32) : mv_okG mt_Nm mt_Cd mt_cl mt_L mt_Tg (mt_G n f) := by
  refine ⟨?_, ?_, ?_, ?_, ?_, ?_, fun y idx kd z n0 h => mt_calls n f h, ?_⟩
  · intro y pc i len h
    have h : (match decode (mt_Cd y) pc with | .ok q => some q | .error _ => none) = some (i, len) := h
    split at h
    · rename_i q hq
      cases h
      exact hq
    · cases h
  · intro y idx ci0 k0 h
    have h : (mt_pick mt_F y idx).map (fun e => (e.1, e.2.1)) = some (ci0, k0) := h
    rw [Option.map_eq_some_iff] at h
    obtain ⟨⟨ci, k, b, hst, p⟩, h1, h2⟩ := h
    cases h2
    obtain ⟨g1, g2, g3⟩ := mt_F_ok (mt_pick_of h1)
    refine ⟨g1, mt_gC_ok n f g2, fun hp hq => ?_⟩
    obtain ⟨q, hq1, hq2, hq3⟩ := mt_k_at g2
    have hQ : (match mt_m[y]?, mt_k[ci]? with | some q, some c => Nat.beq q.1 c.1 && decide (q.2.1 = "<init>") | _, _ => false) = true := hq
    rw [hq1] at hQ
    split at hQ
    · rename_i m0 c0 hm hc
      cases hc
      rw [Bool.and_eq_true] at hQ
      have e1 : (mt_Nm y).cls = mt_cn ci := by
        unfold mt_Nm
        rw [hm, hq3]
        show mt_own m0.1 = mt_own q.1
        rw [Nat.eq_of_beq_eq_true hQ.1]
      have e2 : (mt_Nm y).name = "<init>" := by
        unfold mt_Nm
        rw [hm]
        exact of_decide_eq_true hQ.2
      obtain ⟨C, T, N, c1, c2, -⟩ := g1
      obtain ⟨-, hr⟩ := mt_cl_of c1
      cases hr
      refine ⟨_, _, _, c1, ?_, g3 e1, e2⟩
      obtain ⟨fl, hfl⟩ : ∃ fl, (mt_fl ci)[k]? = some fl := ⟨_, List.getElem?_eq_getElem c2⟩
      obtain ⟨⟨q', hq', ho⟩, -⟩ := mt_okk_in g2 hfl
      rw [hq1] at hq'
      cases hq'
      rw [mt_T_at hfl, e1, hq3, ho]
    · cases hQ
  · intro y idx ci0 h
    have h : (mt_pick mt_N y idx).map (fun e => e.1) = some ci0 := h
    rw [Option.map_eq_some_iff] at h
    obtain ⟨⟨ci, p⟩, h1, h2⟩ := h
    cases h2
    have h3 := mt_all_of mt_okn_all (mt_pick_of h1)
    unfold mt_okn at h3
    rw [Bool.and_eq_true] at h3
    have hlt := mt_lt h3.1
    refine ⟨mt_gC_ok n f hlt, fun C T N hc => ?_⟩
    obtain ⟨-, hr⟩ := mt_cl_of hc
    cases hr
    obtain ⟨q, hq1, hq2, hq3⟩ := mt_k_at hlt
    have h5 := mt_kk hlt
    unfold mt_okk at h5
    rw [hq1] at h5
    simp only [Bool.and_eq_true] at h5
    obtain ⟨⟨⟨-, h5⟩, h6⟩, -⟩ := h5
    refine ⟨?_, ?_, mt_g (mt_in_mem h6) rfl⟩
    · rw [mt_cls]
      exact mt_g (mt_in_mem h3.2) rfl
    · show Cond.instantiable _ (match mt_k[ci]? with | some q => q.2.1 | none => 0) ∈ mt_Tg
      rw [hq1]
      exact mt_g (mt_in_mem h5) rfl
  · intro y idx t0 h
    have h : (mt_pick mt_A y idx).map (fun e => e.1) = some t0 := h
    rw [Option.map_eq_some_iff] at h
    obtain ⟨⟨t, p1, p2⟩, h1, h2⟩ := h
    cases h2
    have h3 := mt_all_of mt_oka_all (mt_pick_of h1)
    unfold mt_oka at h3
    split at h3
    · rename_i C hC
      rw [Bool.and_eq_true] at h3
      refine Or.inl ⟨C, hC, ?_, mt_g (mt_in_mem h3.2) rfl⟩
      rw [mt_cls]
      exact mt_g (mt_in_mem h3.1) rfl
    · rename_i ty hC
      rw [Bool.and_eq_true] at h3
      refine Or.inr ⟨ty, hC, ?_, mt_g (mt_in_mem h3.2) rfl⟩
      rw [mt_cls]
      exact mt_g (mt_in_mem h3.1) rfl
    · cases h3
  · intro y idx v h
    have h : (match mt_pick mt_K y idx with | some e => some (Value.int (Int32.ofInt e.1)) | none => (mt_pick mt_U y idx).map fun e => Value.ref (mv_big + 1 + e.1)) = some (.int v) := h
    split at h
    · rename_i e he
      cases h
      have h3 := mt_all_of mt_oki_all (mt_pick_of he)
      unfold mt_oki at h3
      rw [mt_cls]
      exact mt_g (mt_in_mem h3) rfl
    · rw [Option.map_eq_some_iff] at h
      obtain ⟨e, -, he⟩ := h
      cases he
  · intro y idx a b c h
    have h : (mt_pick mt_M y idx).map (fun e => (e.1, e.2.1, e.2.2.1)) = some (a, b, c) := h
    rw [Option.map_eq_some_iff] at h
    obtain ⟨⟨t, t1, t2, p1, p2, p3⟩, h1, h2⟩ := h
    cases h2
    have h3 := mt_all_of mt_okr_all (mt_pick_of h1)
    rw [Bool.or_eq_true] at h3
    have hac := mt_okac
    simp only [Bool.and_eq_true] at hac
    obtain ⟨⟨⟨⟨⟨k1, k2⟩, k3⟩, k4⟩, k5⟩, k6⟩ := hac
    have key : ∀ ty : FieldType, (ty = .int ∨ ty = .byte) → Cond.arrayClass ty ∈ mt_Tg → mt_okr (mt_oc y) (idx, t, t1, t2, p1, p2, p3) ty = true → mv_okGr mt_L mt_Tg (mt_Nm y).cls idx t t1 t2 := by
      intro ty hty hac h3
      refine ⟨ty, hty, hac, ?_⟩
      rw [mt_cls]
      unfold mt_okr at h3
      split at h3
      · rename_i hz
        simp only [Bool.and_eq_true] at h3
        obtain ⟨⟨⟨b1, b2⟩, b3⟩, b4⟩ := h3
        exact Or.inl ⟨hz, mt_is_at b1, mt_is_at b2, mt_g (mt_in_mem b3) rfl, mt_g (mt_in_mem b4) rfl⟩
      · rename_i hz
        simp only [Bool.and_eq_true] at h3
        obtain ⟨⟨⟨⟨⟨b1, b2⟩, b3⟩, b4⟩, b5⟩, b6⟩ := h3
        exact Or.inr ⟨Nat.pos_of_ne_zero hz, mt_is_at b1, mt_is_at b2, mt_is_at b3, mt_g (mt_in_mem b4) rfl, mt_g (mt_in_mem b5) rfl, mt_g (mt_in_mem b6) rfl⟩
    rcases h3 with h3 | h3
    · exact key .int (Or.inl rfl) (mt_g (mt_in_mem k1) rfl) h3
    · exact key .byte (Or.inr rfl) (mt_g (mt_in_mem k2) rfl) h3
  · intro y pc h ct hq
    have hq : mv_hand (mt_gH y) pc = some (h, ct) := hq
    obtain ⟨e, he, hct⟩ := mt_hand_of _ _ _ _ hq
    have hX := mt_okX
    simp only [Bool.and_eq_true] at hX
    obtain ⟨⟨x1, x2⟩, x3⟩ := hX
    unfold mt_gH at he
    split at he
    · rename_i z hz
      have hzy : z.1 = y := Nat.eq_of_beq_eq_true (List.find?_some (p := fun e : Nat × List (Nat × Nat × Nat × Nat) => Nat.beq e.1 y) hz)
      have h2 := List.all_eq_true.mp mt_okh_all z (List.mem_of_find?_eq_some hz)
      have h3 := List.all_eq_true.mp h2 e he
      rw [Bool.and_eq_true, hct, hzy] at h3
      refine ⟨Nat.pos_iff_ne_zero.mp (mt_lt h3.1), _, _, _, mt_cl_at (mt_lt x1), ?_⟩
      show Cond.classLink (mt_Nm y).cls ct (mt_cn mt_X) ∈ mt_Tg
      rw [of_decide_eq_true x2]
      exact mt_g (mt_mem_mem h3.2) rfl
    · exact absurd he List.not_mem_nil
end
section
/-! the law's start: what the tables' words give of the first state -/
theorem mt_str {own tx : String} {k : Nat} {A : Array Value} {s : State} (h : (Cond.stringRef own k tx).before A s = true) : ∃ a, vk_R own k tx a s := by
  have h1 := h
  simp only [Cond.before, Cond.holds, Cond.value, beq_iff_eq] at h1
  rw [Option.map_eq_some_iff] at h1
  obtain ⟨c0, -, h1⟩ := h1
  rw [Bool.and_eq_true] at h1
  obtain ⟨-, h1⟩ := h1
  cases hr : s.resolvedAt? own k with
  | none => rw [hr] at h1; cases h1
  | some r =>
    rw [hr] at h1
    cases r with
    | string a =>
      refine ⟨a, vk_R.of (A := A) h ?_⟩
      simp only [Term.eval]
      simp only [State.resolvedAt?] at hr
      cases hc : s.vm.findClass own with
      | none => rw [hc] at hr; cases hr
      | some c =>
        rw [hc] at hr
        cases hk : s.vm.classes[c]? with
        | none => simp [hk] at hr
        | some kk =>
          simp [hk] at hr ⊢
          rw [hr]
          rfl
    | _ => cases h1
theorem mt_kept_ls {o n d : String} {A : Array Value} {s : State} (h : (Cond.laysStatic o n d).before A s = true) : mv_kept s.heap.size (.laysStatic o n d) s := by
  intro args' s' hW hh
  have h1 : (Cond.laysStatic o n d).before A (s.setVm s'.vm) = true := Cond.before_shiftedFace (State.Shifted.of_warmed hW) _ rfl h
  have e1 : (s.setVm s'.vm).fieldFound? o n d = s'.fieldFound? o n d := rfl
  simp only [Cond.before, Cond.holds, Cond.value, beq_iff_eq, State.vm_setVm, e1] at h1 ⊢
  cases hc : s'.vm.findClass o with
  | none => rw [hc] at h1; cases h1
  | some c =>
    cases hf : s'.fieldFound? o n d with
    | none => rw [hc, hf] at h1; cases h1
    | some q =>
      obtain ⟨c', k, i, f⟩ := q
      rw [hc, hf] at h1
      dsimp only at h1 ⊢
      rw [Option.map_eq_some_iff] at h1
      obtain ⟨cell, h2, h3⟩ := h1
      rw [Option.bind_eq_some_iff] at h2
      obtain ⟨a, h4, h5⟩ := h2
      have h5 : s.heap[a]? = some cell := h5
      rw [Option.map_eq_some_iff]
      refine ⟨cell, ?_, h3⟩
      rw [Option.bind_eq_some_iff]
      exact ⟨a, h4, by rw [hh a (Array.getElem?_eq_some_iff.mp h5).1]; exact h5⟩
theorem mt_kept_ir {o n d : String} {A : Array Value} {s : State} (h : (Cond.isRef (.static o n d)).before A s = true) : mv_kept s.heap.size (.isRef (.static o n d)) s := by
  intro args' s' hW hh
  have h1 : (Cond.isRef (.static o n d)).before A (s.setVm s'.vm) = true := Cond.before_shiftedFace (State.Shifted.of_warmed hW) _ rfl h
  have e1 : (s.setVm s'.vm).fieldNamed? o n d true = s'.fieldNamed? o n d true := rfl
  simp only [Cond.before, Cond.holds, Cond.value, beq_iff_eq, Term.eval, e1] at h1 ⊢
  cases hf : s'.fieldNamed? o n d true with
  | none => rw [hf] at h1; cases h1
  | some q =>
    obtain ⟨c', k, i⟩ := q
    rw [hf] at h1
    simp only [Option.bind_eq_bind, Option.bind_some] at h1 ⊢
    cases hs : k.statics with
    | none => rw [hs] at h1; cases h1
    | some a =>
      rw [hs] at h1
      simp only [Option.bind_some] at h1 ⊢
      have e2 : (s.setVm s'.vm).heap[a]? = s.heap[a]? := rfl
      rw [e2] at h1
      cases hc : s.heap[a]? with
      | none => rw [hc] at h1; cases h1
      | some cell =>
        rw [hc] at h1
        rw [hh a (Array.getElem?_eq_some_iff.mp hc).1, hc]
        exact h1
/-- the classes are known -/
theorem mt_known {s : State} {args : Array Value} (hts : ∀ w ∈ mt_Tg, w.before args s = true) : ∃ D : va_G, ∀ (c : Nat) (q : vw_C), mt_cl[c]? = some q → u_Kn s q.1 q.2.1 q.2.2 (D.1 c) (D.2 c) := by
  have h : ∀ c, ∃ (cC : ClassId) (iS : Nat → Nat), c < mt_k.length → u_Kn s (mt_cn c) (mt_T c) (mt_fl c).length cC iS := by
    intro c
    by_cases hc : c < mt_k.length
    · obtain ⟨q, hq1, hq2, hq3⟩ := mt_k_at hc
      have h5 := mt_kk hc
      unfold mt_okk at h5
      rw [hq1] at h5
      simp only [Bool.and_eq_true] at h5
      obtain ⟨⟨⟨-, h5⟩, -⟩, -⟩ := h5
      obtain ⟨cC, iS, h6⟩ := u_known hts (mt_ws_in hc) (hts _ (mt_g (mt_in_mem h5) rfl))
      exact ⟨cC, iS, fun _ => h6⟩
    · exact ⟨0, fun _ => 0, fun h => absurd h hc⟩
  refine ⟨(fun c => Classical.choose (h c), fun c => Classical.choose (Classical.choose_spec (h c))), fun c q hq => ?_⟩
  obtain ⟨h1, h2⟩ := mt_cl_of hq
  subst h2
  exact Classical.choose_spec (Classical.choose_spec (h c)) h1
def mt_okLb : FieldType → Bool
  | .int => mt_mem (.arrayClass .int)
  | .byte => mt_mem (.arrayClass .byte)
  | .boolean => mt_mem (.arrayClass .boolean)
  | .object C => mt_mem (.arrayOver (.object C))
  | .array t => mt_mem (.arrayOver (.array t))
  | _ => false
set_option maxRecDepth 100000 in
theorem mt_okL_all : mt_L.all mt_okLb = true := by decide +kernel
theorem mt_arr {s : State} {args : Array Value} (hts : ∀ w ∈ mt_Tg, w.before args s = true) {ty : FieldType} (h : mt_okLb ty = true) : ∃ cA : ClassId, ArrOfT s cA ty ∧ va_RA s cA ty := by
  have prim : ∀ ty : FieldType, (∀ cA, va_RA s cA ty ↔ s.vm.findClass ("[" ++ ty.toString) = some cA) → mt_mem (.arrayClass ty) = true → ∃ cA : ClassId, ArrOfT s cA ty ∧ va_RA s cA ty := by
    intro ty hR hm
    obtain ⟨cA, kA, comp, h1, h2, h3⟩ := Cond.arrayClass_spec (hts _ (mt_g (mt_mem_mem hm) rfl))
    exact ⟨cA, fun n z => ⟨fun k h => (by cases h), kA, h2, comp, h3⟩, (hR cA).mpr h1⟩
  unfold mt_okLb at h
  split at h
  · exact prim _ (fun _ => Iff.rfl) h
  · exact prim _ (fun _ => Iff.rfl) h
  · exact prim _ (fun _ => Iff.rfl) h
  · obtain ⟨comp, c, k, hc, hi, hk, hkind, hn⟩ := Cond.arrayOver_spec (hts _ (mt_g (mt_mem_mem h) rfl))
    exact ⟨c, fun n z => ⟨fun k h => (by cases h), k, hk, comp, hkind⟩, k, comp, hk, hkind, hc, hn⟩
  · obtain ⟨comp, c, k, hc, hi, hk, hkind, hn⟩ := arrayOverA_spec (hts _ (mt_g (mt_mem_mem h) rfl))
    exact ⟨c, fun n z => ⟨fun k h => (by cases h), k, hk, comp, hkind⟩, hn⟩
  · cases h
theorem mt_arrs {s : State} {args : Array Value} (hts : ∀ w ∈ mt_Tg, w.before args s = true) : ∃ dA : Nat → Nat, ∀ (k : Nat) (q : ClassId × FieldType), (mv_tys dA mt_L)[k]? = some q → ArrOfT s q.1 q.2 ∧ va_RA s q.1 q.2 := by
  have h : ∀ t : Nat, ∃ cA : ClassId, ∀ ty, mt_L[t]? = some ty → ArrOfT s cA ty ∧ va_RA s cA ty := by
    intro t
    cases ht : mt_L[t]? with
    | none => exact ⟨0, fun ty h => by cases h⟩
    | some ty =>
      obtain ⟨cA, h1⟩ := mt_arr hts (List.all_eq_true.mp mt_okL_all ty (List.mem_of_getElem? ht))
      exact ⟨cA, fun ty' h => by cases h; exact h1⟩
  refine ⟨fun t => Classical.choose (h t), fun k q hq => ?_⟩
  have h1 := List.mem_of_getElem? hq
  unfold mv_tys at h1
  obtain ⟨t, -, h2⟩ := List.mem_filterMap.mp h1
  rw [Option.map_eq_some_iff] at h2
  obtain ⟨ty, h3, h4⟩ := h2
  subst h4
  exact Classical.choose_spec (h t) ty h3
def mt_uj (j : Nat) : Option (Nat × Nat × String) := (List.range mt_U.length).findSome? fun o => ((mt_U.getD o []).find? (fun e => Nat.beq e.2.1 j)).map fun e => (o, e.1, e.2.2.1)
set_option maxRecDepth 100000 in
theorem mt_oku_all : mt_all mt_U (fun o e => decide (mt_uj e.2.1 = some (o, e.1, e.2.2.1)) && mt_in e.2.2.2 (.stringRef (mt_own o) e.1 e.2.2.1)) = true := by decide +kernel
theorem mt_strs {s : State} {args : Array Value} (hts : ∀ w ∈ mt_Ts, w.before args s = true) : ∃ ka : Nat → Nat, ∀ (o : Nat) (e : Nat × Nat × String × (Nat × Nat)), e ∈ mt_U.getD o [] → vk_R (mt_own o) e.1 e.2.2.1 (ka e.2.1) s := by
  have h : ∀ j : Nat, ∃ a : Nat, ∀ (o : Nat) (e : Nat × Nat × String × (Nat × Nat)), e ∈ mt_U.getD o [] → e.2.1 = j → vk_R (mt_own o) e.1 e.2.2.1 a s := by
    intro j
    cases hj : mt_uj j with
    | none => exact ⟨0, fun o e he hj' => by
        have h1 := mt_all_of mt_oku_all he
        rw [Bool.and_eq_true] at h1
        have h2 := of_decide_eq_true h1.1
        rw [hj', hj] at h2
        cases h2⟩
    | some q =>
      by_cases hx : ∃ (o : Nat) (e : Nat × Nat × String × (Nat × Nat)), e ∈ mt_U.getD o [] ∧ e.2.1 = j
      · obtain ⟨o, e, he, hje⟩ := hx
        have h1 := mt_all_of mt_oku_all he
        rw [Bool.and_eq_true] at h1
        obtain ⟨a, ha⟩ := mt_str (hts _ (mt_in_mem h1.2))
        refine ⟨a, fun o' e' he' hj' => ?_⟩
        have h1' := mt_all_of mt_oku_all he'
        rw [Bool.and_eq_true] at h1'
        have h2 := of_decide_eq_true h1.1
        have h2' := of_decide_eq_true h1'.1
        rw [hje] at h2
        rw [hj', h2] at h2'
        have h3 := Option.some.inj h2'
        have h4 : o = o' := congrArg (fun q => q.1) h3
        have h5 : e.1 = e'.1 := congrArg (fun q => q.2.1) h3
        have h6 : e.2.2.1 = e'.2.2.1 := congrArg (fun q => q.2.2) h3
        rw [← h4, ← h5, ← h6]
        exact ha
      · exact ⟨0, fun o e he hje => absurd ⟨o, e, he, hje⟩ hx⟩
  exact ⟨fun j => Classical.choose (h j), fun o e he => Classical.choose_spec (h e.2.1) o e he rfl⟩
/-- the constants of text, by their pointers -/
theorem mt_T_ok {n : Nat} {f : Nat → Int32} {s : State} {b : Nat} {ka : Nat → Nat} (h : ∀ (o : Nat) (e : Nat × Nat × String × (Nat × Nat)), e ∈ mt_U.getD o [] → vk_R (mt_own o) e.1 e.2.2.1 (ka e.2.1) s) (z : Nat) : mv_okT mt_Nm (mt_G n f) (fun q => if q = 0 then b else ka (q - 1)) s z := by
  intro idx a ha
  have ha : (match mt_pick mt_K z idx with | some e => some (Value.int (Int32.ofInt e.1)) | none => (mt_pick mt_U z idx).map fun e => Value.ref (mv_big + 1 + e.1)) = some (.ref a) := ha
  split at ha
  · cases ha
  · rw [Option.map_eq_some_iff] at ha
    obtain ⟨⟨j, tx, p⟩, h1, h2⟩ := ha
    have h2 : mv_big + 1 + j = a := Value.ref.inj h2
    subst h2
    have h3 := h _ _ (mt_pick_of h1)
    have e1 : mv_big + 1 + j - mv_big = j + 1 := by omega
    refine ⟨by omega, tx, ?_⟩
    rw [mt_cls, e1]
    exact h3
/-! what is given at the start of the texts -/
def mt_gv : List Jvm.Cond := flatC (Jvm.Cond.and given_1 narrow_1)
def mt_xw (own : String) (k : Nat) (bs : List Int32) : List Jvm.Cond :=
  [.exactly (.string own k) "java/lang/String", .eq (.field (.string own k) "java/lang/String" "coder" "B") (.int 0), .arrayOf (.field (.string own k) "java/lang/String" "value" "[B") .byte, .eq (.length (.field (.string own k) "java/lang/String" "value" "[B")) (.int (Int32.ofNat bs.length))] ++ (List.range bs.length).map fun j => .eq (.elem (.field (.string own k) "java/lang/String" "value" "[B") (.int (Int32.ofNat j))) (.int (bs.getD j 0))
def mt_xok (e : Nat × Nat × Nat × List Int32) : Bool := decide ((mt_gv.drop e.2.2.1).take (4 + e.2.2.2.length) = mt_xw (mt_own e.1) e.2.1 e.2.2.2) && Nat.blt e.2.2.2.length 1000
set_option maxRecDepth 100000 in
theorem mt_xok_all : mt_TX.all mt_xok = true := by decide +kernel
/-- the numbers of the texts are those of the constants -/
def mt_xnum (o : Nat) (e : Nat × Nat × String × (Nat × Nat)) : Bool := match mt_TX[e.2.1]? with
  | some q => decide (mt_uj e.2.1 = some (q.1, q.2.1, e.2.2.1)) && Nat.beq q.1 o && Nat.beq q.2.1 e.1
  | none => false
def mt_xin (j : Nat) : Bool := match mt_TX[j]?, mt_uj j with
  | some q, some u => (mt_U.getD u.1 []).any fun e => Nat.beq e.2.1 j && Nat.beq e.1 q.2.1 && Nat.beq u.1 q.1
  | _, _ => false
set_option maxRecDepth 100000 in
theorem mt_xin_all : (List.range mt_TX.length).all mt_xin = true := by decide +kernel
theorem mt_xS {s : State} {args : Array Value} (hgv : (Jvm.Cond.and given_1 narrow_1).before args s = true) (hts : ∀ w ∈ mt_Ts, w.before args s = true) {ka : Nat → Nat} (hka : ∀ (o : Nat) (e : Nat × Nat × String × (Nat × Nat)), e ∈ mt_U.getD o [] → vk_R (mt_own o) e.1 e.2.2.1 (ka e.2.1) s) {j : Nat} {e : Nat × Nat × Nat × List Int32} (hj : mt_TX[j]? = some e) :
    e.2.2.2.length < 2 ^ 31 ∧ ∃ v : Nat, st_SA (fun q => s.heap.size ≤ q) (ka j) v e.2.2.2.length (fun i => e.2.2.2.getD i 0) s s.heap := by
  have hlt : j < mt_TX.length := (List.getElem?_eq_some_iff.mp hj).1
  have h1 := List.all_eq_true.mp mt_xin_all j (List.mem_range.mpr hlt)
  have h2 := List.all_eq_true.mp mt_xok_all e (List.mem_of_getElem? hj)
  unfold mt_xin at h1
  rw [hj] at h1
  split at h1
  · rename_i q u hq hu
    cases hq
    obtain ⟨e2, he2, h3⟩ := List.any_eq_true.mp h1
    simp only [Bool.and_eq_true] at h3
    obtain ⟨⟨h3, h4⟩, h5⟩ := h3
    have h3 := Nat.eq_of_beq_eq_true h3
    have h4 := Nat.eq_of_beq_eq_true h4
    have h5 := Nat.eq_of_beq_eq_true h5
    have hR := hka u.1 e2 he2
    rw [h3, h4, h5] at hR
    unfold mt_xok at h2
    rw [Bool.and_eq_true] at h2
    have h6 := of_decide_eq_true h2.1
    have h7 : e.2.2.2.length < 1000 := Nat.le_of_ble_eq_true h2.2
    refine ⟨by omega, ?_⟩
    have hall : ∀ w ∈ mt_xw (mt_own e.1) e.2.1 e.2.2.2, w.before args s = true := by
      intro w hw
      rw [← h6] at hw
      exact flat_of_before _ hgv w (List.mem_of_mem_drop (List.mem_of_mem_take hw))
    have hA : ∀ a : Nat, a < s.heap.size → ¬ s.heap.size ≤ a := fun a h => Nat.not_le.mpr h
    have i1 := hall (.exactly (.string (mt_own e.1) e.2.1) "java/lang/String") (by simp [mt_xw])
    have i2 := hall (.eq (.field (.string (mt_own e.1) e.2.1) "java/lang/String" "coder" "B") (.int 0)) (by simp [mt_xw])
    have i3 := hall (.arrayOf (.field (.string (mt_own e.1) e.2.1) "java/lang/String" "value" "[B") .byte) (by simp [mt_xw])
    have i4 := hall (.eq (.length (.field (.string (mt_own e.1) e.2.1) "java/lang/String" "value" "[B")) (.int (Int32.ofNat e.2.2.2.length))) (by simp [mt_xw])
    have i5 : ∀ k : Nat, k < e.2.2.2.length → (Cond.eq (.elem (.field (.string (mt_own e.1) e.2.1) "java/lang/String" "value" "[B") (.int (Int32.ofNat k))) (.int (e.2.2.2.getD k 0))).before args s = true := fun k hk => hall _ (List.mem_append.mpr (Or.inr (List.mem_map.mpr ⟨k, List.mem_range.mpr hk, rfl⟩)))
    obtain ⟨a, c, cA, kA, q1, q2, q3, q4, q5, q6, -⟩ := Cond.exactly_spec (args := args) (first := s) (o := none) (s := s) (idx := []) (t := .string (mt_own e.1) e.2.1) (cls := "java/lang/String") i1
    have ea : a = ka j := by
      have z1 := hR.2
      have z2 : (Term.string (mt_own e.1) e.2.1).eval args s none [] s = (Term.string (mt_own e.1) e.2.1).eval #[] s none [] s := rfl
      rw [z2, z1] at q1
      exact (Value.ref.inj (Option.some.inj q1)).symm
    subst ea
    obtain ⟨t, ht, hT⟩ := va_Tof (f := fun k => .int (e.2.2.2.getD k 0)) (A := fun q => s.heap.size ≤ q) (by omega) i3 (va_eqt i4) (fun k hk => va_eqt (i5 k hk)) hA
    have hg := flat_of_before _ hgv
    have hc : (Cond.eq (.static "java/lang/String" "COMPACT_STRINGS" "Z") (.int 1)).before args s = true := hg _ (by decide +kernel)
    have hf : (Cond.isRef (.static st_P "SIOOBE_FORMATTER" st_F)).before args s = true := hg _ (by decide +kernel)
    obtain ⟨fm, f1, f2⟩ := Cond.isRef_spec hf
    exact ⟨t, ⟨cA, q3, q5, by rw [q6]; exact q2, hA _ (Array.getElem?_eq_some_iff.mp q3).1⟩, vk_OFof q1 (va_eqt i2) hA, vk_OFof q1 ht hA, hT, va_Zof (hts _ (mt_mem_mem (by decide +kernel))) (hts _ (mt_mem_mem (by decide +kernel))) (va_eqt hc) hA, fm, f2, va_Zof (hts _ (mt_mem_mem (by decide +kernel))) (hts _ (mt_mem_mem (by decide +kernel))) f1 hA⟩
  · cases h1
end
section
/-! the claim, out of the small machine's run of the law -/
theorem mt_ch_t1 {j i : Nat} {w : Jvm.Cond} (hj : j < 16) (h : (mt_ch j)[i]? = some w) : w ∈ tables_1 := by
  have h1 : w ∈ mt_ch j := List.mem_of_getElem? h
  have h2 : w ∈ mt_ch j → w ∈ tables_1 := by
    unfold mt_ch tables_1
    split <;> intro h <;> first | (exact absurd h List.not_mem_nil) | (exact absurd hj (by decide)) | simp only [List.mem_append, h, true_or, or_true]
  exact h2 h1
theorem mt_pv_ok : ∀ q ∈ mt_pv, (q.1.cls ≠ "java/lang/invoke/MethodHandle" ∧ q.1.cls ≠ "java/lang/invoke/VarHandle") ∧ Cond.instantiable q.1.cls q.2 ∈ tables_1 ∧ Cond.privateMethod q.1 ∈ tables_1 ∧ Cond.instanceMethod q.1 ∈ tables_1 := by
  intro q hq
  obtain ⟨v, hv, rfl⟩ := List.mem_map.mp hq
  have h := List.all_eq_true.mp mt_okv_all v hv
  unfold mt_okv at h
  simp only [Bool.and_eq_true] at h
  obtain ⟨⟨⟨⟨⟨⟨h1, h2⟩, h3⟩, h4⟩, h5⟩, h6⟩, h7⟩ := h
  exact ⟨(mt_M_ok 0 (fun _ => 0) h7).2.2, mt_ch_t1 (mt_lt h4) (of_decide_eq_true h1), mt_ch_t1 (mt_lt h5) (of_decide_eq_true h2), mt_ch_t1 (mt_lt h6) (of_decide_eq_true h3)⟩
def R_law : String := "RefactorHouseLaw"
def lw_P (b : Addr) (xs : List Int32) (args : Array Value) (s : State) : Prop := args = #[.ref b] ∧ s.IntsAt b xs ∧ xs.length ≤ 3072 ∧ (Jvm.Cond.and given_1 narrow_1).before args s = true
def lw_Q (_ : Array Value) (s : State) (o : Outcome) (t : State) : Prop := o = .returned (some (.int 1)) ∧ Framed s o t [] 601024 7293034
def lw_Z (below : List Frame) (a : Array Value) (s : State) : State → Prop := fun t => ∃ o, t.status = .running ∧ Ended t below o ∧ lw_Q a s o t
def lw_At (p : Program) (e : Env) (s : State) (m : MethodId) (meth : Method) (c : Code) (b L : Nat) (xs : Nat → Int32) : Prop :=
  p.tables.exec = Jvm.exec ∧ c.code = code ∧ meth.sig.returnType = ret ∧ c.maxLocals = 4 ∧ s.vm.findClass R_law = some m.cls ∧ (∀ w ∈ mt_Ts, w.before #[Value.ref b] s = true) ∧ va_X b L xs s s.heap ∧ b < s.heap.size ∧ meth.locks = false ∧ (Jvm.Cond.and given_1 narrow_1).before #[Value.ref b] s = true ∧ e.platform.stackTraces = false ∧ c.exceptionTable.toList = [] ∧ meth.name = "law"
/-- where the small machine stands at the law's entry -/
def mt_S0 : mv_S := (0, [(0, .ref mv_big)], [], [], 601024, 7293034)
/-- the small machine's run of the law over the script ends with true -/
def mt_true (L : Nat) (xs : Nat → Int32) : Prop := ∃ (n : Nat) (hp : List va_E) (cb sb : Nat), mv_run (mt_G L xs) n 0 2048 84000 mt_S0 = some (.inr (some (.int 1)), hp, cb, sb)
set_option maxRecDepth 100000 in
theorem mt_law0 : (mt_inf 0).1 = 4 ∧ (mt_inf 0).2.1 = some .boolean ∧ mt_gH 0 = [] ∧ mt_Nm 0 = ⟨"RefactorHouseLaw", "law", "([I)Z"⟩ := by decide +kernel
theorem mt_start {p : Program} {e : Env} {s : State} {m : MethodId} {below : List Frame} {meth : Method} {c : Code} (l : Launch) {b L : Nat} {xs : Nat → Int32} (hrun : mt_true L xs) (C0 : lw_At p e s m meth c b L xs) : W p l e room_1 s m #[Value.ref b] below meth c s.heap [] 0 0 (lw_Z below #[Value.ref b] s) (entryFrame m ([Value.ref b] : List Value).toArray 4) := by
  obtain ⟨hx, hb, hret, hml, hown, hts, hX, hbl, hlocks, hgv, htr, hex, hname⟩ := C0
  obtain ⟨n, hp, cb, sb, hrun⟩ := hrun
  obtain ⟨q1, q2, q3, q4⟩ := mt_law0
  have htg : ∀ w ∈ mt_Tg, w.before #[Value.ref b] s = true := fun w hw => hts w (List.mem_filter.mp hw).1
  obtain ⟨D, hD⟩ := mt_known htg
  obtain ⟨dA, hA⟩ := mt_arrs htg
  obtain ⟨ka, hka⟩ := mt_strs hts
  obtain ⟨kt, hkt⟩ : ∃ kt : Nat → Nat, kt = fun q => if q = 0 then b else ka (q - 1) := ⟨_, rfl⟩
  have hflat := flat_of_before _ hgv
  have hls : ∀ {o n d : String}, Cond.laysStatic o n d ∈ tables_1 → mv_kept s.heap.size (.laysStatic o n d) s := fun hm => mt_kept_ls (hts _ (List.mem_append.mpr (Or.inr hm)))
  have hus : ∀ w ∈ mt_Us, mv_kept s.heap.size w s := by
    intro w hw
    simp only [mt_Us, List.mem_cons, List.not_mem_nil, or_false] at hw
    rcases hw with rfl | rfl | rfl | rfl
    · exact hls (by decide +kernel)
    · exact hls (by decide +kernel)
    · exact mt_kept_ir (hflat _ (by decide +kernel))
    · exact mt_kept_ir (hflat _ (by decide +kernel))
  have hC : mv_C mt_Nm mt_Cd mt_cl mt_L mt_Tg mt_Us (mt_G L xs) s.heap.size kt dA D 0 p e s m #[Value.ref b] meth c := by
    refine ⟨hx, hb, hlocks, ?_, ?_, ?_, htg, ⟨hD, hA⟩, Nat.le_refl _, ?_, ?_, ?_, htr, hus, Nat.le_refl _, ?_⟩
    · show meth.sig.returnType = (mt_inf 0).2.1
      rw [q2, hret]
      rfl
    · show c.maxLocals = (mt_inf 0).1
      rw [q1, hml]
    · rw [q4]
      exact hown
    · show c.exceptionTable.toList.map mv_proj = mt_gH 0
      rw [q3, hex]
      rfl
    · rw [q4]
      exact hname
    · rw [hkt]
      exact mt_T_ok hka
    · refine ⟨fun a k f hs => ?_, fun a tx hs => ?_⟩
      · skip
        have hs : (if a = mv_big then some (L, xs) else none) = some (k, f) := hs
        split at hs
        · rename_i ha
          cases hs
          subst ha
          have e1 : kt (mv_big - mv_big) = b := by
            rw [Nat.sub_self, hkt]
            rfl
          rw [e1]
          exact ⟨Nat.le_refl _, hbl, hX⟩
        · cases hs
      · have hs : (if a ≤ mv_big then none else (mt_TX[a - (mv_big + 1)]?).map fun e => e.2.2.2) = some tx := hs
        split at hs
        · cases hs
        · rename_i ha
          rw [Option.map_eq_some_iff] at hs
          obtain ⟨e9, h9, rfl⟩ := hs
          obtain ⟨g1, v, g2⟩ := mt_xS hgv hts hka h9
          have e1 : kt (a - mv_big) = ka (a - (mv_big + 1)) := by
            rw [hkt]
            show (if a - mv_big = 0 then b else ka (a - mv_big - 1)) = _
            rw [if_neg (by omega), show a - mv_big - 1 = a - (mv_big + 1) by omega]
          rw [e1]
          exact ⟨by omega, g1, v, g2⟩
  have hi : ∀ i j, i < mv_big → j < mv_big → mv_ad s.heap.size kt i = mv_ad s.heap.size kt j → i = j := by
    intro i j h1 h2 h
    rw [mv_ad, if_pos h1, mv_ad, if_pos h2] at h
    omega
  have hK := mv_sound (base := s.heap.size) (kt := kt) (dA := dA) (D := D) (mt_G_ok L xs) (mt_N8_ok L xs) (mt_gL_ok L xs) (mt_gE_ok L xs) mt_good hi n 0 2048 84000 mt_S0 _ hrun p l e room_1 s m #[Value.ref b] below meth c hC (Nat.le_refl _) (Nat.le_refl _)
  have hb0 : mv_ad s.heap.size kt mv_big = b := by
    rw [mv_ad_big (Nat.le_refl _), Nat.sub_self, hkt]
    rfl
  have hent : entryFrame m ([Value.ref b] : List Value).toArray 4 = F0 m 0 ((lg_sl ([.ref b]) ++ List.replicate (4 - (lg_sl ([.ref b])).length) Slot.unset).toArray) [] := lg_entry_eq m _ _
  have hl := lv_entry ([.ref b]) (n := 4) (Nat.le_of_ble_eq_true rfl)
  rw [hent]
  have hW := hK s.heap ((lg_sl ([.ref b]) ++ List.replicate (4 - (lg_sl ([.ref b])).length) Slot.unset).toArray) [] 0 0 ⟨by
    show lv_has _ (mt_inf 0).1 [(0, .ref (mv_ad s.heap.size kt mv_big))]
    rw [hb0, q1]
    exact hl, fun k q h => by simp [mt_S0, mv_w] at h, rfl, va_S.rf, Nat.le_of_ble_eq_true rfl, Nat.le_of_ble_eq_true rfl, Nat.le_of_ble_eq_true rfl⟩
  refine mv_mono (fun t ht => ?_) hW
  obtain ⟨o, h1, h2, h3, -, -, -, h7, ⟨L1, k, n1, h8, h9, h10, h11⟩, -⟩ := ht
  have h3 : o = .returned (some (.int 1)) := h3
  refine ⟨o, h1, h2, h3, ⟨_, h3⟩, h7, ?_⟩
  have h8 : k + cb ≤ 601024 := h8
  have h9 : n1 + sb ≤ 7293034 := h9
  exact h10.weaken (fun y hy hlt => absurd (h11 y hy) (Nat.not_le.mpr hlt)) (by omega) (by omega)
end
section
/-! the claim (begun with kit/laws' skeleton) -/
set_option maxHeartbeats 4000000 in
theorem lw_walk (hall : ∀ (L : Nat) (xs : Nat → Int32), L ≤ 3072 → mt_true L xs) (l : Launch) (hfl : l.flags = flags0) (b : Addr) (xs : List Int32) : MetFree l x (headSpec (Jvm.Cond.code x code maxLocals ret :: tables_1) room_1) (lw_P b xs) (fun _ _ _ _ _ => True) lw_Q := by
  refine MetFree.of_bodyS (code := code) (maxLocals := maxLocals) (ret := ret) (by decide) ?_ ?_
  · intro args s m h hn
    obtain ⟨meth, c, h1, h2, h3, h4, h5, h6, -, -⟩ := Cond.code_spec hn (atoms_spec (ws := Jvm.Cond.code x code maxLocals ret :: tables_1) h _ List.mem_cons_self)
    exact ⟨meth, c, h1, h2, h3, h4, h5, h6⟩
  · intro p e s m args below meth c s₁ B hml0 hP _
    obtain ⟨rfl, hx, hbd, hgv⟩ := hP
    obtain ⟨scr, harrAt, hlist, hof, hsmall⟩ := hx
    obtain ⟨hcb, hkn, -, -⟩ := State.arrayAt?_spec harrAt
    have hown : s.vm.findClass R_law = some m.cls := findClass_of_methodNamed B.named
    have hts0 : ∀ c ∈ (Jvm.Cond.code x code maxLocals ret :: tables_1), c.before #[Value.ref b] s = true := atoms_spec (ws := Jvm.Cond.code x code maxLocals ret :: tables_1) B.pre
    have hts : ∀ w ∈ mt_Ts, w.before #[Value.ref b] s = true := k2_hts_sels mt_pv (fun w hw => hts0 w (List.mem_cons_of_mem _ hw)) mt_pv_ok
    have hml : c.maxLocals = 4 := B.maxLocals_eq (hts0 _ List.mem_cons_self)
    have X₀ : Stand p l e room_1 s m #[Value.ref b] below meth c s₁ [] 0 0 := Stand.of_body B
    have hh0 : s₁.heap = s.heap := by rw [B.state]; rfl
    have hsz : scr.slots.size = xs.length := by rw [← Array.length_toList, hlist, List.length_map]
    have hval : ∀ j : Nat, j < xs.length → scr.slots[j]? = some (.int (xs.getD j 0)) := fun j hj => by
      rw [← Array.getElem?_toList, hlist]
      simp [hj]
    have hbl : b < s.heap.size := (Array.getElem?_eq_some_iff.mp hcb).1
    have hX : va_X b xs.length (fun j => xs.getD j 0) s s.heap := ⟨scr, hcb, hof, hkn, hsz, hval⟩
    have K : W p l e room_1 s m #[Value.ref b] below meth c s₁.heap [] 0 0 (lw_Z below #[Value.ref b] s) (entryFrame m ([Value.ref b] : List Value).toArray 4) := by
      rw [hh0]
      obtain ⟨meth', c', g1, g2, -, -, -, -, g7, -⟩ := Cond.code_spec B.named (hts0 _ List.mem_cons_self)
      have hm := X₀.method
      have hc := X₀.code
      cases g1.symm.trans hm
      cases g2.symm.trans hc
      have g8 : c.exceptionTable.size = 0 := by simpa [Array.isEmpty] using g7
      exact mt_start l (hall _ _ hbd) ⟨B.exec, B.bytes, B.returns, hml, hown, hts, hX, hbl, B.notSynchronized, hgv, Launch.traces_off hfl X₀.admits, List.eq_nil_of_length_eq_zero (by simpa using g8), (name_of_methodNamed B.named hm).1⟩
    obtain ⟨t, a1, o, b1, b2, b3⟩ := K s₁ rfl X₀
    exact ⟨t, o, a1, b1, b2, b3⟩
theorem lw_pre_spec {args : Array Value} {s : State} (h : (Jvm.Cond.and given_1 narrow_1).before args s = true) (hr : rest_1_c.before args s = true) : ∃ (b : Addr) (xs : List Int32), lw_P b xs args s := by
  have hs := flat_of_before _ h
  have hq := flat_of_before _ hr
  have hc : (Cond.count 1).before args s = true := hs _ (by decide +kernel)
  have harr : (Cond.arrayOf (.arg 0) .int).before args s = true := hs _ (by decide +kernel)
  have hle : (Cond.le (.length (.arg 0)) (.int 3072)).before args s = true := hs _ (by decide +kernel)
  have hlen : (Cond.isInt (.length (.arg 0))).before args s = true := hq _ (by decide +kernel)
  have hall : (Cond.all (.arg 0) (.isInt (.elem (.arg 0) (.index 0)))).before args s = true := hq _ (by decide +kernel)
  obtain ⟨b, xs, hb, hx⟩ := State.ints_of_pre rfl harr hlen hall
  have hsm : xs.length < 2 ^ 31 := hx.choose_spec.2.2.2
  have hev : (Term.length (.arg 0)).eval args s none [] s = some (.int xs.length.toInt32) := hx.length_eval hb
  have hv := Cond.le_ints hev (show (Term.int 3072).eval args s none [] s = some (.int 3072) from rfl)
  have hd : xs.length.toInt32 ≤ 3072 := by
    simpa [Cond.before, Cond.holds, hv] using hle
  have hN : xs.length ≤ 3072 := (Int32.ofNat_le_ofNat hsm (by decide)).mp (show Int32.ofNat xs.length ≤ Int32.ofNat 3072 from hd)
  exact ⟨b, xs, Cond.one_arg hc (show args[0]? = some (.ref b) from hb), hx, hN, h⟩
theorem lw_comes (hall : ∀ (L : Nat) (xs : Nat → Int32), L ≤ 3072 → mt_true L xs) (l : Launch) (hfl : l.flags = flags0) : Comes l x (Jvm.Cond.code x code maxLocals ret :: tables_1) room_1 (fun tb e args s => Calls_1 tb e args s ∧ rest_1 tb e args s ∧ Pre_1 tb e args s)
    (fun _ _ args s o t => lw_Q args s o t) := by
  intro p e ha hc hk s m args below hf hfit hheap happ hpre
  obtain ⟨b, xs, hP⟩ := lw_pre_spec hpre.2.2 hpre.2.1
  obtain ⟨k, o, h1, h2, h3, hQ⟩ := lw_walk hall l hfl b xs p e ha hc hk s m args below hf ((Spec.applies_iff_loose hf).mp happ).1 hP trivial
  exact ⟨k, o, h1, h2, h3, hQ⟩
theorem lw_frame {s t : State} {o : Outcome} {args : Array Value} (h : Framed s o t [] 601024 7293034) :
    Framed s o t (fieldLocs frame_1_writes args s ++ arrayLocs frame_1_arrays args s ++ staticLocs frame_1_statics s) 601024 7293034 := h
theorem lw_limb (hall : ∀ (L : Nat) (xs : Nat → Int32), L ≤ 3072 → mt_true L xs) (L : Cond) (hL : ∀ (args : Array Value) (s t : State), L.after args s (.returned (some (.int 1))) t = true) :
    ArmFor flags0 classFile x code maxLocals ret World_1 tables_1 room_1 Calls_1 rest_1 Pre_1
      (fun tb e a s o t => postC L tb e a s o t ∧ Framed s o t (fieldLocs frame_1_writes a s ++ arrayLocs frame_1_arrays a s ++ staticLocs frame_1_statics s) 601024 7293034) := by
  intro l hfl _ _ p e ha hc hk s m args below hf hfit hheap happ hpre
  obtain ⟨k, o, h1, h2, h3, rfl, hF⟩ := lw_comes hall l hfl p e ha hc hk s m args below hf hfit hheap happ hpre
  exact ⟨k, _, h1, h2, h3, hL args s _, lw_frame hF⟩
/-- the claim, where the small machine's run of the law ends with true over every script -/
theorem mt_claim (hall : ∀ (L : Nat) (xs : Nat → Int32), L ≤ 3072 → mt_true L xs) : Claimed_1_1 ∧ Claimed_1_2 := ⟨lw_limb hall limb_1_1 (fun args s t => by simp [limb_1_1, Cond.after, Cond.holds, Cond.value]), lw_limb hall limb_1_2 (fun args s t => Cond.after_iff.mpr (by
  first | (rw [show limb_1_2 = Cond.eq .result (.int 1) from rfl, Cond.eq_ints (x := 1) (y := 1) rfl rfl]; simp; done) | (simp [limb_1_2, Cond.value, Term.eval]; done)))⟩
end
section
/-! kinds: twice the type of an array; twice an object's class and 1 -/
def sx_fkT : List (List Nat) := [[2, 0, 3, 5, 7, 9, 11, 13, 17, 15, 15, 0, 0, 0, 0, 0, 0, 0, 0, 0], [0, 6, 0, 0, 15, 0, 0, 0, 0, 0, 0, 0, 0, 19, 21, 0, 0, 23], [8, 0, 15], [0, 0, 15, 0, 0, 0, 0, 0, 0, 0, 0, 0, 10, 0, 10, 0, 10, 0, 0], [0, 0, 0, 0, 0, 2, 0, 0, 0, 0, 15], [9, 15, 2, 0, 0, 19, 23, 21, 21, 19, 0], [15, 15, 23, 0, 0, 0, 0, 0, 6, 0, 0, 0, 0, 0, 0], [12, 0, 0, 0, 0, 0, 8, 0, 6, 0, 14, 0, 8, 0, 8, 0, 0, 0, 0], [12, 10, 0, 0, 0], [0, 0, 0, 0, 0, 0, 0, 0, 0, 19, 19, 19, 19, 23, 21, 0, 0, 0, 19], [0, 0, 0, 0, 0, 0, 21, 21, 21, 21, 23, 23, 19, 19], [0, 0, 0, 0, 0, 0, 0, 0, 0, 23, 23, 23, 23, 23, 19, 21, 19, 0], [2, 0, 27, 0, 0, 27, 29, 0, 0, 0, 0, 0, 0, 0, 0, 0, 0, 0, 0, 0, 0, 0, 0, 0, 0, 0, 0, 0, 0, 0, 0, 0, 0, 0, 0, 0, 0, 0, 0, 0, 0, 0, 0, 0, 0, 0, 0, 0, 0, 0, 0, 0, 29, 29, 29, 29, 0, 16, 0, 0, 0, 0, 0, 0, 0, 0, 0, 4, 0, 0, 0, 0, 0, 2, 0, 2, 0, 0, 0, 0, 0, 0, 4, 0, 0, 0, 0, 0, 0, 0, 0, 0, 0, 0, 0, 0, 0, 0, 0, 0, 0, 4, 0, 0, 0, 0, 0, 0, 0, 0, 0, 0], [], [12, 0, 31, 0, 0, 0, 0, 0, 0, 0, 0, 0, 0, 0, 0, 0, 0, 0, 0, 0, 0, 4, 0, 0, 0, 0, 0, 0, 0, 0, 0, 0, 0, 0, 0, 0, 0, 0, 0, 0, 0, 0, 0, 0, 0, 0, 0, 0, 0, 0, 0, 0, 0, 0, 0, 0, 0, 0, 25], [0, 0, 0, 0, 0, 0]]
def sx_fk (ci k : Nat) : Nat := (sx_fkT.getD ci []).getD k 0
def sx_ekT : List Nat := [0, 0, 0, 23, 19, 0, 2, 21, 12]
def sx_ek (t : Nat) : Nat := sx_ekT.getD t 0
/-- final fields of the first objects, by class and sort: place; 0 and how far behind the object, or 1 and where; kind -/
def sx_finT : List (List (List (Nat × Nat × Nat × Nat × Nat))) := [[[(0, 0, 1, 2, 4000), (2, 0, 2, 3, 0), (3, 0, 6, 5, 0), (4, 0, 9, 7, 0), (5, 0, 79, 9, 0), (6, 0, 88, 11, 0), (7, 0, 90, 13, 0), (8, 0, 111, 17, 0), (13, 0, 159, 0, 50), (16, 0, 160, 0, 5), (17, 0, 161, 0, 300), (18, 0, 162, 0, 8), (19, 0, 163, 0, 300)]], [[(0, 0, 1, 0, 4096), (1, 0, 2, 6, 200), (2, 0, 3, 0, 200)]], [[(0, 0, 1, 8, 192), (1, 0, 2, 0, 5)]], [[(0, 0, 1, 0, 5), (1, 0, 2, 0, 300), (5, 0, 3, 0, 26040), (7, 0, 4, 0, 76800), (9, 0, 5, 0, 401), (10, 0, 6, 0, 401), (11, 0, 7, 0, 192), (12, 0, 8, 10, 41), (14, 0, 50, 10, 9), (15, 0, 60, 0, 9), (16, 0, 61, 10, 8)]], [[(0, 0, 1, 0, 2416), (1, 0, 2, 0, 2416), (2, 0, 3, 0, 2416), (3, 0, 4, 0, 2416), (5, 0, 5, 2, 12010), (6, 0, 6, 0, 12010), (8, 0, 7, 0, 4), (9, 0, 8, 0, 12000)]], [[(0, 1, 79, 9, 0), (10, 0, 1, 0, 9)]], [[(0, 0, 1, 15, 0), (6, 0, 14, 0, 2408), (8, 0, 15, 6, 26), (9, 0, 16, 0, 2408), (10, 0, 17, 0, 2408), (11, 0, 18, 0, 2408), (12, 0, 19, 0, 1000), (13, 0, 20, 0, 1000)]], [[(0, 0, 2, 12, 1), (1, 0, 4, 0, 1), (2, 0, 5, 0, 108), (3, 0, 6, 0, 108), (4, 0, 7, 0, 108), (5, 0, 8, 0, 108), (6, 0, 9, 8, 108), (8, 0, 10, 6, 108), (10, 0, 11, 14, 108), (12, 0, 12, 8, 108), (14, 0, 1, 8, 8)], [(0, 0, 2, 12, 4), (1, 0, 7, 0, 4), (2, 0, 8, 0, 2408), (3, 0, 9, 0, 2408), (4, 0, 10, 0, 2408), (5, 0, 11, 0, 2408), (6, 0, 12, 8, 2408), (8, 0, 13, 6, 2408), (10, 0, 14, 14, 2408), (12, 0, 15, 8, 2408), (14, 0, 1, 8, 8)]], [[(0, 0, 1, 12, 13), (1, 0, 2, 10, 13)]], [], [], [], [[(0, 0, 1, 2, 4000), (2, 0, 2, 27, 0), (5, 0, 3, 27, 0), (13, 0, 4, 0, 300), (14, 0, 5, 0, 50), (19, 0, 6, 0, 2408), (20, 0, 7, 0, 401), (21, 0, 8, 0, 401), (34, 0, 14, 0, 2408), (35, 0, 15, 0, 8), (36, 0, 16, 0, 8), (37, 0, 17, 0, 4816), (38, 0, 18, 0, 4816), (50, 0, 26, 0, 19264), (51, 0, 27, 0, 19264), (55, 0, 169, 29, 0), (57, 0, 216, 16, 13), (58, 0, 282, 0, 52), (73, 0, 291, 2, 256), (75, 0, 292, 2, 4000), (79, 0, 295, 0, 12000), (80, 0, 296, 0, 4), (81, 0, 297, 0, 2408), (82, 0, 298, 4, 2408), (85, 0, 299, 0, 4816), (90, 0, 300, 0, 26), (92, 0, 301, 0, 1000), (93, 0, 302, 0, 1000), (94, 0, 303, 0, 2408), (95, 0, 304, 0, 2408), (96, 0, 305, 0, 2408), (97, 0, 306, 0, 2408), (98, 0, 307, 0, 2408), (99, 0, 308, 0, 2408), (101, 0, 309, 4, 2408), (109, 0, 310, 0, 300), (110, 0, 311, 0, 8), (111, 0, 312, 0, 300)]], [[]], [[(0, 0, 1, 12, 4), (1, 0, 6, 0, 4), (2, 0, 7, 31, 0), (3, 0, 13, 0, 5), (5, 0, 14, 0, 4816), (6, 0, 15, 0, 4816), (7, 0, 16, 0, 4816), (8, 0, 17, 0, 4816), (9, 0, 18, 0, 4816), (10, 0, 19, 0, 4816), (11, 0, 20, 0, 4816), (12, 0, 21, 0, 4816), (13, 0, 22, 0, 4816), (14, 0, 23, 0, 4816), (15, 0, 24, 0, 4816), (17, 0, 25, 0, 2408), (18, 0, 26, 0, 2408), (19, 0, 27, 0, 2408), (20, 0, 28, 0, 2408), (21, 0, 29, 4, 2408), (22, 0, 30, 0, 2408), (23, 0, 31, 0, 2408), (24, 0, 32, 0, 2408), (25, 0, 33, 0, 2408), (26, 0, 34, 0, 2408), (28, 0, 35, 0, 8), (29, 0, 36, 0, 8), (30, 0, 37, 0, 2408), (31, 0, 38, 0, 2408), (32, 0, 39, 0, 2408), (44, 0, 40, 0, 26), (47, 0, 41, 0, 2408), (52, 0, 42, 0, 192), (53, 0, 43, 0, 192), (54, 0, 44, 0, 2408), (55, 0, 45, 0, 8), (56, 0, 46, 0, 12000), (58, 1, 164, 25, 0)]], [[(0, 0, 1, 0, 2408), (1, 0, 2, 0, 2408), (2, 0, 3, 0, 2408), (3, 0, 4, 0, 2408), (4, 0, 5, 0, 2408)]]]
def sx_fin (ci v k : Nat) : Option (Nat × Nat × Nat × Nat) := (((sx_finT.getD ci []).getD v []).find? (fun e => Nat.beq e.1 k)).map fun e => e.2
def sx_tg (a sg off : Nat) : Nat := match sg with
  | 0 => a + off
  | _ => off
/-- the kinds of what the methods return -/
def sx_rkT : List Nat := [0, 0, 0, 0, 0, 0, 0, 0, 0, 0, 0, 0, 0, 0, 0, 0, 0, 0, 0, 0, 0, 0, 0, 0, 0, 0, 0, 0, 0, 0, 0, 0, 0, 0, 0, 0, 0, 0, 0, 19, 0, 0, 19, 0, 0, 21, 0, 0, 0, 0, 21, 0, 23, 23, 23, 23, 23, 0, 0, 0, 23, 0, 23, 0, 0, 0, 0, 0, 0, 0, 0, 0, 0, 0, 0, 0, 0, 0, 0, 19, 0, 0, 0, 0, 0, 0, 0, 0, 0, 0, 0, 0, 19, 0, 19, 0, 0, 0, 19, 19, 0, 0, 19, 0, 19, 0, 0, 0, 0, 0, 0, 0, 0, 0, 0, 0, 0, 0, 0, 19, 0, 0, 19, 0, 23, 0, 0, 0, 19, 0, 19, 0, 0, 0, 0, 0, 0, 0, 0, 0, 0, 0, 0, 0, 0, 0, 0, 0, 0, 0, 0, 0, 0, 0, 0, 0, 0, 0, 0, 0, 0, 0, 0, 0, 0, 0, 0, 0, 0, 0, 0, 0, 0, 0, 0, 0, 0, 0, 0, 0, 0, 0, 0, 0, 21, 0, 0, 0, 0, 0, 0, 0, 0, 0, 0, 0, 0, 0, 0, 21, 0, 0, 0, 0, 0, 0, 0, 0, 0, 0, 0, 0, 0, 0, 0, 0, 0, 0, 0, 0, 0, 0, 0, 19, 0, 0, 19, 0, 0, 0, 0, 0, 0, 0, 0, 0, 0, 0, 0, 0, 0, 0, 0, 19, 0, 0, 19, 0, 0, 0, 0, 0, 0, 0, 0, 0, 0, 0, 0, 0, 0, 0, 0, 0, 0, 0, 23, 0, 0, 0, 23, 0, 0, 0, 0, 0, 0, 0, 0, 0, 0, 0, 0, 0, 0, 0, 0, 0, 0, 0, 0, 0, 0, 0, 0, 0, 0, 0, 0, 0, 0, 0, 0, 0, 0, 0, 0, 0, 0, 0, 0, 0, 0, 0, 0, 0, 0, 0, 0, 0, 0, 0, 0, 0, 0, 0, 0, 0, 0, 0, 0, 0, 0, 0, 0, 0, 0, 0, 0, 0, 0, 0, 0, 0, 0, 0, 0, 0, 0, 0, 0, 0, 0, 0, 0, 0, 0, 0, 0, 0, 0, 0, 0, 0, 0, 0, 0, 0, 0, 0, 0, 0, 0, 0, 0, 0, 0, 0, 0, 0, 0, 0, 0, 0, 0, 0, 0, 0, 0, 0, 0, 0, 0, 0, 0, 0, 0, 0, 0, 0, 0, 0, 0, 0, 0, 0, 0, 0, 0, 0, 0, 0, 0, 0, 0, 0, 0, 0, 0, 0, 0, 0, 0, 0, 0, 0, 0, 0, 0, 0, 0, 0, 0, 0, 0, 0, 0, 0, 4, 0, 0, 0, 0, 0, 0, 0, 0, 0, 0, 0, 0, 0, 0, 0, 0, 0, 0, 0, 0, 0, 0, 0, 0, 0, 0, 0, 0, 0, 0, 0, 0, 0, 0, 0, 0, 0, 0, 0, 0, 0, 0, 0, 0, 0, 0, 0, 0, 0, 0, 0, 0, 0, 0, 0, 0, 0, 0, 0, 0, 0, 0, 0, 0, 0, 0]
def sx_rk (z : Nat) : Nat := sx_rkT.getD z 0
/-- what the methods return: nothing, an int, a pointer -/
def sx_rtT : List Nat := [1, 0, 0, 0, 0, 0, 0, 0, 0, 0, 1, 0, 1, 1, 0, 1, 1, 0, 0, 0, 0, 0, 1, 1, 1, 1, 1, 1, 1, 1, 1, 1, 1, 1, 1, 0, 0, 0, 0, 2, 0, 0, 2, 1, 0, 2, 0, 0, 0, 0, 2, 0, 2, 2, 2, 2, 2, 0, 0, 1, 2, 1, 2, 1, 0, 0, 0, 0, 1, 1, 1, 1, 1, 1, 1, 1, 1, 0, 0, 2, 0, 1, 0, 1, 0, 1, 0, 1, 0, 1, 1, 1, 2, 1, 2, 1, 1, 1, 2, 2, 1, 1, 2, 1, 2, 1, 1, 1, 1, 1, 0, 1, 0, 1, 0, 0, 0, 0, 1, 2, 0, 1, 2, 1, 2, 1, 1, 1, 2, 1, 2, 1, 1, 1, 1, 1, 1, 1, 1, 1, 1, 0, 1, 0, 0, 1, 0, 0, 0, 1, 1, 0, 0, 0, 0, 1, 1, 0, 0, 0, 1, 1, 0, 0, 0, 0, 0, 0, 0, 0, 0, 0, 0, 0, 1, 1, 1, 1, 1, 0, 0, 1, 1, 1, 2, 1, 1, 1, 1, 0, 1, 0, 0, 0, 0, 1, 1, 1, 1, 2, 1, 1, 1, 0, 0, 0, 0, 1, 0, 0, 0, 1, 1, 1, 1, 1, 0, 0, 0, 1, 1, 0, 1, 2, 1, 1, 2, 1, 1, 0, 0, 0, 1, 0, 1, 1, 0, 0, 1, 0, 0, 0, 1, 2, 1, 1, 2, 1, 1, 1, 1, 0, 0, 1, 1, 0, 1, 1, 1, 1, 1, 1, 1, 1, 1, 1, 2, 1, 1, 1, 2, 1, 0, 0, 1, 1, 1, 1, 1, 0, 0, 0, 1, 0, 1, 0, 0, 1, 1, 1, 1, 1, 1, 1, 1, 0, 1, 0, 0, 1, 0, 1, 1, 1, 1, 0, 1, 1, 0, 1, 1, 0, 1, 1, 1, 1, 1, 1, 0, 1, 1, 1, 0, 1, 1, 1, 1, 1, 1, 1, 1, 1, 0, 0, 0, 1, 0, 1, 1, 1, 0, 0, 0, 1, 1, 1, 1, 1, 1, 1, 1, 1, 1, 1, 1, 1, 1, 1, 0, 1, 0, 0, 0, 0, 1, 0, 1, 1, 1, 0, 0, 0, 1, 1, 1, 1, 1, 1, 1, 1, 1, 1, 1, 1, 1, 1, 1, 1, 1, 1, 1, 1, 1, 1, 1, 1, 0, 1, 0, 1, 2, 0, 0, 0, 0, 0, 0, 0, 0, 1, 1, 1, 0, 0, 0, 0, 1, 0, 0, 1, 1, 0, 0, 1, 1, 1, 1, 1, 1, 1, 0, 1, 1, 1, 1, 0, 1, 0, 2, 0, 1, 0, 0, 1, 1, 1, 0, 0, 1, 1, 1, 0, 1, 1, 1, 1, 0, 0, 0, 1, 1, 0, 0, 0, 1, 1, 1, 1, 0, 1, 1, 1, 1, 0, 1, 1, 1, 1, 1, 1, 1, 1, 1, 0, 1, 1, 1, 1, 1, 1, 0, 0, 1, 1, 1, 1, 1, 1, 1, 1, 1, 1, 0, 1, 1]
def sx_rt (z : Nat) : Nat := sx_rtT.getD z 0
end
section
/-! memory as functions, and what a run from a place comes to (me_): a tree of words over it, for Lean to reason in -/
def mv_ends (G : mv_G) (y fb lb : Nat) (S : mv_S) (E : mv_E) : Prop := ∃ m, mv_run G m y fb lb S = some E
def en_ok : Instr → Bool
  | .invokestatic _ => false
  | .invokespecial _ => false
  | .invokevirtual _ => false
  | .new _ => false
  | .iaload => false
  | .aastore => false
  | .arraylength => false
  | .ireturn => false
  | .areturn => false
  | .return_ => false
  | .athrow => false
  | _ => true
theorem en_nat_none {G : mv_G} {y fb lb n : Nat} {S : mv_S} {i : Instr} (hI : mv_gI G y S.1 = some (i, n)) (hi : en_ok i = true) : mv_nat G y fb lb S = none := by
  unfold mv_nat
  rw [hI]
  cases i <;> first | rfl | cases hi
def en_has (lo : List (Nat × Value)) (i : Nat) (v : Value) : Prop := ∃ j, mv_find i lo 0 = some (j, v)
theorem en_find_keep {i a : Nat} (hne : i ≠ a) : ∀ (l : List (Nat × Value)) (k k' j : Nat) (q : Value), q.category = 1 → mv_find i l k = some (j, q) → ∃ j', mv_find i (mv_keep a l) k' = some (j', q)
  | [], _, _, _, _, _, h => by cases h
  | p :: r, k, k', j, q, hc, h => by
    unfold mv_find at h
    unfold mv_keep
    rw [List.filter_cons]
    split at h
    · rename_i e
      cases h
      have e1 : (!(p.1 == a) && !(p.1 + 1 == a && p.2.category == 2)) = true := by
        rw [e]
        simp [hne, hc]
      rw [if_pos e1]
      unfold mv_find
      rw [if_pos e]
      exact ⟨_, rfl⟩
    · rename_i e
      split
      · unfold mv_find
        rw [if_neg e]
        exact en_find_keep hne r (k + 1) (k' + 1) j q hc h
      · exact en_find_keep hne r (k + 1) k' j q hc h
theorem en_has_keep {lo : List (Nat × Value)} {i j : Nat} {v w : Value} (h : en_has lo j v) (hne : j ≠ i) (hc : v.category = 1) : en_has ((i, w) :: mv_keep i lo) j v := by
  obtain ⟨k, hk⟩ := h
  unfold en_has mv_find
  rw [if_neg (Ne.symm hne)]
  exact en_find_keep hne lo 0 1 k v hc hk
theorem en_has_new {lo : List (Nat × Value)} {i : Nat} {w : Value} : en_has ((i, w) :: mv_keep i lo) i w := by
  unfold en_has mv_find
  rw [if_pos rfl]
  exact ⟨_, rfl⟩
theorem en_ins {G : mv_G} {y fb lb pc : Nat} {lo : List (Nat × Value)} {st : List Value} {hp : List va_E} {cb sb : Nat} {E : mv_E} {n : Nat} {i : Instr} {S' : mv_S} (hI : mv_gI G y pc = some (i, n)) (hs : en_ok i = true) (h : mv_ins G y pc lo st hp cb sb n i = some (.inl S')) (k : mv_ends G y fb lb S' E) : mv_ends G y fb lb (pc, lo, st, hp, cb, sb) E := by
  obtain ⟨m, k⟩ := k
  refine ⟨m + 1, ?_⟩
  have hex : mv_exec G y (pc, lo, st, hp, cb, sb) = some (.inl S') := by
    unfold mv_exec
    simp only [hI]
    cases i <;> first | exact congrArg mv_og h | cases hs
  rw [mv_run, en_nat_none (S := (pc, lo, st, hp, cb, sb)) hI hs]
  dsimp only
  rw [hex]
  exact k
theorem mv_take_mono {G : mv_G} {y : Nat} {k k' : mv_S → Option mv_E} (hk : ∀ S E, k S = some E → k' S = some E) {a : Nat} {S : mv_S} {E : mv_E} (h : mv_take G y k a S = some E) : mv_take G y k' a S = some E := by
  unfold mv_take at h ⊢
  cases hn : mv_hand (mv_gH G y) S.1 with
  | none =>
    rw [hn] at h
    exact h
  | some q =>
    obtain ⟨hd, ct⟩ := q
    rw [hn] at h
    dsimp only at h ⊢
    cases ho : S.2.2.2.1[a]? with
    | none =>
      rw [ho] at h
      cases h
    | some e =>
      rw [ho] at h
      rcases e with e | ⟨ci, fs⟩
      · cases h
      · dsimp only at h ⊢
        by_cases hc : ci = mv_gX G
        · rw [if_pos hc] at h ⊢
          exact hk _ _ h
        · rw [if_neg hc] at h
          cases h
theorem mv_fuel1 (G : mv_G) : ∀ (n y fb lb : Nat) (S : mv_S) (E : mv_E), mv_run G n y fb lb S = some E → mv_run G (n + 1) y fb lb S = some E
  | 0, _, _, _, _, _, h => by cases h
  | n + 1, y, fb, lb, S, E, h => by
    have ih := fun y fb lb S E => mv_fuel1 G n y fb lb S E
    rw [mv_run] at h ⊢
    cases hnat : mv_nat G y fb lb S with
    | some S' =>
      rw [hnat] at h
      exact ih _ _ _ _ _ h
    | none =>
      rw [hnat] at h
      dsimp only at h ⊢
      cases hex : mv_exec G y S with
      | none =>
        rw [hex] at h
        cases h
      | some r =>
        rw [hex] at h
        rcases r with S' | ⟨z, as, r, len⟩ | v | a
        · exact ih _ _ _ _ _ h
        · dsimp only at h ⊢
          split at h
          · rename_i hc
            rw [if_pos hc]
            split at h
            · cases h
            · rename_i v hp cb sb hrun
              rw [ih _ _ _ _ _ hrun]
              exact ih _ _ _ _ _ h
            · rename_i a hp cb sb hrun
              rw [ih _ _ _ _ _ hrun]
              exact mv_take_mono (fun S E => ih _ _ _ S E) h
          · cases h
        · exact h
        · exact mv_take_mono (fun S E => ih _ _ _ S E) h
theorem mv_fuel (G : mv_G) {n m y fb lb : Nat} {S : mv_S} {E : mv_E} (hle : n ≤ m) (h : mv_run G n y fb lb S = some E) : mv_run G m y fb lb S = some E := by
  obtain ⟨k, rfl⟩ := Nat.le.dest hle
  clear hle
  induction k with
  | zero => exact h
  | succ k ih => exact mv_fuel1 G (n + k) y fb lb S E ih
/-- an int; or a pointer or null, with what a pointer's cell is: twice the type of an array and its length; twice an object's class and 1, and 0 or its sort; or the number of a text -/
abbrev me_V : Type := Int ⊕ ((Option Nat × Nat × Nat) ⊕ Nat)
def me_v : me_V → Value
  | .inl x => .int (Int32.ofInt x)
  | .inr (.inl q) => va_rf q.1
  | .inr (.inr j) => .ref (mv_big + 1 + j)
theorem me_v_cat (v : me_V) : (me_v v).category = 1 := by
  rcases v with x | ⟨_ | a, q⟩ | j <;> rfl
/-- how many cells; their kinds; ints; pointers; what may still be made -/
abbrev me_M : Type := Nat × (Nat → Nat × Nat) × (Nat → Nat → Int32) × (Nat → Nat → Option Nat) × Nat × Nat
abbrev me_O : Type := Nat ⊕ Option me_V
abbrev me_Q : Type := me_O → me_M → Prop
def me_an (M : me_M) : me_V → Prop
  | .inr (.inl (some a, q)) => a < M.1 ∧ M.2.1 a = q
  | _ => True
def me_al (M : me_M) (L : List (Option me_V)) (st : List me_V) : Prop := (∀ v, some v ∈ L → me_an M v) ∧ ∀ v, v ∈ st → me_an M v
def me_ext (M M' : me_M) : Prop := M.1 ≤ M'.1 ∧ ∀ a, a < M.1 → M'.2.1 a = M.2.1 a
theorem me_ext.rf (M : me_M) : me_ext M M := ⟨Nat.le_refl _, fun _ _ => rfl⟩
theorem me_ext.tr {M M1 M2 : me_M} (h : me_ext M M1) (h' : me_ext M1 M2) : me_ext M M2 := ⟨Nat.le_trans h.1 h'.1, fun a ha => (h'.2 a (Nat.lt_of_lt_of_le ha h.1)).trans (h.2 a ha)⟩
theorem me_an.ext {M M' : me_M} {v : me_V} (h : me_an M v) (e : me_ext M M') : me_an M' v := by
  rcases v with x | ⟨_ | a, q⟩ | j
  · trivial
  · trivial
  · exact ⟨Nat.lt_of_lt_of_le h.1 e.1, (e.2 a h.1).trans h.2⟩
  · trivial
theorem me_al.ext {M M' : me_M} {L : List (Option me_V)} {st : List me_V} (h : me_al M L st) (e : me_ext M M') : me_al M' L st := ⟨fun v hv => (h.1 v hv).ext e, fun v hv => (h.2 v hv).ext e⟩
def me_ik (G : mv_G) (ci k : Nat) : Bool := match mv_gT G ci k with
  | some .int => true
  | some .boolean => true
  | some .byte => true
  | _ => false
def me_fs (G : mv_G) (ci : Nat) (I : Nat → Int32) (P : Nat → Option Nat) : List Value := (List.range (mv_gD G ci).length).map fun k => if me_ik G ci k = true then .int (I k) else va_rf (P k)
def me_c (G : mv_G) (q : Nat × Nat) (I : Nat → Int32) (P : Nat → Option Nat) : va_E := if q.1 % 2 = 1 then .inr (q.1 / 2, me_fs G (q.1 / 2) I P) else if q.1 / 2 < 3 then .inl (q.1 / 2, q.2, .inl I) else .inl (q.1 / 2, q.2, .inr (.inr (.inr (.inr P))))
/-- pointers point to what their places are for -/
def me_ty (G : mv_G) (M : me_M) : Prop := ∀ a, a < M.1 → ((M.2.1 a).1 % 2 = 1 → ((M.2.1 a).1 ≠ 15 → (M.2.1 a).2 = 0) ∧ ∀ k b, me_ik G ((M.2.1 a).1 / 2) k = false → M.2.2.2.1 a k = some b → b < M.1 ∧ (M.2.1 b).1 = sx_fk ((M.2.1 a).1 / 2) k) ∧ ((M.2.1 a).1 % 2 = 0 → 3 ≤ (M.2.1 a).1 / 2 → ∀ i b, M.2.2.2.1 a i = some b → b < M.1 ∧ (M.2.1 b).1 = sx_ek ((M.2.1 a).1 / 2))
/-- what final fields of the first objects point to -/
def me_sh (M : me_M) : Prop := ∀ a, a < M.1 → (M.2.1 a).1 % 2 = 1 → ∀ k sg off q, sx_fin ((M.2.1 a).1 / 2) (M.2.1 a).2 k = some (sg, off, q) → M.2.2.2.1 a k = some (sx_tg a sg off) ∧ sx_tg a sg off < M.1 ∧ M.2.1 (sx_tg a sg off) = q
def me_ln (M : me_M) : Prop := ∀ a, a < M.1 → (M.2.1 a).2 ≤ 134217728
/-- bytes and booleans are such -/
def me_by (M : me_M) : Prop := ∀ a, a < M.1 → ∀ i, ((M.2.1 a).1 = 2 → mv_fitT 1 (M.2.2.1 a i) = true) ∧ ((M.2.1 a).1 = 4 → mv_fitT 2 (M.2.2.1 a i) = true)
def me_R (G : mv_G) (M : me_M) (hp : List va_E) : Prop := hp.length = M.1 ∧ M.1 + M.2.2.2.2.1 ≤ 2000000 ∧ (∀ a, a < M.1 → hp[a]? = some (me_c G (M.2.1 a) (M.2.2.1 a) (M.2.2.2.1 a))) ∧ me_ty G M ∧ me_sh M ∧ me_ln M ∧ me_by M
/-- what does not speak of the heap itself -/
def me_R' (G : mv_G) (M : me_M) : Prop := me_ty G M ∧ me_sh M
def me_lo (L : List (Option me_V)) (lo : List (Nat × Value)) : Prop := ∀ (i : Nat) (v : me_V), L[i]? = some (some v) → en_has lo i (me_v v)
def me_o : me_O → Nat ⊕ Option Value
  | .inl a => .inl a
  | .inr v => .inr (v.map me_v)
def me_oa (G : mv_G) (M : me_M) : me_O → Prop
  | .inl a => a < M.1 ∧ M.2.1 a = (2 * mv_gX G + 1, 0)
  | .inr (some v) => me_an M v
  | .inr none => True
/-- from a place in method y, with depth d left, the run ends, and Q holds of its end -/
def me_W (G : mv_G) (y d pc : Nat) (L : List (Option me_V)) (st : List me_V) (M : me_M) (Q : me_Q) : Prop :=
  ∀ (fb lb : Nat) (lo : List (Nat × Value)) (hp : List va_E), d ≤ fb → 60 * d ≤ lb → me_lo L lo → me_al M L st → me_R G M hp → ∃ (o : me_O) (M' : me_M) (hp' : List va_E), mv_ends G y fb lb (pc, lo, st.map me_v, hp, M.2.2.2.2.1, M.2.2.2.2.2) (me_o o, hp', M'.2.2.2.2.1, M'.2.2.2.2.2) ∧ me_R G M' hp' ∧ me_ext M M' ∧ me_oa G M' o ∧ Q o M'
theorem me_W.mono {G : mv_G} {y d pc : Nat} {L : List (Option me_V)} {st : List me_V} {M : me_M} {Q Q' : me_Q} (h : me_W G y d pc L st M Q) (hq : ∀ o M', me_ext M M' → Q o M' → Q' o M') : me_W G y d pc L st M Q' := by
  intro fb lb lo hp h1 h2 h3 h4 h5
  obtain ⟨o, M', hp', g1, g2, g3, g4, g5⟩ := h fb lb lo hp h1 h2 h3 h4 h5
  exact ⟨o, M', hp', g1, g2, g3, g4, hq _ _ g3 g5⟩
theorem me_W.less {G : mv_G} {y d d' pc : Nat} {L : List (Option me_V)} {st : List me_V} {M : me_M} {Q : me_Q} (h : me_W G y d pc L st M Q) (hd : d ≤ d') : me_W G y d' pc L st M Q :=
  fun fb lb lo hp h1 h2 h3 h4 h5 => h fb lb lo hp (Nat.le_trans hd h1) (by omega) h3 h4 h5
/-- locals that are known may be forgotten -/
theorem me_W.forget {G : mv_G} {y d pc : Nat} {L L' : List (Option me_V)} {st : List me_V} {M : me_M} {Q : me_Q} (h : me_W G y d pc L st M Q) (hl : ∀ (i : Nat) (v : me_V), L[i]? = some (some v) → L'[i]? = some (some v)) : me_W G y d pc L' st M Q :=
  fun fb lb lo hp h1 h2 h3 h4 h5 => h fb lb lo hp h1 h2 (fun i v hv => h3 i v (hl i v hv)) ⟨fun v hv => by
    obtain ⟨i, hi⟩ := List.mem_iff_getElem?.mp hv
    exact h4.1 v (List.mem_of_getElem? (hl i v hi)), h4.2⟩ h5
section MEW
variable {G : mv_G} {y d pc : Nat} {L : List (Option me_V)} {st : List me_V} {M : me_M} {Q : me_Q}
/-- a step that changes no memory -/
theorem me_st {i : Instr} {n pc' : Nat} {L' : List (Option me_V)} {st' : List me_V} (hI : mv_gI G y pc = some (i, n)) (hs : en_ok i = true) (ha : me_R' G M → me_al M L st → me_al M L' st')
    (h : ∀ (lo : List (Nat × Value)) (hp : List va_E), me_lo L lo → me_al M L st → me_R G M hp → ∃ lo', mv_ins G y pc lo (st.map me_v) hp M.2.2.2.2.1 M.2.2.2.2.2 n i = some (.inl (pc', lo', st'.map me_v, hp, M.2.2.2.2.1, M.2.2.2.2.2)) ∧ me_lo L' lo')
    (k : me_W G y d pc' L' st' M Q) : me_W G y d pc L st M Q := by
  intro fb lb lo hp h1 h2 h3 h4 h5
  obtain ⟨lo', g1, g2⟩ := h lo hp h3 h4 h5
  obtain ⟨o, M', hp', k1, k2⟩ := k fb lb lo' hp h1 h2 g2 (ha ⟨h5.2.2.2.1, h5.2.2.2.2.1⟩ h4) h5
  exact ⟨o, M', hp', en_ins hI hs g1 k1, k2⟩
/-- a step that changes memory -/
theorem me_sm {i : Instr} {n pc' : Nat} {st' : List me_V} {M1 : me_M} (hI : mv_gI G y pc = some (i, n)) (hs : en_ok i = true)
    (h : ∀ (lo : List (Nat × Value)) (hp : List va_E), me_al M L st → me_R G M hp → ∃ hp', mv_ins G y pc lo (st.map me_v) hp M.2.2.2.2.1 M.2.2.2.2.2 n i = some (.inl (pc', lo, st'.map me_v, hp', M1.2.2.2.2.1, M1.2.2.2.2.2)) ∧ me_R G M1 hp' ∧ me_ext M M1 ∧ me_al M1 L st')
    (k : me_W G y d pc' L st' M1 Q) : me_W G y d pc L st M Q := by
  intro fb lb lo hp h1 h2 h3 h4 h5
  obtain ⟨hp1, g1, g2, g3, g4⟩ := h lo hp h4 h5
  obtain ⟨o, M', hp', k1, k2, k3, k4⟩ := k fb lb lo hp1 h1 h2 h3 g4 g2
  exact ⟨o, M', hp', en_ins hI hs g1 k1, k2, g3.tr k3, k4⟩
theorem me_lo_set {lo : List (Nat × Value)} {i : Nat} {v : me_V} (h : me_lo L lo) : me_lo (L.set i (some v)) ((i, me_v v) :: mv_keep i lo) := by
  intro j w hj
  rw [List.getElem?_set] at hj
  split at hj
  · rename_i e
    subst e
    split at hj
    · have := Option.some.inj (Option.some.inj hj)
      subst this
      exact en_has_new
    · cases hj
  · rename_i e
    exact en_has_keep (h j w hj) (fun e' => e e'.symm) (me_v_cat w)
theorem me_al_set {i : Nat} {v : me_V} (h : me_al M L (v :: st)) : me_al M (L.set i (some v)) st := by
  refine ⟨fun w hw => ?_, fun w hw => h.2 w (List.mem_cons_of_mem _ hw)⟩
  rcases List.mem_or_eq_of_mem_set hw with hw | hw
  · exact h.1 w hw
  · cases hw
    exact h.2 v List.mem_cons_self
theorem me_al_psh {v : me_V} (h : me_al M L st) (hv : me_an M v) : me_al M L (v :: st) := ⟨h.1, fun w hw => by
  rcases List.mem_cons.mp hw with rfl | hw
  · exact hv
  · exact h.2 w hw⟩
theorem me_al_pop {v : me_V} (h : me_al M L (v :: st)) : me_al M L st := ⟨h.1, fun w hw => h.2 w (List.mem_cons_of_mem _ hw)⟩
theorem me_load {q n : Nat} {b : Value → Bool} {v : me_V} {lo : List (Nat × Value)} {hp : List va_E} (hl : me_lo L lo) (hv : L[q]? = some (some v)) (hb : b (me_v v) = true) {cb sb : Nat} : mv_load pc lo (st.map me_v) hp cb sb q n b = some (.inl (pc + n, lo, (v :: st).map me_v, hp, cb, sb)) := by
  obtain ⟨j, hj⟩ := hl q v hv
  unfold mv_load
  rw [hj]
  dsimp only
  rw [if_pos hb]
  rfl
theorem me_store {q n : Nat} {b : Value → Bool} {v : me_V} {lo : List (Nat × Value)} {hp : List va_E} (hb : b (me_v v) = true) (hq : q < mv_gL G y) {cb sb : Nat} : mv_store G y pc lo ((v :: st).map me_v) hp cb sb q n b = some (.inl (pc + n, (q, me_v v) :: mv_keep q lo, st.map me_v, hp, cb, sb)) := by
  unfold mv_store
  rw [List.map_cons]
  dsimp only
  rw [if_pos ⟨hb, hq⟩]
end MEW
/-! ints -/
def me_r (x : Int) : Prop := -2147483648 ≤ x ∧ x < 2147483648
def me_w (x : Int) : Int := (Int32.ofInt x).toInt
theorem me_w_eq {x : Int} (h : me_r x) : me_w x = x := Int32.toInt_ofInt_of_le h.1 h.2
theorem me_w_r (x : Int) : me_r (me_w x) := ⟨Int32.le_toInt _, Int32.toInt_lt _⟩
theorem me_of (x : Int32) : Int32.ofInt x.toInt = x := Int32.ofInt_toInt x
theorem me_lt {x y : Int} (hx : me_r x) (hy : me_r y) : Int32.ofInt x < Int32.ofInt y ↔ x < y := by
  rw [Int32.lt_iff_toInt_lt]
  show me_w x < me_w y ↔ _
  rw [me_w_eq hx, me_w_eq hy]
theorem me_le {x y : Int} (hx : me_r x) (hy : me_r y) : Int32.ofInt x ≤ Int32.ofInt y ↔ x ≤ y := by
  rw [Int32.le_iff_toInt_le]
  show me_w x ≤ me_w y ↔ _
  rw [me_w_eq hx, me_w_eq hy]
theorem me_eq {x y : Int} (hx : me_r x) (hy : me_r y) : Int32.ofInt x = Int32.ofInt y ↔ x = y := by
  constructor
  · intro h
    have := congrArg Int32.toInt h
    rwa [show (Int32.ofInt x).toInt = x from me_w_eq hx, show (Int32.ofInt y).toInt = y from me_w_eq hy] at this
  · intro h
    rw [h]
theorem me_out {i : Int} {n : Nat} (h0 : 0 ≤ i) (h1 : i < n) (h2 : me_r i) : mv_out (Int32.ofInt i) n = false ∧ (Int32.ofInt i).toNatClampNeg = i.toNat := by
  have h3 : (Int32.ofInt i).toInt = i := me_w_eq h2
  have h4 : (Int32.ofInt i).toNatClampNeg = i.toNat := by
    show (Int32.ofInt i).toInt.toNat = _
    rw [h3]
  refine ⟨?_, h4⟩
  unfold mv_out
  rw [decide_eq_false_iff_not]
  rintro (h5 | h5)
  · rw [Int32.lt_iff_toInt_lt, h3] at h5
    have : (0 : Int32).toInt = 0 := rfl
    omega
  · rw [h4] at h5
    omega
def me_cond : Jvm.ClassFile.Cond → Int → Int → Prop
  | .eq, a, b => a = b
  | .ne, a, b => ¬ a = b
  | .lt, a, b => a < b
  | .ge, a, b => b ≤ a
  | .gt, a, b => b < a
  | .le, a, b => a ≤ b
theorem me_cond_iff {c : Jvm.ClassFile.Cond} {x y : Int} (hx : me_r x) (hy : me_r y) : mv_cond c (Int32.ofInt x) (Int32.ofInt y) = true ↔ me_cond c x y := by
  cases c <;> unfold mv_cond me_cond <;> rw [decide_eq_true_iff]
  · exact me_eq hx hy
  · exact not_congr (me_eq hx hy)
  · exact me_lt hx hy
  · exact me_le hy hx
  · exact me_lt hy hx
  · exact me_le hx hy
end
section
/-! the rules of me_: an instruction each -/
def me_i (M : me_M) (a k : Nat) : Int := (M.2.2.1 a k).toInt
def me_p (M : me_M) (a k : Nat) : Option Nat := M.2.2.2.1 a k
def me_sI (M : me_M) (a k : Nat) (x : Int32) : me_M := (M.1, M.2.1, fun b j => if b = a ∧ j = k then x else M.2.2.1 b j, M.2.2.2)
def me_sP (M : me_M) (a k : Nat) (p : Option Nat) : me_M := (M.1, M.2.1, M.2.2.1, fun b j => if b = a ∧ j = k then p else M.2.2.2.1 b j, M.2.2.2.2)
def me_nw (M : me_M) (q : Nat × Nat) (s : Nat) : me_M := (M.1 + 1, fun b => if b = M.1 then q else M.2.1 b, fun b j => if b = M.1 then 0 else M.2.2.1 b j, fun b j => if b = M.1 then none else M.2.2.2.1 b j, M.2.2.2.2.1 - 1, M.2.2.2.2.2 - s)
/-- what holds of the tables -/
def me_hG (G : mv_G) : Prop := (∀ a, a < mv_big → mv_gS G a = none) ∧ (∀ ci, ci < sx_fkT.length → me_fs G ci (fun _ => 0) (fun _ => none) = mv_gD G ci) ∧ (∀ a, a < mv_big → mv_gX2 G a = none)
theorem me_i_r (M : me_M) (a k : Nat) : me_r (me_i M a k) := ⟨Int32.le_toInt _, Int32.toInt_lt _⟩
section MER
variable {G : mv_G} {y d pc : Nat} {L : List (Option me_V)} {st r : List me_V} {M : me_M} {Q : me_Q} {hp : List va_E}
theorem me_cell_ob (h : me_R G M hp) {a ci : Nat} {q : Nat × Nat} (ha : a < M.1) (ht : M.2.1 a = q) (hq : q.1 = 2 * ci + 1) : hp[a]? = some (.inr (ci, me_fs G ci (M.2.2.1 a) (M.2.2.2.1 a))) := by
  rw [h.2.2.1 a ha, ht]
  unfold me_c
  rw [if_pos (by omega), show q.1 / 2 = ci by omega]
theorem me_cell_i (h : me_R G M hp) {a t n : Nat} (ha : a < M.1) (ht : M.2.1 a = (2 * t, n)) (h3 : t < 3) : hp[a]? = some (.inl (t, n, .inl (M.2.2.1 a))) := by
  rw [h.2.2.1 a ha, ht]
  unfold me_c
  rw [if_neg (by show ¬ 2 * t % 2 = 1; omega), if_pos (by show 2 * t / 2 < 3; omega), show 2 * t / 2 = t by omega]
theorem me_cell_p (h : me_R G M hp) {a t n : Nat} (ha : a < M.1) (ht : M.2.1 a = (2 * t, n)) (h3 : ¬ t < 3) : hp[a]? = some (.inl (t, n, .inr (.inr (.inr (.inr (M.2.2.2.1 a)))))) := by
  rw [h.2.2.1 a ha, ht]
  unfold me_c
  rw [if_neg (by show ¬ 2 * t % 2 = 1; omega), if_neg (by show ¬ 2 * t / 2 < 3; omega), show 2 * t / 2 = t by omega]
theorem me_fs_at {ci k : Nat} {I : Nat → Int32} {P : Nat → Option Nat} (hk : k < (mv_gD G ci).length) : (me_fs G ci I P)[k]? = some (if me_ik G ci k = true then .int (I k) else va_rf (P k)) := by
  unfold me_fs
  rw [List.getElem?_map, List.getElem?_range hk]
  rfl
theorem me_fs_len (ci : Nat) (I : Nat → Int32) (P : Nat → Option Nat) : (me_fs G ci I P).length = (mv_gD G ci).length := by
  unfold me_fs
  rw [List.length_map, List.length_range]
theorem me_fs_setI {ci k : Nat} {I : Nat → Int32} {P : Nat → Option Nat} {x : Int32} (hi : me_ik G ci k = true) : (me_fs G ci I P).set k (.int x) = me_fs G ci (fun j => if j = k then x else I j) P := by
  apply List.ext_getElem?
  intro j
  rw [List.getElem?_set]
  by_cases hj : j < (mv_gD G ci).length
  · by_cases e : k = j
    · subst e
      rw [if_pos rfl, if_pos (by rw [me_fs_len]; exact hj), me_fs_at hj, if_pos hi, if_pos rfl]
    · rw [if_neg e, me_fs_at hj, me_fs_at hj, if_neg (Ne.symm e)]
  · have h1 : (me_fs G ci I P)[j]? = none := List.getElem?_eq_none (by rw [me_fs_len]; omega)
    have h2 : (me_fs G ci (fun j => if j = k then x else I j) P)[j]? = none := List.getElem?_eq_none (by rw [me_fs_len]; omega)
    rw [h1, h2]
    split
    · rw [if_neg (by rw [me_fs_len]; omega)]
    · rfl
theorem me_fs_setP {ci k : Nat} {I : Nat → Int32} {P : Nat → Option Nat} {p : Option Nat} (hi : me_ik G ci k = false) : (me_fs G ci I P).set k (va_rf p) = me_fs G ci I (fun j => if j = k then p else P j) := by
  apply List.ext_getElem?
  intro j
  rw [List.getElem?_set]
  by_cases hj : j < (mv_gD G ci).length
  · by_cases e : k = j
    · subst e
      rw [if_pos rfl, if_pos (by rw [me_fs_len]; exact hj), me_fs_at hj, if_neg (by rw [hi]; decide), if_pos rfl]
    · rw [if_neg e, me_fs_at hj, me_fs_at hj, if_neg (Ne.symm e)]
  · have h1 : (me_fs G ci I P)[j]? = none := List.getElem?_eq_none (by rw [me_fs_len]; omega)
    have h2 : (me_fs G ci I (fun j => if j = k then p else P j))[j]? = none := List.getElem?_eq_none (by rw [me_fs_len]; omega)
    rw [h1, h2]
    split
    · rw [if_neg (by rw [me_fs_len]; omega)]
    · rfl
theorem me_hd {v : me_V} (h : me_al M L (v :: st)) : me_an M v := h.2 v List.mem_cons_self
/-- a cell's new contents -/
theorem me_R_set {M1 : me_M} {a : Nat} (h : me_R G M hp) (ha : a < M.1) (h1 : M1.1 = M.1) (h2 : M1.2.1 = M.2.1) (h3 : ∀ b, b ≠ a → M1.2.2.1 b = M.2.2.1 b ∧ M1.2.2.2.1 b = M.2.2.2.1 b) (h4 : M1.2.2.2.2 = M.2.2.2.2) (h5 : me_ty G M1) (h6 : me_sh M1) (h7 : me_by M1) : me_R G M1 (hp.set a (me_c G (M1.2.1 a) (M1.2.2.1 a) (M1.2.2.2.1 a))) := by
  refine ⟨by rw [List.length_set, h1]; exact h.1, by rw [h1, h4]; exact h.2.1, fun b hb => ?_, h5, h6, fun b hb => by rw [h2]; exact h.2.2.2.2.2.1 b (by rw [← h1]; exact hb), h7⟩
  rw [h1] at hb
  rw [List.getElem?_set]
  split
  · rename_i e
    subst e
    rw [if_pos (by rw [h.1]; exact ha)]
  · rename_i e
    rw [h.2.2.1 b hb, h2, (h3 b (Ne.symm e)).1, (h3 b (Ne.symm e)).2]
theorem me_sI_R {a k : Nat} {x : Int32} (h : me_R G M hp) (ha : a < M.1) (hx : ((M.2.1 a).1 = 2 → mv_fitT 1 x = true) ∧ ((M.2.1 a).1 = 4 → mv_fitT 2 x = true)) : me_R G (me_sI M a k x) (hp.set a (me_c G (M.2.1 a) (fun j => if j = k then x else M.2.2.1 a j) (M.2.2.2.1 a))) := by
  have := me_R_set (M1 := me_sI M a k x) h ha rfl rfl (fun b hb => ⟨by funext j; exact if_neg fun e => hb e.1, rfl⟩) rfl h.2.2.2.1 h.2.2.2.2.1 (fun b hb j => by
    show ((M.2.1 b).1 = 2 → mv_fitT 1 (if b = a ∧ j = k then x else M.2.2.1 b j) = true) ∧ ((M.2.1 b).1 = 4 → mv_fitT 2 (if b = a ∧ j = k then x else M.2.2.1 b j) = true)
    by_cases e : b = a ∧ j = k
    · rw [if_pos e, e.1]
      exact hx
    · rw [if_neg e]
      exact h.2.2.2.2.2.2 b hb j)
  have e : (me_sI M a k x).2.2.1 a = fun j => if j = k then x else M.2.2.1 a j := by
    funext j
    show (if a = a ∧ j = k then x else M.2.2.1 a j) = _
    by_cases hj : j = k
    · rw [if_pos ⟨rfl, hj⟩, if_pos hj]
    · rw [if_neg fun z => hj z.2, if_neg hj]
  rw [e] at this
  exact this
theorem me_sI_al {a k : Nat} {x : Int32} (h : me_al M L st) : me_al (me_sI M a k x) L st := h
theorem me_sP_R {a k : Nat} {p : Option Nat} (h : me_R G M hp) (ha : a < M.1) (h1 : (M.2.1 a).1 % 2 = 1 → me_ik G ((M.2.1 a).1 / 2) k = false → sx_fin ((M.2.1 a).1 / 2) (M.2.1 a).2 k = none ∧ ∀ b, p = some b → b < M.1 ∧ (M.2.1 b).1 = sx_fk ((M.2.1 a).1 / 2) k) (h2 : (M.2.1 a).1 % 2 = 0 → ∀ b, p = some b → b < M.1 ∧ (M.2.1 b).1 = sx_ek ((M.2.1 a).1 / 2)) (h0 : (M.2.1 a).1 % 2 = 1 → sx_fin ((M.2.1 a).1 / 2) (M.2.1 a).2 k = none) :
    me_R G (me_sP M a k p) (hp.set a (me_c G (M.2.1 a) (M.2.2.1 a) (fun j => if j = k then p else M.2.2.2.1 a j))) := by
  have hty : me_ty G (me_sP M a k p) := by
    intro b hb
    refine ⟨fun ho => ⟨(h.2.2.2.1 b hb).1 ho |>.1, fun j c hj hc => ?_⟩, fun he h3 i c hc => ?_⟩
    · have hc2 : (if b = a ∧ j = k then p else M.2.2.2.1 b j) = some c := hc
      clear hc
      by_cases e : b = a ∧ j = k
      · rw [if_pos e] at hc2
        obtain ⟨rfl, rfl⟩ := e
        exact (h1 ho hj).2 c hc2
      · rw [if_neg e] at hc2
        exact ((h.2.2.2.1 b hb).1 ho).2 j c hj hc2
    · have hc2 : (if b = a ∧ i = k then p else M.2.2.2.1 b i) = some c := hc
      clear hc
      by_cases e : b = a ∧ i = k
      · rw [if_pos e] at hc2
        obtain ⟨rfl, rfl⟩ := e
        exact h2 he c hc2
      · rw [if_neg e] at hc2
        exact (h.2.2.2.1 b hb).2 he h3 i c hc2
  have hsh : me_sh (me_sP M a k p) := by
    intro b hb ho j sg off q hf
    refine ⟨?_, (h.2.2.2.2.1 b hb ho j sg off q hf).2⟩
    show (if b = a ∧ j = k then p else M.2.2.2.1 b j) = _
    split
    · rename_i e
      obtain ⟨rfl, rfl⟩ := e
      have z := h0 ho
      have hf : sx_fin ((M.2.1 b).1 / 2) (M.2.1 b).2 j = some (sg, off, q) := hf
      rw [z] at hf
      cases hf
    · exact (h.2.2.2.2.1 b hb ho j sg off q hf).1
  have := me_R_set (M1 := me_sP M a k p) h ha rfl rfl (fun b hb => ⟨rfl, by funext j; exact if_neg fun e => hb e.1⟩) rfl hty hsh h.2.2.2.2.2.2
  have e : (me_sP M a k p).2.2.2.1 a = fun j => if j = k then p else M.2.2.2.1 a j := by
    funext j
    show (if a = a ∧ j = k then p else M.2.2.2.1 a j) = _
    by_cases hj : j = k
    · rw [if_pos ⟨rfl, hj⟩, if_pos hj]
    · rw [if_neg fun z => hj z.2, if_neg hj]
  rw [e] at this
  exact this
theorem me_geti {idx ci k a : Nat} {q : Nat × Nat} (hI : mv_gI G y pc = some (.getfield idx, 3)) (hF : mv_gF G y idx = some (ci, k)) (hk : k < (mv_gD G ci).length) (hi : me_ik G ci k = true) (hq : q.1 = 2 * ci + 1) (kk : me_W G y d (pc + 3) L (.inl (me_i M a k) :: r) M Q) : me_W G y d pc L (.inr (.inl (some a, q)) :: r) M Q := by
  refine me_st hI rfl (fun _ h => me_al_psh (v := .inl (me_i M a k)) (me_al_pop h) trivial) (fun lo hp h3 h4 h5 => ⟨lo, ?_, h3⟩) kk
  obtain ⟨ha, ht⟩ := me_hd h4
  show mv_g 3 3 (mv_get G y pc lo (.ref a :: r.map me_v) hp _ _ idx) = _
  unfold mv_g mv_get
  rw [if_pos rfl]
  dsimp only
  rw [me_cell_ob h5 ha ht hq, hF]
  dsimp only
  rw [if_pos rfl, me_fs_at hk]
  dsimp only
  rw [if_pos hi, ← me_of (M.2.2.1 a k)]
  rfl
theorem me_getp {idx ci k a : Nat} {q : Nat × Nat} (hI : mv_gI G y pc = some (.getfield idx, 3)) (hF : mv_gF G y idx = some (ci, k)) (hk : k < (mv_gD G ci).length) (hi : me_ik G ci k = false) (hq : q.1 = 2 * ci + 1) (kk : ∀ n, (∀ b, me_p M a k = some b → M.2.1 b = (sx_fk ci k, n)) → me_W G y d (pc + 3) L (.inr (.inl (me_p M a k, sx_fk ci k, n)) :: r) M Q) : me_W G y d pc L (.inr (.inl (some a, q)) :: r) M Q := by
  intro fb lb lo hp h1 h2 h3 h4 h5
  obtain ⟨ha, ht⟩ := me_hd h4
  have hty : ∀ b, me_p M a k = some b → b < M.1 ∧ (M.2.1 b).1 = sx_fk ci k := by
    intro b hb
    have h6 := ((h5.2.2.2.1 a ha).1 (by rw [ht]; omega)).2 k b
    rw [ht, show q.1 / 2 = ci by omega] at h6
    exact h6 hi hb
  obtain ⟨n, hn⟩ : ∃ n, ∀ b, me_p M a k = some b → M.2.1 b = (sx_fk ci k, n) := by
    cases hp9 : me_p M a k with
    | none => exact ⟨0, fun b hb => by cases hb⟩
    | some c => exact ⟨(M.2.1 c).2, fun b hb => by cases hb; rw [← (hty c hp9).2]⟩
  refine me_st (L' := L) (st' := .inr (.inl (me_p M a k, sx_fk ci k, n)) :: r) hI rfl (fun _ h => me_al_psh (me_al_pop h) ?_) (fun lo hp h3 h4 h5 => ⟨lo, ?_, h3⟩) (kk n hn) fb lb lo hp h1 h2 h3 h4 h5
  · cases hp9 : me_p M a k with
    | none => trivial
    | some c => exact ⟨(hty c hp9).1, hn c hp9⟩
  · show mv_g 3 3 (mv_get G y pc lo (.ref a :: r.map me_v) hp _ _ idx) = _
    unfold mv_g mv_get
    rw [if_pos rfl]
    dsimp only
    rw [me_cell_ob h5 ha ht hq, hF]
    dsimp only
    rw [if_pos rfl, me_fs_at hk]
    dsimp only
    rw [if_neg (by rw [hi]; decide)]
    rfl
/-- the kind is the object's class alone -/
theorem me_getp0 {idx ci k a : Nat} {q : Nat × Nat} (hI : mv_gI G y pc = some (.getfield idx, 3)) (hF : mv_gF G y idx = some (ci, k)) (hk : k < (mv_gD G ci).length) (hi : me_ik G ci k = false) (hq : q.1 = 2 * ci + 1) (h0 : sx_fk ci k % 2 = 1) (h15 : sx_fk ci k ≠ 15) (kk : me_W G y d (pc + 3) L (.inr (.inl (me_p M a k, sx_fk ci k, 0)) :: r) M Q) : me_W G y d pc L (.inr (.inl (some a, q)) :: r) M Q := by
  intro fb lb lo hp h1 h2 h3 h4 h5
  obtain ⟨ha, ht⟩ := me_hd h4
  refine me_getp hI hF hk hi hq (fun n hn => ?_) fb lb lo hp h1 h2 h3 h4 h5
  have hty : ∀ b, me_p M a k = some b → b < M.1 ∧ (M.2.1 b).1 = sx_fk ci k := by
    intro b hb
    have h6 := ((h5.2.2.2.1 a ha).1 (by rw [ht]; omega)).2 k b
    rw [ht, show q.1 / 2 = ci by omega] at h6
    exact h6 hi hb
  cases hp9 : me_p M a k with
  | none =>
    rw [hp9] at kk
    intro fb lb lo hp g1 g2 g3 g4 g5
    exact kk fb lb lo hp g1 g2 g3 ⟨g4.1, fun w hw => by
      rcases List.mem_cons.mp hw with rfl | hw
      · trivial
      · exact g4.2 w (List.mem_cons_of_mem _ hw)⟩ g5
  | some c =>
    have e : n = 0 := by
      obtain ⟨z1, z2⟩ := hty c hp9
      have z3 := ((h5.2.2.2.1 c z1).1 (by rw [z2]; exact h0)).1 (by rw [z2]; exact h15)
      have z4 := hn c hp9
      rw [z4] at z3
      exact z3
    subst e
    rw [hp9] at kk
    exact kk
/-- a final field of the first objects -/
theorem me_getf {idx ci k a sg off : Nat} {q q' : Nat × Nat} (hI : mv_gI G y pc = some (.getfield idx, 3)) (hF : mv_gF G y idx = some (ci, k)) (hk : k < (mv_gD G ci).length) (hi : me_ik G ci k = false) (hq : q.1 = 2 * ci + 1) (hf : sx_fin ci q.2 k = some (sg, off, q')) (kk : me_W G y d (pc + 3) L (.inr (.inl (some (sx_tg a sg off), q')) :: r) M Q) : me_W G y d pc L (.inr (.inl (some a, q)) :: r) M Q := by
  intro fb lb lo hp h1 h2 h3 h4 h5
  obtain ⟨ha, ht⟩ := me_hd h4
  have h6 := h5.2.2.2.2.1 a ha (by rw [ht]; omega) k sg off q' (by rw [ht, show q.1 / 2 = ci by omega]; exact hf)
  refine me_st (L' := L) (st' := .inr (.inl (some (sx_tg a sg off), q')) :: r) hI rfl (fun _ h => me_al_psh (me_al_pop h) h6.2) (fun lo hp h3 h4 h5 => ⟨lo, ?_, h3⟩) kk fb lb lo hp h1 h2 h3 h4 h5
  show mv_g 3 3 (mv_get G y pc lo (.ref a :: r.map me_v) hp _ _ idx) = _
  unfold mv_g mv_get
  rw [if_pos rfl]
  dsimp only
  rw [me_cell_ob h5 ha ht hq, hF]
  dsimp only
  rw [if_pos rfl, me_fs_at hk]
  dsimp only
  rw [if_neg (by rw [hi]; decide), h6.1]
  rfl
theorem me_puti {idx ci k a : Nat} {q : Nat × Nat} {x : Int} {ty : FieldType} (hI : mv_gI G y pc = some (.putfield idx, 3)) (hF : mv_gF G y idx = some (ci, k)) (hk : k < (mv_gD G ci).length) (hi : me_ik G ci k = true) (hq : q.1 = 2 * ci + 1) (hT : mv_gT G ci k = some ty) (hP : mv_gP G ci k = false) (hx : ty = .int ∨ ty = .boolean ∧ (x = 0 ∨ x = 1)) (kk : me_W G y d (pc + 3) L r (me_sI M a k (Int32.ofInt x)) Q) : me_W G y d pc L (.inl x :: .inr (.inl (some a, q)) :: r) M Q := by
  refine me_sm hI rfl (fun lo hp h4 h5 => ?_) kk
  obtain ⟨ha, ht⟩ := me_hd (me_al_pop h4)
  refine ⟨_, ?_, me_sI_R h5 ha ⟨fun z => by rw [ht] at z; omega, fun z => by rw [ht] at z; omega⟩, me_ext.rf _, me_al_pop (me_al_pop h4)⟩
  have hfit : narrow ty (.int (Int32.ofInt x)) = .int (Int32.ofInt x) ∧ fits ty (.int (Int32.ofInt x)) = true := by
    rcases hx with rfl | ⟨rfl, rfl | rfl⟩ <;> exact ⟨rfl, rfl⟩
  show mv_g 3 3 (mv_put G y pc lo (.int (Int32.ofInt x) :: .ref a :: r.map me_v) hp _ _ idx) = _
  unfold mv_g mv_put
  rw [if_pos rfl]
  dsimp only
  rw [me_cell_ob h5 ha ht hq, hF]
  dsimp only
  rw [hT]
  dsimp only
  rw [if_pos ⟨rfl, hfit.1, hfit.2, by rw [me_fs_len]; exact hk, fun e => by rw [hP] at e; cases e⟩, me_fs_setI hi]
  congr 6
  unfold me_c
  rw [ht, if_pos (by omega), show q.1 / 2 = ci by omega]
theorem me_putp {idx ci k a : Nat} {q q' : Nat × Nat} {p : Option Nat} {ty : FieldType} (hI : mv_gI G y pc = some (.putfield idx, 3)) (hF : mv_gF G y idx = some (ci, k)) (hk : k < (mv_gD G ci).length) (hi : me_ik G ci k = false) (hq : q.1 = 2 * ci + 1) (hT : mv_gT G ci k = some ty) (hR : ty.isReference = true) (hP : mv_gP G ci k = false) (hq' : p = none ∨ q'.1 = sx_fk ci k) (hfin : sx_fin ci q.2 k = none) (kk : me_W G y d (pc + 3) L r (me_sP M a k p) Q) : me_W G y d pc L (.inr (.inl (p, q')) :: .inr (.inl (some a, q)) :: r) M Q := by
  refine me_sm hI rfl (fun lo hp h4 h5 => ?_) kk
  obtain ⟨ha, ht⟩ := me_hd (me_al_pop h4)
  have hv := me_hd h4
  have hb : ∀ b, p = some b → b < M.1 ∧ (M.2.1 b).1 = sx_fk ci k := by
    intro b hb
    subst hb
    rcases hq' with e | e
    · cases e
    · exact ⟨hv.1, by rw [hv.2]; exact e⟩
  have e1 : (M.2.1 a).1 / 2 = ci := by rw [ht]; omega
  refine ⟨_, ?_, me_sP_R h5 ha (fun _ _ => ⟨by rw [e1, ht]; exact hfin, by rw [e1]; exact hb⟩) (fun he => by rw [ht] at he; omega) (fun _ => by rw [e1, ht]; exact hfin), me_ext.rf _, me_al_pop (me_al_pop h4)⟩
  have hfit : fits ty (va_rf p) = true ∧ narrow ty (va_rf p) = va_rf p := by
    cases ty <;> first | (cases hR; done) | (cases p <;> exact ⟨rfl, rfl⟩)
  show mv_g 3 3 (mv_put G y pc lo (va_rf p :: .ref a :: r.map me_v) hp _ _ idx) = _
  unfold mv_g mv_put
  rw [if_pos rfl]
  dsimp only
  rw [me_cell_ob h5 ha ht hq, hF]
  dsimp only
  rw [hT]
  dsimp only
  rw [if_pos ⟨rfl, hfit.2, hfit.1, by rw [me_fs_len]; exact hk, fun e => by rw [hP] at e; cases e⟩, me_fs_setP hi]
  congr 6
  unfold me_c
  rw [ht, if_pos (by omega), show q.1 / 2 = ci by omega]
/-- the kind is known otherwise -/
theorem me_getpv {idx ci k a s : Nat} {q : Nat × Nat} (hI : mv_gI G y pc = some (.getfield idx, 3)) (hF : mv_gF G y idx = some (ci, k)) (hk : k < (mv_gD G ci).length) (hi : me_ik G ci k = false) (hq : q.1 = 2 * ci + 1) (hv : ∀ b, me_p M a k = some b → M.2.1 b = (sx_fk ci k, s)) (kk : me_W G y d (pc + 3) L (.inr (.inl (me_p M a k, sx_fk ci k, s)) :: r) M Q) : me_W G y d pc L (.inr (.inl (some a, q)) :: r) M Q := by
  refine me_getp hI hF hk hi hq fun n hn => ?_
  cases hp9 : me_p M a k with
  | none =>
    rw [hp9] at kk
    intro fb lb lo hp g1 g2 g3 g4 g5
    exact kk fb lb lo hp g1 g2 g3 ⟨g4.1, fun w hw => by
      rcases List.mem_cons.mp hw with rfl | hw
      · trivial
      · exact g4.2 w (List.mem_cons_of_mem _ hw)⟩ g5
  | some c =>
    have e : n = s := by
      have z4 := hn c hp9
      rw [hv c hp9] at z4
      exact (Prod.mk.inj z4).2.symm
    subst e
    rw [hp9] at kk
    exact kk
end MER
end
section
/-! the rules of me_: arrays, calls, ends -/
def me_sh0 (ci : Nat) : Prop := ∀ k, sx_fin ci 0 k = none
section MES
variable {G : mv_G} {y d pc : Nat} {L : List (Option me_V)} {st r : List me_V} {M : me_M} {Q : me_Q} {hp : List va_E}
/-- an instruction that the small machine's own step does, where a native of that opcode does not apply -/
theorem me_ex {fb lb : Nat} {lo : List (Nat × Value)} {s : List Value} {cb sb : Nat} {E : mv_E} {S' : mv_S} (hn : mv_nat G y fb lb (pc, lo, s, hp, cb, sb) = none) (hx : mv_exec G y (pc, lo, s, hp, cb, sb) = some (.inl S')) (k : mv_ends G y fb lb S' E) : mv_ends G y fb lb (pc, lo, s, hp, cb, sb) E := by
  obtain ⟨m, k⟩ := k
  refine ⟨m + 1, ?_⟩
  rw [mv_run, hn]
  dsimp only
  rw [hx]
  exact k
theorem me_na {fb lb : Nat} {lo : List (Nat × Value)} {s : List Value} {cb sb : Nat} {E : mv_E} {S' : mv_S} (hn : mv_nat G y fb lb (pc, lo, s, hp, cb, sb) = some S') (k : mv_ends G y fb lb S' E) : mv_ends G y fb lb (pc, lo, s, hp, cb, sb) E := by
  obtain ⟨m, k⟩ := k
  refine ⟨m + 1, ?_⟩
  rw [mv_run, hn]
  exact k
theorem me_ad (h : me_R G M hp) {a : Nat} (ha : a < M.1) : a < mv_big := by
  have := h.2.1
  unfold mv_big
  omega
theorem me_iald {a n : Nat} {i : Int} (hI : mv_gI G y pc = some (.iaload, 1)) (hG : me_hG G) (h0 : 0 ≤ i) (h1 : i < n) (h2 : me_r i) (kk : me_W G y d (pc + 1) L (.inl (me_i M a i.toNat) :: r) M Q) : me_W G y d pc L (.inl i :: .inr (.inl (some a, 0, n)) :: r) M Q := by
  intro fb lb lo hp g1 g2 g3 g4 g5
  obtain ⟨ha, ht⟩ := me_hd (me_al_pop g4)
  obtain ⟨o, M', hp', k1, k2⟩ := kk fb lb lo hp g1 g2 g3 (me_al_psh (v := .inl (me_i M a i.toNat)) (me_al_pop (me_al_pop g4)) trivial) g5
  refine ⟨o, M', hp', me_ex (S' := (pc + 1, lo, (.inl (me_i M a i.toNat) :: r).map me_v, hp, M.2.2.2.2.1, M.2.2.2.2.2)) ?_ ?_ k1, k2⟩
  · unfold mv_nat
    simp only [hI]
    show mv_xald G pc lo (.int _ :: .ref a :: r.map me_v) hp _ _ = none
    unfold mv_xald
    simp only [hG.1 a (me_ad g5 ha)]
  · obtain ⟨e1, e2⟩ := me_out h0 h1 h2
    unfold mv_exec
    simp only [hI]
    show mv_og (mv_g 1 1 (mv_iald pc lo (.int (Int32.ofInt i) :: .ref a :: r.map me_v) hp _ _)) = _
    unfold mv_g mv_iald
    rw [if_pos rfl]
    dsimp only
    rw [me_cell_i g5 ha (t := 0) ht (by decide)]
    show mv_og (if mv_out (Int32.ofInt i) n = true then none else _) = _
    rw [if_neg (by rw [e1]; decide), e2, ← me_of (M.2.2.1 a i.toNat)]
    rfl
theorem me_alen {a t n : Nat} {ty : FieldType} (hI : mv_gI G y pc = some (.arraylength, 1)) (hG : me_hG G) (hY : mv_gY G t = some ty) (kk : me_W G y d (pc + 1) L (.inl (n : Int) :: r) M Q) : me_W G y d pc L (.inr (.inl (some a, 2 * t, n)) :: r) M Q := by
  intro fb lb lo hp g1 g2 g3 g4 g5
  obtain ⟨ha, ht⟩ := me_hd g4
  obtain ⟨o, M', hp', k1, k2⟩ := kk fb lb lo hp g1 g2 g3 (me_al_psh (v := .inl (n : Int)) (me_al_pop g4) trivial) g5
  refine ⟨o, M', hp', me_ex (S' := (pc + 1, lo, (.inl (n : Int) :: r).map me_v, hp, M.2.2.2.2.1, M.2.2.2.2.2)) ?_ ?_ k1, k2⟩
  · unfold mv_nat
    simp only [hI]
    show mv_xlen G pc lo (.ref a :: r.map me_v) hp _ _ = none
    unfold mv_xlen
    simp only [hG.1 a (me_ad g5 ha)]
  · unfold mv_exec
    simp only [hI]
    show mv_og (mv_g 1 1 (mv_alen G pc lo (.ref a :: r.map me_v) hp _ _)) = _
    unfold mv_g mv_alen
    rw [if_pos rfl]
    dsimp only
    by_cases h3 : t < 3
    · rw [me_cell_i g5 ha ht h3]
      dsimp only
      rw [hY]
      rfl
    · rw [me_cell_p g5 ha ht h3]
      dsimp only
      rw [hY]
      rfl
theorem me_bald {a t n : Nat} {i : Int} (hI : mv_gI G y pc = some (.baload, 1)) (h3 : t = 1 ∨ t = 2) (h0 : 0 ≤ i) (h1 : i < n) (h2 : me_r i) (kk : me_W G y d (pc + 1) L (.inl (me_i M a i.toNat) :: r) M Q) : me_W G y d pc L (.inl i :: .inr (.inl (some a, 2 * t, n)) :: r) M Q := by
  refine me_st hI rfl (fun _ h => me_al_psh (v := .inl (me_i M a i.toNat)) (me_al_pop (me_al_pop h)) trivial) (fun lo hp g3 g4 g5 => ⟨lo, ?_, g3⟩) kk
  obtain ⟨ha, ht⟩ := me_hd (me_al_pop g4)
  obtain ⟨e1, e2⟩ := me_out h0 h1 h2
  show mv_g 1 1 (mv_bald pc lo (.int (Int32.ofInt i) :: .ref a :: r.map me_v) hp _ _) = _
  unfold mv_g mv_bald
  rw [if_pos rfl]
  dsimp only
  rw [me_cell_i g5 ha ht (by omega)]
  dsimp only
  rw [if_pos ⟨h3, e1⟩, e2, ← me_of (M.2.2.1 a i.toNat)]
  rfl
theorem me_aald {a t n : Nat} {i : Int} {ty : FieldType} (hI : mv_gI G y pc = some (.aaload, 1)) (h3 : ¬ t < 3) (hY : mv_gY G t = some ty) (hr : ty.isReference = true) (h0 : 0 ≤ i) (h1 : i < n) (h2 : me_r i) (kk : ∀ m, (∀ b, me_p M a i.toNat = some b → M.2.1 b = (sx_ek t, m)) → me_W G y d (pc + 1) L (.inr (.inl (me_p M a i.toNat, sx_ek t, m)) :: r) M Q) : me_W G y d pc L (.inl i :: .inr (.inl (some a, 2 * t, n)) :: r) M Q := by
  intro fb lb lo hp g1 g2 g3 g4 g5
  obtain ⟨ha, ht⟩ := me_hd (me_al_pop g4)
  have hty : ∀ b, me_p M a i.toNat = some b → b < M.1 ∧ (M.2.1 b).1 = sx_ek t := by
    intro b hb
    have h6 := (g5.2.2.2.1 a ha).2 (by rw [ht]; show 2 * t % 2 = 0; omega) (by rw [ht]; show 3 ≤ 2 * t / 2; omega) i.toNat b hb
    rw [ht, show (2 * t, n).1 / 2 = t by show 2 * t / 2 = t; omega] at h6
    exact h6
  obtain ⟨m, hm⟩ : ∃ m, ∀ b, me_p M a i.toNat = some b → M.2.1 b = (sx_ek t, m) := by
    cases hp9 : me_p M a i.toNat with
    | none => exact ⟨0, fun b hb => by cases hb⟩
    | some c => exact ⟨(M.2.1 c).2, fun b hb => by cases hb; rw [← (hty c hp9).2]⟩
  obtain ⟨e1, e2⟩ := me_out h0 h1 h2
  refine me_st (L' := L) (st' := .inr (.inl (me_p M a i.toNat, sx_ek t, m)) :: r) hI rfl (fun _ h => me_al_psh (me_al_pop (me_al_pop h)) ?_) (fun lo hp g3 g4 g5 => ⟨lo, ?_, g3⟩) (kk m hm) fb lb lo hp g1 g2 g3 g4 g5
  · cases hp9 : me_p M a i.toNat with
    | none => trivial
    | some c => exact ⟨(hty c hp9).1, hm c hp9⟩
  · show mv_g 1 1 (mv_aald G pc lo (.int (Int32.ofInt i) :: .ref a :: r.map me_v) hp _ _) = _
    unfold mv_g mv_aald
    rw [if_pos rfl]
    dsimp only
    rw [me_cell_p g5 ha ht h3]
    dsimp only
    rw [hY]
    dsimp only
    rw [if_pos ⟨hr, e1⟩, e2]
    rfl
theorem me_aald0 {a t n : Nat} {i : Int} {ty : FieldType} (hI : mv_gI G y pc = some (.aaload, 1)) (h3 : ¬ t < 3) (hY : mv_gY G t = some ty) (hr : ty.isReference = true) (h0 : 0 ≤ i) (h1 : i < n) (h2 : me_r i) (hk : sx_ek t % 2 = 1) (h15 : sx_ek t ≠ 15) (kk : me_W G y d (pc + 1) L (.inr (.inl (me_p M a i.toNat, sx_ek t, 0)) :: r) M Q) : me_W G y d pc L (.inl i :: .inr (.inl (some a, 2 * t, n)) :: r) M Q := by
  intro fb lb lo hp g1 g2 g3 g4 g5
  obtain ⟨ha, ht⟩ := me_hd (me_al_pop g4)
  refine me_aald hI h3 hY hr h0 h1 h2 (fun m hm => ?_) fb lb lo hp g1 g2 g3 g4 g5
  have hty : ∀ b, me_p M a i.toNat = some b → b < M.1 ∧ (M.2.1 b).1 = sx_ek t := by
    intro b hb
    have h6 := (g5.2.2.2.1 a ha).2 (by rw [ht]; show 2 * t % 2 = 0; omega) (by rw [ht]; show 3 ≤ 2 * t / 2; omega) i.toNat b hb
    rw [ht, show (2 * t, n).1 / 2 = t by show 2 * t / 2 = t; omega] at h6
    exact h6
  cases hp9 : me_p M a i.toNat with
  | none =>
    rw [hp9] at kk
    intro fb lb lo hp g1 g2 g3 g4 g5
    exact kk fb lb lo hp g1 g2 g3 ⟨g4.1, fun w hw => by
      rcases List.mem_cons.mp hw with rfl | hw
      · trivial
      · exact g4.2 w (List.mem_cons_of_mem _ hw)⟩ g5
  | some c =>
    have e : m = 0 := by
      obtain ⟨z1, z2⟩ := hty c hp9
      have z3 := ((g5.2.2.2.1 c z1).1 (by rw [z2]; exact hk)).1 (by rw [z2]; exact h15)
      have z4 := hm c hp9
      rw [z4] at z3
      exact z3
    subst e
    rw [hp9] at kk
    exact kk
theorem me_iast {a n : Nat} {i x : Int} (hI : mv_gI G y pc = some (.iastore, 1)) (h0 : 0 ≤ i) (h1 : i < n) (h2 : me_r i) (kk : me_W G y d (pc + 1) L r (me_sI M a i.toNat (Int32.ofInt x)) Q) : me_W G y d pc L (.inl x :: .inl i :: .inr (.inl (some a, 0, n)) :: r) M Q := by
  refine me_sm hI rfl (fun lo hp h4 h5 => ?_) kk
  obtain ⟨ha, ht⟩ := me_hd (me_al_pop (me_al_pop h4))
  obtain ⟨e1, e2⟩ := me_out h0 h1 h2
  refine ⟨_, ?_, me_sI_R h5 ha ⟨(fun z => by rw [ht] at z; cases z), (fun z => by rw [ht] at z; cases z)⟩, me_ext.rf _, me_al_pop (me_al_pop (me_al_pop h4))⟩
  show mv_g 1 1 (mv_iast pc lo (.int (Int32.ofInt x) :: .int (Int32.ofInt i) :: .ref a :: r.map me_v) hp _ _) = _
  unfold mv_g mv_iast
  rw [if_pos rfl]
  dsimp only
  rw [me_cell_i h5 ha (t := 0) ht (by decide)]
  show (if mv_out (Int32.ofInt i) n = true then none else _) = _
  have hc : me_c G (M.2.1 a) (fun j => if j = i.toNat then Int32.ofInt x else M.2.2.1 a j) (M.2.2.2.1 a) = .inl (0, n, .inl (upd (M.2.2.1 a) i.toNat (Int32.ofInt x))) := by
    unfold me_c
    rw [ht, if_neg (show ¬ (0 : Nat) % 2 = 1 by decide), if_pos (show (0 : Nat) / 2 < 3 by decide), show ((0, n) : Nat × Nat).1 / 2 = 0 by show (0 : Nat) / 2 = 0; decide]
    rfl
  rw [if_neg (by rw [e1]; decide), e2, hc]
  rfl
/-- what an array of bytes (1) or booleans (2) keeps of an int -/
def me_nar (t : Nat) (x : Int) : Int32 := if t = 1 then vp_nar .byte (Int32.ofInt x) else vp_nar .boolean (Int32.ofInt x)
theorem me_nar1 (x : Int) : mv_fitT 1 (me_nar 1 x) = true := by
  have h : ∀ z : Int8, (decide ((-128 : Int32) ≤ z.toInt32) && decide (z.toInt32 ≤ 127)) = true := by
    intro z
    rw [Bool.and_eq_true, decide_eq_true_iff, decide_eq_true_iff, Int32.le_iff_toInt_le, Int32.le_iff_toInt_le, Int8.toInt_toInt32]
    exact ⟨Int8.le_toInt z, Int8.toInt_le z⟩
  exact h (Int32.ofInt x).toInt8
theorem me_nar2 (x : Int) : mv_fitT 2 (me_nar 2 x) = true := by
  have h : ∀ z : Int32, ((z &&& 1) == 0 || (z &&& 1) == 1) = true := by
    intro z
    have h1 : z &&& 1 = 0 ∨ z &&& 1 = 1 := by
      have h2 : (z &&& 1).toBitVec = z.toBitVec &&& 1#32 := rfl
      rcases (by
        have := BitVec.and_one_eq_setWidth_ofBool_getLsbD (x := z.toBitVec)
        rw [this]
        cases z.toBitVec.getLsbD 0
        · exact Or.inl rfl
        · exact Or.inr rfl : z.toBitVec &&& 1#32 = 0#32 ∨ z.toBitVec &&& 1#32 = 1#32) with e | e
      · exact Or.inl (Int32.toBitVec_inj.mp (h2.trans e))
      · exact Or.inr (Int32.toBitVec_inj.mp (h2.trans e))
    rcases h1 with e | e <;> rw [e] <;> rfl
  exact h (Int32.ofInt x)
theorem me_bast {a t n : Nat} {i x : Int} (hI : mv_gI G y pc = some (.bastore, 1)) (h3 : t = 1 ∨ t = 2) (h0 : 0 ≤ i) (h1 : i < n) (h2 : me_r i) (kk : me_W G y d (pc + 1) L r (me_sI M a i.toNat (me_nar t x)) Q) : me_W G y d pc L (.inl x :: .inl i :: .inr (.inl (some a, 2 * t, n)) :: r) M Q := by
  refine me_sm hI rfl (fun lo hp h4 h5 => ?_) kk
  obtain ⟨ha, ht⟩ := me_hd (me_al_pop (me_al_pop h4))
  obtain ⟨e1, e2⟩ := me_out h0 h1 h2
  refine ⟨_, ?_, me_sI_R h5 ha ⟨fun z => by rw [ht] at z; have z : 2 * t = 2 := z; rw [show t = 1 by omega]; exact me_nar1 x, fun z => by rw [ht] at z; have z : 2 * t = 4 := z; rw [show t = 2 by omega]; exact me_nar2 x⟩, me_ext.rf _, me_al_pop (me_al_pop (me_al_pop h4))⟩
  show mv_g 1 1 (mv_bast pc lo (.int (Int32.ofInt x) :: .int (Int32.ofInt i) :: .ref a :: r.map me_v) hp _ _) = _
  unfold mv_g mv_bast
  rw [if_pos rfl]
  dsimp only
  rw [me_cell_i h5 ha ht (by omega)]
  dsimp only
  rw [if_pos e1, e2]
  have hc : me_c G (M.2.1 a) (fun j => if j = i.toNat then me_nar t x else M.2.2.1 a j) (M.2.2.2.1 a) = .inl (t, n, .inl (upd (M.2.2.1 a) i.toNat (me_nar t x))) := by
    unfold me_c
    rw [ht, if_neg (by show ¬ 2 * t % 2 = 1; omega), if_pos (by show 2 * t / 2 < 3; omega), show (2 * t, n).1 / 2 = t by show 2 * t / 2 = t; omega]
    rfl
  rw [hc]
  rcases h3 with rfl | rfl
  · rw [if_pos rfl]
    rfl
  · rw [if_neg (by decide), if_pos rfl]
    rfl
/-- an object, or null, into an array of objects -/
theorem me_aast {a t n ce : Nat} {i : Int} {p : Option Nat} {q' : Nat × Nat} (hI : mv_gI G y pc = some (.aastore, 1)) (h3 : ¬ t < 3) (hE : mv_gE G t = some ce) (hk : sx_ek t = 2 * ce + 1) (hq : p = none ∨ q'.1 = sx_ek t) (h0 : 0 ≤ i) (h1 : i < n) (h2 : me_r i) (kk : me_W G y d (pc + 1) L r (me_sP M a i.toNat p) Q) : me_W G y d pc L (.inr (.inl (p, q')) :: .inl i :: .inr (.inl (some a, 2 * t, n)) :: r) M Q := by
  intro fb lb lo hp g1 g2 g3 g4 g5
  obtain ⟨ha, ht⟩ := me_hd (me_al_pop (me_al_pop g4))
  have hv := me_hd g4
  have hb : ∀ b, p = some b → b < M.1 ∧ (M.2.1 b).1 = sx_ek t := by
    intro b hb
    subst hb
    rcases hq with e | e
    · cases e
    · exact ⟨hv.1, by rw [hv.2]; exact e⟩
  obtain ⟨e1, e2⟩ := me_out h0 h1 h2
  have e5 : (M.2.1 a).1 / 2 = t := by rw [ht]; show 2 * t / 2 = t; omega
  have e6 : ¬ (M.2.1 a).1 % 2 = 1 := by rw [ht]; show ¬ 2 * t % 2 = 1; omega
  have hR := me_sP_R (k := i.toNat) (p := p) g5 ha (fun z => absurd z e6) (fun _ => by rw [e5]; exact hb) (fun z => absurd z e6)
  have hc : me_c G (M.2.1 a) (M.2.2.1 a) (fun j => if j = i.toNat then p else M.2.2.2.1 a j) = .inl (t, n, .inr (.inr (.inr (.inr (va_up (M.2.2.2.1 a) i.toNat p))))) := by
    unfold me_c
    rw [if_neg e6, e5, if_neg h3, ht]
    rfl
  rw [hc] at hR
  obtain ⟨o, M', hp', k1, k2, k3, k4⟩ := kk fb lb lo _ g1 g2 g3 (me_al_pop (me_al_pop (me_al_pop g4))) hR
  refine ⟨o, M', hp', me_ex (S' := (pc + 1, lo, r.map me_v, _, M.2.2.2.2.1, M.2.2.2.2.2)) ?_ ?_ k1, k2, k3, k4⟩
  · unfold mv_nat
    simp only [hI]
    cases p with
    | none => rfl
    | some b =>
      show mv_aasA G pc lo (.ref b :: .int _ :: .ref a :: r.map me_v) hp _ _ = none
      unfold mv_aasA
      obtain ⟨z1, z2⟩ := hb b rfl
      have z3 := me_cell_ob (ci := ce) g5 z1 rfl (by rw [z2, hk])
      simp only [me_cell_p g5 ha ht h3, z3]
  · unfold mv_exec
    simp only [hI]
    show mv_og (mv_g 1 1 (mv_aast G pc lo (va_rf p :: .int (Int32.ofInt i) :: .ref a :: r.map me_v) hp _ _)) = _
    unfold mv_g mv_aast
    rw [if_pos rfl]
    dsimp only
    rw [me_cell_p g5 ha ht h3]
    dsimp only
    rw [hE]
    dsimp only
    rw [if_pos e1, e2]
    cases p with
    | none => rfl
    | some b =>
      obtain ⟨z1, z2⟩ := hb b rfl
      have z3 := me_cell_ob (ci := ce) g5 z1 rfl (by rw [z2, hk])
      show mv_og (match hp[b]? with
        | some (.inr (cj, _)) => if cj = ce then _ else none
        | _ => none) = _
      rw [z3]
      dsimp only
      rw [if_pos rfl]
      rfl
/-- an array into an array of such -/
theorem me_aasA {a b t t2 n n2 : Nat} {i : Int} (hI : mv_gI G y pc = some (.aastore, 1)) (h3 : ¬ t < 3) (hB : mv_gB G t = some t2) (hk : sx_ek t = 2 * t2) (h0 : 0 ≤ i) (h1 : i < n) (h2 : me_r i) (kk : me_W G y d (pc + 1) L r (me_sP M a i.toNat (some b)) Q) : me_W G y d pc L (.inr (.inl (some b, 2 * t2, n2)) :: .inl i :: .inr (.inl (some a, 2 * t, n)) :: r) M Q := by
  intro fb lb lo hp g1 g2 g3 g4 g5
  obtain ⟨ha, ht⟩ := me_hd (me_al_pop (me_al_pop g4))
  obtain ⟨hb1, hb2⟩ := me_hd g4
  obtain ⟨e1, e2⟩ := me_out h0 h1 h2
  have e5 : (M.2.1 a).1 / 2 = t := by rw [ht]; show 2 * t / 2 = t; omega
  have e6 : ¬ (M.2.1 a).1 % 2 = 1 := by rw [ht]; show ¬ 2 * t % 2 = 1; omega
  have hR := me_sP_R (k := i.toNat) (p := some b) g5 ha (fun z => absurd z e6) (fun _ c hc => by cases hc; exact ⟨hb1, by rw [hb2, e5, hk]⟩) (fun z => absurd z e6)
  have hc : me_c G (M.2.1 a) (M.2.2.1 a) (fun j => if j = i.toNat then some b else M.2.2.2.1 a j) = .inl (t, n, .inr (.inr (.inr (.inr (va_up (M.2.2.2.1 a) i.toNat (some b)))))) := by
    unfold me_c
    rw [if_neg e6, e5, if_neg h3, ht]
    rfl
  rw [hc] at hR
  obtain ⟨o, M', hp', k1, k2, k3, k4⟩ := kk fb lb lo _ g1 g2 g3 (me_al_pop (me_al_pop (me_al_pop g4))) hR
  refine ⟨o, M', hp', me_na (S' := (pc + 1, lo, r.map me_v, _, M.2.2.2.2.1, M.2.2.2.2.2)) ?_ k1, k2, k3, k4⟩
  unfold mv_nat
  simp only [hI]
  show mv_aasA G pc lo (.ref b :: .int (Int32.ofInt i) :: .ref a :: r.map me_v) hp _ _ = _
  unfold mv_aasA
  have hcb : ∃ z, hp[b]? = some (.inl (t2, z)) := by
    by_cases h9 : t2 < 3
    · exact ⟨_, me_cell_i g5 hb1 hb2 h9⟩
    · exact ⟨_, me_cell_p g5 hb1 hb2 h9⟩
  obtain ⟨z, hz⟩ := hcb
  simp only [me_cell_p g5 ha ht h3, hz]
  rw [if_pos ⟨hB, e1⟩, e2]
end MES
end
section
/-! the rules of me_: what is made, calls, ends, natives -/
theorem me_args_at : ∀ (vs : List me_V) (i j k : Nat) (v : me_V), vs[j]? = some v → mv_find (i + j) (lv_args i (vs.map me_v)) k = some (k + j, me_v v)
  | [], _, _, _, _, h => by simp at h
  | w :: r, i, j, k, v, h => by
    rw [List.map_cons, lv_args]
    unfold mv_find
    rcases j with _ | j
    · rw [if_pos (by rfl)]
      simp at h
      rw [h]
      rfl
    · have e : (if (me_v w).category = 2 then i + 2 else i + 1) = i + 1 := by rw [me_v_cat]; rfl
      rw [if_neg (by show ¬ i = i + (j + 1); omega), e, show i + (j + 1) = i + 1 + j by omega, show k + (j + 1) = k + 1 + j by omega]
      exact me_args_at r (i + 1) j (k + 1) v (by simpa using h)
theorem me_args (as : List me_V) (m : Nat) : me_lo (as.map some ++ List.replicate m none) (lv_args 0 (as.map me_v)) := by
  intro i v h
  by_cases hi : i < as.length
  · rw [List.getElem?_append_left (by rw [List.length_map]; exact hi), List.getElem?_map] at h
    rw [Option.map_eq_some_iff] at h
    obtain ⟨w, h1, h2⟩ := h
    cases h2
    have := me_args_at as 0 i 0 v h1
    rw [Nat.zero_add] at this
    exact ⟨_, this⟩
  · rw [List.getElem?_append_right (by rw [List.length_map]; omega), List.getElem?_replicate] at h
    split at h <;> cases h
theorem me_sl (as : List me_V) : (lg_sl (as.map me_v)).length = as.length := by
  induction as with
  | nil => rfl
  | cons v r ih =>
    rw [List.map_cons]
    unfold lg_sl at ih ⊢
    rw [List.flatMap_cons, List.length_append, ih, if_neg (by rw [me_v_cat]; decide)]
    simp
    omega
theorem me_cats (r : List me_V) : ((r.map me_v).map fun v => v.category).sum = r.length := by
  induction r with
  | nil => rfl
  | cons v r ih =>
    rw [List.map_cons, List.map_cons, List.sum_cons, ih, me_v_cat, List.length_cons]
    omega
section MET
variable {G : mv_G} {y d pc : Nat} {L : List (Option me_V)} {st r : List me_V} {M : me_M} {Q : me_Q} {hp : List va_E}
theorem me_nw_ext (M : me_M) (q : Nat × Nat) (s : Nat) : me_ext M (me_nw M q s) := ⟨Nat.le_succ _, fun a ha => if_neg (by omega)⟩
theorem me_nw_R {q : Nat × Nat} {s : Nat} (h : me_R G M hp) (hle : q.2 ≤ 134217728) (hc : 1 ≤ M.2.2.2.2.1) (hq : q.1 % 2 = 1 → (q.1 ≠ 15 → q.2 = 0) ∧ ∀ k, sx_fin (q.1 / 2) q.2 k = none) : me_R G (me_nw M q s) (hp ++ [me_c G q (fun _ => 0) (fun _ => none)]) := by
  have hlen := h.1
  refine ⟨by rw [List.length_append, h.1]; rfl, ?_, fun a ha => ?_, fun a ha => ?_, fun a ha => ?_, fun a ha => ?_, fun a ha i => ?_⟩
  · show M.1 + 1 + (M.2.2.2.2.1 - 1) ≤ 2000000
    have := h.2.1
    omega
  · show (hp ++ [_])[a]? = some (me_c G (if a = M.1 then q else M.2.1 a) (fun j => if a = M.1 then 0 else M.2.2.1 a j) (fun j => if a = M.1 then none else M.2.2.2.1 a j))
    by_cases e : a = M.1
    · subst e
      rw [List.getElem?_append_right (by omega), h.1, Nat.sub_self]
      simp only [if_pos]
      rfl
    · have ha : a < M.1 := by
        have : a < M.1 + 1 := ha
        omega
      rw [List.getElem?_append_left (by omega), h.2.2.1 a ha]
      simp only [if_neg e]
  · show ((if a = M.1 then q else M.2.1 a).1 % 2 = 1 → ((if a = M.1 then q else M.2.1 a).1 ≠ 15 → (if a = M.1 then q else M.2.1 a).2 = 0) ∧ ∀ k b, me_ik G ((if a = M.1 then q else M.2.1 a).1 / 2) k = false → (if a = M.1 then none else M.2.2.2.1 a k) = some b → b < M.1 + 1 ∧ (if b = M.1 then q else M.2.1 b).1 = sx_fk ((if a = M.1 then q else M.2.1 a).1 / 2) k) ∧ ((if a = M.1 then q else M.2.1 a).1 % 2 = 0 → 3 ≤ (if a = M.1 then q else M.2.1 a).1 / 2 → ∀ i b, (if a = M.1 then none else M.2.2.2.1 a i) = some b → b < M.1 + 1 ∧ (if b = M.1 then q else M.2.1 b).1 = sx_ek ((if a = M.1 then q else M.2.1 a).1 / 2))
    by_cases e : a = M.1
    · simp only [if_pos e]
      exact ⟨fun ho => ⟨(hq ho).1, fun k b _ hb => by cases hb⟩, fun _ _ i b hb => by cases hb⟩
    · simp only [if_neg e]
      have ha : a < M.1 := by
        have : a < M.1 + 1 := ha
        omega
      have h1 := h.2.2.2.1 a ha
      refine ⟨fun ho => ⟨(h1.1 ho).1, fun k b hk hb => ?_⟩, fun he h3 i b hb => ?_⟩
      · obtain ⟨z1, z2⟩ := (h1.1 ho).2 k b hk hb
        exact ⟨by omega, by rw [if_neg (by omega)]; exact z2⟩
      · obtain ⟨z1, z2⟩ := h1.2 he h3 i b hb
        exact ⟨by omega, by rw [if_neg (by omega)]; exact z2⟩
  · show (if a = M.1 then q else M.2.1 a).1 % 2 = 1 → ∀ k sg off q', sx_fin ((if a = M.1 then q else M.2.1 a).1 / 2) (if a = M.1 then q else M.2.1 a).2 k = some (sg, off, q') → (if a = M.1 then none else M.2.2.2.1 a k) = some (sx_tg a sg off) ∧ sx_tg a sg off < M.1 + 1 ∧ (if sx_tg a sg off = M.1 then q else M.2.1 (sx_tg a sg off)) = q'
    by_cases e : a = M.1
    · simp only [if_pos e]
      intro ho k sg off q' hf
      rw [(hq ho).2 k] at hf
      cases hf
    · simp only [if_neg e]
      have ha : a < M.1 := by
        have : a < M.1 + 1 := ha
        omega
      intro ho k sg off q' hf
      obtain ⟨z1, z2, z3⟩ := h.2.2.2.2.1 a ha ho k sg off q' hf
      exact ⟨z1, by omega, by rw [if_neg (by omega)]; exact z3⟩
  · show (if a = M.1 then q else M.2.1 a).2 ≤ _
    by_cases e : a = M.1
    · rw [if_pos e]
      exact hle
    · rw [if_neg e]
      have ha : a < M.1 + 1 := ha
      exact h.2.2.2.2.2.1 a (by omega)
  · show ((if a = M.1 then q else M.2.1 a).1 = 2 → mv_fitT 1 (if a = M.1 then 0 else M.2.2.1 a i) = true) ∧ ((if a = M.1 then q else M.2.1 a).1 = 4 → mv_fitT 2 (if a = M.1 then 0 else M.2.2.1 a i) = true)
    by_cases e : a = M.1
    · rw [if_pos e, if_pos e]
      exact ⟨fun _ => by decide, fun _ => by decide⟩
    · rw [if_neg e, if_neg e]
      have ha : a < M.1 + 1 := ha
      exact h.2.2.2.2.2.2 a (by omega) i
theorem me_new {idx ci : Nat} (hI : mv_gI G y pc = some (.new idx, 3)) (hN : mv_gN G y idx = some ci) (hX : ci ≠ mv_gX G) (hD : me_fs G ci (fun _ => 0) (fun _ => none) = mv_gD G ci) (hs : ∀ k, sx_fin ci 0 k = none) (hc : 1 ≤ M.2.2.2.2.1) (hb : mv_gZ G ci ≤ M.2.2.2.2.2) (kk : me_W G y d (pc + 3) L (.inr (.inl (some M.1, 2 * ci + 1, 0)) :: st) (me_nw M (2 * ci + 1, 0) (mv_gZ G ci)) Q) : me_W G y d pc L st M Q := by
  intro fb lb lo hp g1 g2 g3 g4 g5
  have hR := me_nw_R (q := (2 * ci + 1, 0)) (s := mv_gZ G ci) g5 (Nat.zero_le _) hc (fun _ => ⟨fun _ => rfl, fun k => by show sx_fin ((2 * ci + 1) / 2) 0 k = none; rw [show (2 * ci + 1) / 2 = ci by omega]; exact hs k⟩)
  have hal : me_al (me_nw M (2 * ci + 1, 0) (mv_gZ G ci)) L (.inr (.inl (some M.1, 2 * ci + 1, 0)) :: st) := me_al_psh (g4.ext (me_nw_ext _ _ _)) ⟨Nat.lt_succ_self _, if_pos rfl⟩
  obtain ⟨o, M', hp', k1, k2, k3, k4⟩ := kk fb lb lo _ g1 g2 g3 hal hR
  refine ⟨o, M', hp', me_ex (S' := (pc + 3, lo, (.inr (.inl (some M.1, 2 * ci + 1, 0)) :: st).map me_v, _, M.2.2.2.2.1 - 1, M.2.2.2.2.2 - mv_gZ G ci)) ?_ ?_ k1, k2, (me_nw_ext _ _ _).tr k3, k4⟩
  · unfold mv_nat
    simp only [hI, hN]
    rw [if_neg hX]
  · unfold mv_exec
    simp only [hI]
    show mv_og (mv_g 3 3 (mv_new G y pc lo (st.map me_v) hp _ _ idx)) = _
    unfold mv_g mv_new
    rw [if_pos rfl, hN]
    dsimp only
    rw [if_pos ⟨hc, hb⟩, g5.1]
    have e : me_c G (2 * ci + 1, 0) (fun _ => 0) (fun _ => none) = .inr (ci, mv_gD G ci) := by
      unfold me_c
      rw [if_pos (by show (2 * ci + 1) % 2 = 1; omega), show ((2 * ci + 1, 0) : Nat × Nat).1 / 2 = ci by show (2 * ci + 1) / 2 = ci; omega, hD]
    rw [e]
    rfl
theorem me_newa {at_ : ArrayType} {t : Nat} {n : Int} (hI : mv_gI G y pc = some (.newarray at_, 2)) (hp9 : mv_prim at_ = some t) (ht : t < 3) (h0 : 0 ≤ n) (h1 : n ≤ 134217728) (hc : 1 ≤ M.2.2.2.2.1) (hb : n.toNat ≤ M.2.2.2.2.2) (kk : me_W G y d (pc + 2) L (.inr (.inl (some M.1, 2 * t, n.toNat)) :: r) (me_nw M (2 * t, n.toNat) n.toNat) Q) : me_W G y d pc L (.inl n :: r) M Q := by
  have hR0 : me_r n := ⟨by omega, by omega⟩
  have e1 : (Int32.ofInt n).toInt = n := me_w_eq hR0
  have e2 : (Int32.ofInt n).toNatClampNeg = n.toNat := by
    show (Int32.ofInt n).toInt.toNat = _
    rw [e1]
  refine me_sm (pc' := pc + 2) (M1 := me_nw M (2 * t, n.toNat) n.toNat) (st' := .inr (.inl (some M.1, 2 * t, n.toNat)) :: r) hI rfl (fun lo hp g4 g5 => ?_) ?_
  · refine ⟨_, ?_, me_nw_R (q := (2 * t, n.toNat)) (s := n.toNat) g5 (by show n.toNat ≤ _; omega) hc (fun z => by have z : 2 * t % 2 = 1 := z; omega), me_nw_ext _ _ _, me_al_psh ((me_al_pop g4).ext (me_nw_ext _ _ _)) ⟨Nat.lt_succ_self _, if_pos rfl⟩⟩
    show mv_g 2 2 (mv_newa pc lo (.int (Int32.ofInt n) :: r.map me_v) hp _ _ at_) = _
    unfold mv_g mv_newa
    rw [if_pos rfl]
    dsimp only
    rw [hp9]
    dsimp only
    rw [e2, if_pos ⟨by rw [Int32.lt_iff_toInt_lt, e1]; have : (0 : Int32).toInt = 0 := rfl; omega, by omega, hc, hb⟩, g5.1]
    have e : me_c G (2 * t, n.toNat) (fun _ => 0) (fun _ => none) = .inl (t, n.toNat, .inl (fun _ => 0)) := by
      unfold me_c
      rw [if_neg (by show ¬ 2 * t % 2 = 1; omega), if_pos (by show 2 * t / 2 < 3; omega), show ((2 * t, n.toNat) : Nat × Nat).1 / 2 = t by show 2 * t / 2 = t; omega]
    rw [e]
    rfl
  · exact kk
/-- where what is thrown goes -/
def me_thr (G : mv_G) (y d pc : Nat) (L : List (Option me_V)) (a : Nat) (M : me_M) (Q : me_Q) : Prop := match mv_hand (mv_gH G y) pc with
  | none => Q (.inl a) M
  | some (h, _) => me_W G y d h L [.inr (.inl (some a, 2 * mv_gX G + 1, 0))] M Q
/-- what a call's end leads to -/
def me_back (G : mv_G) (y d pc len : Nat) (L : List (Option me_V)) (r : List me_V) (Q : me_Q) : me_Q := fun o M => match o with
  | .inr (some v) => me_W G y d (pc + len) L (v :: r) M Q
  | .inr none => me_W G y d (pc + len) L r M Q
  | .inl a => me_thr G y d pc L a M Q
theorem me_take {fb lb : Nat} {lo : List (Nat × Value)} {st9 : List Value} {a m : Nat} (h1 : d ≤ fb) (h2 : 60 * d ≤ lb) (h3 : me_lo L lo) (h4 : ∀ v, some v ∈ L → me_an M v) (h5 : me_R G M hp) (ha : a < M.1 ∧ M.2.1 a = (2 * mv_gX G + 1, 0)) (k : me_thr G y d pc L a M Q) : ∃ (o : me_O) (M' : me_M) (hp' : List va_E), (∃ n, m ≤ n ∧ mv_take G y (mv_run G n y fb lb) a (pc, lo, st9, hp, M.2.2.2.2.1, M.2.2.2.2.2) = some (me_o o, hp', M'.2.2.2.2.1, M'.2.2.2.2.2)) ∧ me_R G M' hp' ∧ me_ext M M' ∧ me_oa G M' o ∧ Q o M' := by
  unfold me_thr at k
  unfold mv_take
  cases hh : mv_hand (mv_gH G y) pc with
  | none =>
    rw [hh] at k
    exact ⟨.inl a, M, hp, ⟨m, Nat.le_refl _, rfl⟩, h5, me_ext.rf _, ha, k⟩
  | some q =>
    obtain ⟨h, ct⟩ := q
    rw [hh] at k
    obtain ⟨o, M', hp', ⟨n, k1⟩, k2⟩ := k fb lb lo hp h1 h2 h3 ⟨h4, fun v hv => by
      rcases List.mem_singleton.mp hv with rfl
      exact ha⟩ h5
    refine ⟨o, M', hp', ⟨m + n, Nat.le_add_right _ _, ?_⟩, k2⟩
    dsimp only
    rw [me_cell_ob (ci := mv_gX G) h5 ha.1 ha.2 rfl]
    dsimp only
    rw [if_pos rfl]
    exact mv_fuel G (Nat.le_add_left _ _) k1
/-- a call of method z -/
theorem me_call {z len : Nat} {as : List me_V} {st9 : List Value} (hL : as.length ≤ mv_gL G z) (hb : r.length + (mv_gL G z + 11) ≤ 60)
    (hn : ∀ (fb lb : Nat) (lo : List (Nat × Value)) (hp : List va_E) (cb sb : Nat), mv_nat G y fb lb (pc, lo, st9, hp, cb, sb) = none)
    (hx : ∀ (lo : List (Nat × Value)) (hp : List va_E) (cb sb : Nat), me_R G M hp → mv_exec G y (pc, lo, st9, hp, cb, sb) = some (.inr (.inl (z, as.map me_v, r.map me_v, len))))
    (h9 : st.map me_v = st9) (hal : me_al M L st → me_al M L r ∧ ∀ v ∈ as, me_an M v)
    (kk : me_W G z d 0 (as.map some ++ List.replicate (mv_gL G z - as.length) none) [] M (me_back G y (d + 1) pc len L r Q)) : me_W G y (d + 1) pc L st M Q := by
  intro fb lb lo hp g1 g2 g3 g4 g5
  obtain ⟨a1, a2⟩ := hal g4
  obtain ⟨o, M', hp', ⟨n, k1⟩, k2, k3, k4, k5⟩ := kk (fb - 1) (lb - (((r.map me_v).map fun v => v.category).sum + (mv_gL G z + 11))) (lv_args 0 (as.map me_v)) hp (by omega) (by rw [me_cats]; omega) (me_args as _) ⟨fun v hv => by
    rcases List.mem_append.mp hv with hv | hv
    · obtain ⟨w, hw, e⟩ := List.mem_map.mp hv
      cases e
      exact a2 v hw
    · exact absurd (List.eq_of_mem_replicate hv) (by simp), fun v hv => by cases hv⟩ g5
  rw [h9]
  have room : 1 ≤ fb ∧ ((r.map me_v).map fun v => v.category).sum + (mv_gL G z + 11) ≤ lb ∧ (lg_sl (as.map me_v)).length ≤ mv_gL G z := ⟨by omega, by rw [me_cats]; omega, by rw [me_sl]; exact hL⟩
  have run : ∀ n', mv_run G (n' + 1) y fb lb (pc, lo, st9, hp, M.2.2.2.2.1, M.2.2.2.2.2) = match mv_run G n' z (fb - 1) (lb - (((r.map me_v).map fun v => v.category).sum + (mv_gL G z + 11))) (0, lv_args 0 (as.map me_v), [], hp, M.2.2.2.2.1, M.2.2.2.2.2) with
        | none => none
        | some (.inr v, hp, cb, sb) => mv_run G n' y fb lb (pc + len, lo, v.toList ++ r.map me_v, hp, cb, sb)
        | some (.inl a, hp, cb, sb) => mv_take G y (mv_run G n' y fb lb) a (pc, lo, [], hp, cb, sb) := by
    intro n'
    rw [mv_run, hn]
    dsimp only
    rw [hx lo hp _ _ g5]
    dsimp only
    rw [if_pos room]
    rfl
  rw [List.map_nil] at k1
  have a1 := a1.ext k3
  rcases o with a | _ | v
  · obtain ⟨o, M2, hp2, ⟨n2, hle, j1⟩, j2, j3, j4⟩ := me_take (m := n) (st9 := []) (d := d + 1) (fb := fb) (lb := lb) g1 g2 g3 a1.1 k2 k4 k5
    refine ⟨o, M2, hp2, ⟨n2 + 1, ?_⟩, j2, k3.tr j3, j4⟩
    rw [run, mv_fuel G hle k1]
    exact j1
  · obtain ⟨o, M2, hp2, ⟨n2, j1⟩, j2, j3, j4⟩ := k5 fb lb lo hp' g1 g2 g3 a1 k2
    refine ⟨o, M2, hp2, ⟨n + n2 + 1, ?_⟩, j2, k3.tr j3, j4⟩
    rw [run, mv_fuel G (Nat.le_add_right _ _) k1]
    exact mv_fuel G (Nat.le_add_left _ _) j1
  · obtain ⟨o, M2, hp2, ⟨n2, j1⟩, j2, j3, j4⟩ := k5 fb lb lo hp' g1 g2 g3 (me_al_psh a1 k4) k2
    refine ⟨o, M2, hp2, ⟨n + n2 + 1, ?_⟩, j2, k3.tr j3, j4⟩
    rw [run, mv_fuel G (Nat.le_add_right _ _) k1]
    exact mv_fuel G (Nat.le_add_left _ _) j1
end MET
end
section
/-! what a place leads to, as a tree of words (sx): printed by evaluation, held by sx_ok -/
def sx_g (len m : Nat) (P : Prop) : Prop := match Nat.beq len m with
  | true => P
  | false => False
theorem sx_g_eq {len m : Nat} {P : Prop} (h : sx_g len m P) : len = m ∧ P := by
  unfold sx_g at h
  split at h
  · rename_i e
    exact ⟨Nat.eq_of_beq_eq_true e, h⟩
  · exact h.elim
def sx_b (b : Bool) (P : Prop) : Prop := match b with
  | true => P
  | false => False
theorem sx_b_eq {b : Bool} {P : Prop} (h : sx_b b P) : b = true ∧ P := by
  unfold sx_b at h
  split at h
  · exact ⟨rfl, h⟩
  · exact h.elim
def sx_ld (L : List (Option me_V)) (q : Nat) (int : Bool) (K : me_V → Prop) : Prop := match L[q]? with
  | some (some (.inl x)) => sx_b int (K (.inl x))
  | some (some (.inr p)) => sx_b (!int) (K (.inr p))
  | _ => False
def me_dr (p : Option Nat) (K : Nat → Prop) : Prop := match p with
  | some a => K a
  | none => False
def sx_cd (c : Jvm.ClassFile.Cond) (x y : Int) (A B : Prop) : Prop := match c with
  | .eq => (x = y → A) ∧ (¬ x = y → B)
  | .ne => (¬ x = y → A) ∧ (x = y → B)
  | .lt => (x < y → A) ∧ (y ≤ x → B)
  | .ge => (y ≤ x → A) ∧ (x < y → B)
  | .gt => (y < x → A) ∧ (x ≤ y → B)
  | .le => (x ≤ y → A) ∧ (y < x → B)
theorem sx_cd_eq {c : Jvm.ClassFile.Cond} {x y : Int} {A B : Prop} (h : sx_cd c x y A B) : (me_cond c x y → A) ∧ (¬ me_cond c x y → B) := by
  cases c <;> unfold sx_cd at h <;> unfold me_cond <;> refine ⟨h.1, fun q => h.2 ?_⟩ <;> first | exact q | omega
def sx_t (pc : Nat) (off : Int) (K : Nat → Prop) : Prop := match mv_tgt pc off with
  | some t => K t
  | none => False
theorem sx_t_eq {pc : Nat} {off : Int} {K : Nat → Prop} (h : sx_t pc off K) : ∃ t, mv_tgt pc off = some t ∧ K t := by
  unfold sx_t at h
  split at h
  · rename_i t e
    exact ⟨t, e, h⟩
  · exact h.elim
/-- each case of a switch -/
def sx_all : List Int → Int → (Int → Int → Prop) → Prop
  | [], _, _ => True
  | off :: r, v, K => K v off ∧ sx_all r (v + 1) K
def sx_lk : List (Int × Int) → Int → (Int → Prop) → Prop → Prop
  | [], _, _, D => D
  | (v, off) :: r, x, K, D => (x = v → K off) ∧ (¬ x = v → sx_lk r x K D)
def me_cp (M : me_M) (a0 a1 sp dp n : Nat) : me_M := (M.1, M.2.1, fun b j => if b = a1 then va_cpy (M.2.2.1 a0) (M.2.2.1 a1) sp dp n j else M.2.2.1 b j, M.2.2.2)
/-- a text -/
def sx_tx (G : mv_G) (a : Nat) (K : List Int32 → Prop) : Prop := match mv_gX2 G a with
  | some tx => K tx
  | none => False
/-- the ends of a call: none, an int, a pointer or null; or a thrown object -/
def sx_qV (P : me_M → Prop) (E : Nat → me_M → Prop) : me_Q := fun o M => match o with
  | .inr none => P M
  | .inl a => E a M
  | _ => False
def sx_qI (P : Int → me_M → Prop) (E : Nat → me_M → Prop) : me_Q := fun o M => match o with
  | .inr (some (.inl x)) => P x M
  | .inl a => E a M
  | _ => False
def sx_qP (P : Option Nat → Nat × Nat → me_M → Prop) (E : Nat → me_M → Prop) : me_Q := fun o M => match o with
  | .inr (some (.inr (.inl (p, q)))) => P p q M
  | .inl a => E a M
  | _ => False
section SXC
variable (G : mv_G) (Q : me_Q) (k : Nat → Nat → List (Option me_V) → List me_V → me_M → Prop)
/-- what follows a call's end; the kind of what method z returns: sx_rk z -/
def sx_back (y d pc len z : Nat) (L : List (Option me_V)) (r : List me_V) : me_Q := fun o M => match o with
  | .inr (some (.inl x)) => k d (pc + len) L (.inl x :: r) M
  | .inr (some (.inr (.inl (p, q)))) => q.1 = sx_rk z ∧ match Nat.beq (sx_rk z % 2) 1 with
    | true => q.2 = 0 ∧ k d (pc + len) L (.inr (.inl (p, sx_rk z, 0)) :: r) M
    | false => k d (pc + len) L (.inr (.inl (p, sx_rk z, q.2)) :: r) M
  | .inr (some (.inr (.inr _))) => False
  | .inr none => k d (pc + len) L r M
  | .inl a => match mv_hand (mv_gH G y) pc with
    | none => Q (.inl a) M
    | some (h, _) => k d h L [.inr (.inl (some a, 2 * mv_gX G + 1, 0))] M
def sx_call (y d pc len z : Nat) (as : List me_V) (L : List (Option me_V)) (r : List me_V) (M : me_M) : Prop := sx_b (Nat.ble as.length (mv_gL G z) && Nat.ble (r.length + (mv_gL G z + 11)) 60) (∃ d', d = d' + 1 ∧ me_W G z d' 0 (as.map some ++ List.replicate (mv_gL G z - as.length) none) [] M (sx_back G Q k y d pc len z L r))
/-- what follows a thrown end -/
def sx_E (y d pc : Nat) (L : List (Option me_V)) : Nat → me_M → Prop := fun a M => match mv_hand (mv_gH G y) pc with
  | none => Q (.inl a) M
  | some (h, _) => k d h L [.inr (.inl (some a, 2 * mv_gX G + 1, 0))] M
def sx_bk (y d pc len z : Nat) (L : List (Option me_V)) (r : List me_V) : me_Q := match sx_rt z with
  | 0 => sx_qV (fun M => k d (pc + len) L r M) (sx_E G Q k y d pc L)
  | 1 => sx_qI (fun x M => k d (pc + len) L (.inl x :: r) M) (sx_E G Q k y d pc L)
  | _ => match Nat.beq (sx_rk z % 2) 1 with
    | true => sx_qP (fun p q M => q = (sx_rk z, 0) ∧ k d (pc + len) L (.inr (.inl (p, sx_rk z, 0)) :: r) M) (sx_E G Q k y d pc L)
    | false => sx_qP (fun p q M => q.1 = sx_rk z ∧ k d (pc + len) L (.inr (.inl (p, sx_rk z, q.2)) :: r) M) (sx_E G Q k y d pc L)
def sx_cl (y d pc len z : Nat) (as : List me_V) (L : List (Option me_V)) (r : List me_V) (M : me_M) : Prop := sx_b (Nat.ble as.length (mv_gL G z) && Nat.ble (r.length + (mv_gL G z + 11)) 60) (∃ d', d = d' + 1 ∧ me_W G z d' 0 (as.map some ++ List.replicate (mv_gL G z - as.length) none) [] M (sx_bk G Q k y d pc len z L r))
theorem sx_bk_ok {y d pc len z : Nat} {L : List (Option me_V)} {r : List me_V} {o : me_O} {M : me_M} (h : sx_bk G Q k y d pc len z L r o M) : sx_back G Q k y d pc len z L r o M := by
  unfold sx_bk at h
  rcases hz : sx_rt z with _ | _ | n
  · rw [hz] at h
    rcases o with a | _ | x | ⟨p, q⟩ | j <;> first | exact h | exact h.elim
  · rw [hz] at h
    rcases o with a | _ | x | ⟨p, q⟩ | j <;> first | exact h | exact h.elim
  · rw [hz] at h
    rcases e : Nat.beq (sx_rk z % 2) 1 with _ | _
    · simp only [e] at h
      rcases o with a | _ | x | ⟨p, q⟩ | j <;> first | exact h.elim | exact h | skip
      obtain ⟨h1, h2⟩ := h
      unfold sx_back
      dsimp only
      rw [e]
      exact ⟨h1, h2⟩
    · simp only [e] at h
      rcases o with a | _ | x | ⟨p, q⟩ | j <;> first | exact h.elim | exact h | skip
      obtain ⟨h1, h2⟩ := h
      unfold sx_back
      dsimp only
      rw [e, h1]
      exact ⟨rfl, rfl, h2⟩
theorem sx_cl_ok {y d pc len z : Nat} {as : List me_V} {L : List (Option me_V)} {r : List me_V} {M : me_M} (h : sx_cl G Q k y d pc len z as L r M) : sx_call G Q k y d pc len z as L r M := by
  obtain ⟨h1, d', h2, h3⟩ := sx_b_eq h
  unfold sx_call
  rw [h1]
  exact ⟨d', h2, h3.mono fun o M' _ h => sx_bk_ok G Q k h⟩
end SXC
section SX
variable (G : mv_G) (kn : Nat → Nat → Option Int) (pv : Nat) (y : Nat) (Q : me_Q) (k : Nat → Nat → List (Option me_V) → List me_V → me_M → Prop)
/-- one instruction; k: what follows -/
def sx_i (d pc len : Nat) (L : List (Option me_V)) (st : List me_V) (M : me_M) : Instr → Prop
  | .aconst_null => sx_g len 1 (k d (pc + 1) L (.inr (.inl (none, 0, 0)) :: st) M)
  | .iconst v => sx_g len 1 (k d (pc + 1) L (.inl v :: st) M)
  | .bipush v => sx_g len 2 (sx_b (decide (-128 ≤ v) && decide (v ≤ 127)) (k d (pc + 2) L (.inl v :: st) M))
  | .sipush v => sx_g len 3 (sx_b (decide (-32768 ≤ v) && decide (v ≤ 32767)) (k d (pc + 3) L (.inl v :: st) M))
  | .iload i => sx_g len 2 (sx_ld L i true fun v => k d (pc + 2) L (v :: st) M)
  | .iload_n i => sx_g len 1 (sx_ld L i.val true fun v => k d (pc + 1) L (v :: st) M)
  | .aload i => sx_g len 2 (sx_ld L i false fun v => k d (pc + 2) L (v :: st) M)
  | .aload_n i => sx_g len 1 (sx_ld L i.val false fun v => k d (pc + 1) L (v :: st) M)
  | .istore i => sx_g len 2 (match st with
    | .inl x :: r => sx_b (Nat.blt i (mv_gL G y)) (k d (pc + 2) (L.set i (some (.inl x))) r M)
    | _ => False)
  | .istore_n i => sx_g len 1 (match st with
    | .inl x :: r => sx_b (Nat.blt i.val (mv_gL G y)) (k d (pc + 1) (L.set i.val (some (.inl x))) r M)
    | _ => False)
  | .astore i => sx_g len 2 (match st with
    | .inr x :: r => sx_b (Nat.blt i (mv_gL G y)) (k d (pc + 2) (L.set i (some (.inr x))) r M)
    | _ => False)
  | .astore_n i => sx_g len 1 (match st with
    | .inr x :: r => sx_b (Nat.blt i.val (mv_gL G y)) (k d (pc + 1) (L.set i.val (some (.inr x))) r M)
    | _ => False)
  | .iinc i v => sx_g len 3 (sx_b (Nat.blt i (mv_gL G y)) (sx_ld L i true fun w => match w with
    | .inl x => k d (pc + 3) (L.set i (some (.inl (x + v)))) st M
    | _ => False))
  | .iadd => sx_g len 1 (match st with
    | .inl b :: .inl a :: r => k d (pc + 1) L (.inl (a + b) :: r) M
    | _ => False)
  | .isub => sx_g len 1 (match st with
    | .inl b :: .inl a :: r => k d (pc + 1) L (.inl (a - b) :: r) M
    | _ => False)
  | .imul => sx_g len 1 (match st with
    | .inl b :: .inl a :: r => k d (pc + 1) L (.inl (a * b) :: r) M
    | _ => False)
  | .ineg => sx_g len 1 (match st with
    | .inl a :: r => k d (pc + 1) L (.inl (-a) :: r) M
    | _ => False)
  | .idiv => sx_g len 1 (match st with
    | .inl b :: .inl a :: r => me_r a ∧ me_r b ∧ ¬ b = 0 ∧ k d (pc + 1) L (.inl (a.tdiv b) :: r) M
    | _ => False)
  | .irem => sx_g len 1 (match st with
    | .inl b :: .inl a :: r => me_r a ∧ me_r b ∧ ¬ b = 0 ∧ k d (pc + 1) L (.inl (a - a.tdiv b * b) :: r) M
    | _ => False)
  | .iand => sx_g len 1 (match st with
    | .inl b :: .inl a :: r => k d (pc + 1) L (.inl (Int32.ofInt a &&& Int32.ofInt b).toInt :: r) M
    | _ => False)
  | .ior => sx_g len 1 (match st with
    | .inl b :: .inl a :: r => k d (pc + 1) L (.inl (Int32.ofInt a ||| Int32.ofInt b).toInt :: r) M
    | _ => False)
  | .ixor => sx_g len 1 (match st with
    | .inl b :: .inl a :: r => k d (pc + 1) L (.inl (Int32.ofInt a ^^^ Int32.ofInt b).toInt :: r) M
    | _ => False)
  | .ishl => sx_g len 1 (match st with
    | .inl b :: .inl a :: r => k d (pc + 1) L (.inl (mv_f_ishl (Int32.ofInt a) (Int32.ofInt b)).toInt :: r) M
    | _ => False)
  | .ishr => sx_g len 1 (match st with
    | .inl b :: .inl a :: r => k d (pc + 1) L (.inl (mv_f_ishr (Int32.ofInt a) (Int32.ofInt b)).toInt :: r) M
    | _ => False)
  | .iushr => sx_g len 1 (match st with
    | .inl b :: .inl a :: r => k d (pc + 1) L (.inl (mv_f_iushr (Int32.ofInt a) (Int32.ofInt b)).toInt :: r) M
    | _ => False)
  | .i2b => sx_g len 1 (match st with
    | .inl a :: r => k d (pc + 1) L (.inl (mv_f_i2b (Int32.ofInt a)).toInt :: r) M
    | _ => False)
  | .dup => sx_g len 1 (match st with
    | v :: r => k d (pc + 1) L (v :: v :: r) M
    | _ => False)
  | .pop => sx_g len 1 (match st with
    | _ :: r => k d (pc + 1) L r M
    | _ => False)
  | .dup_x1 => sx_g len 1 (match st with
    | v :: w :: r => k d (pc + 1) L (v :: w :: v :: r) M
    | _ => False)
  | .dup2 => sx_g len 1 (match st with
    | v :: w :: r => k d (pc + 1) L (v :: w :: v :: w :: r) M
    | _ => False)
  | .goto off => sx_g len 3 (sx_t pc off fun t => k d t L st M)
  | .ifCond c off => sx_g len 3 (match st with
    | .inl x :: r => sx_t pc off fun t => me_r x ∧ sx_cd c x 0 (k d t L r M) (k d (pc + 3) L r M)
    | _ => False)
  | .if_icmp c off => sx_g len 3 (match st with
    | .inl b :: .inl a :: r => sx_t pc off fun t => me_r a ∧ me_r b ∧ sx_cd c a b (k d t L r M) (k d (pc + 3) L r M)
    | _ => False)
  | .if_acmp c off => sx_g len 3 (match st with
    | .inr (.inl (p, _)) :: .inr (.inl (q, _)) :: r => sx_t pc off fun t => match c with
      | .eq => (q = p → k d t L r M) ∧ (¬ q = p → k d (pc + 3) L r M)
      | .ne => (¬ q = p → k d t L r M) ∧ (q = p → k d (pc + 3) L r M)
    | _ => False)
  | .ifnull off => sx_g len 3 (match st with
    | .inr (.inl (p, _)) :: r => sx_t pc off fun t => (p = none → k d t L r M) ∧ (¬ p = none → k d (pc + 3) L r M)
    | _ => False)
  | .ifnonnull off => sx_g len 3 (match st with
    | .inr (.inl (p, _)) :: r => sx_t pc off fun t => (¬ p = none → k d t L r M) ∧ (p = none → k d (pc + 3) L r M)
    | _ => False)
  | .tableswitch df lo hi offs => match st with
    | .inl x :: r => sx_b (Nat.beq offs.toList.length (hi - lo + 1).toNat) (me_r x ∧ ((x < lo ∨ hi < x) → sx_t pc df fun t => k d t L r M) ∧ sx_all offs.toList lo fun v off => x = v → sx_t pc off fun t => k d t L r M)
    | _ => False
  | .lookupswitch df ps => match st with
    | .inl x :: r => me_r x ∧ sx_b ((ps.toList.zip (ps.toList.drop 1)).all (fun (a, next) => decide (a.1 < next.1))) (sx_lk ps.toList x (fun off => sx_t pc off fun t => k d t L r M) (sx_t pc df fun t => k d t L r M))
    | _ => False
  | .getfield idx => sx_g len 3 (match st with
    | .inr (.inl (p, q1, q2)) :: r => match mv_gF G y idx with
      | some (ci, j) => sx_b (Nat.beq q1 (2 * ci + 1) && Nat.blt j (mv_gD G ci).length) (me_dr p fun a => match me_ik G ci j with
        | true => k d (pc + 3) L (.inl (me_i M a j) :: r) M
        | false => match sx_fin ci q2 j with
          | some (sg, off, q') => k d (pc + 3) L (.inr (.inl (some (sx_tg a sg off), q')) :: r) M
          | none => match Nat.beq (sx_fk ci j) 15, Nat.beq (sx_fk ci j % 2) 1 with
            | true, _ => (∀ b, me_p M a j = some b → M.2.1 b = (sx_fk ci j, pv)) ∧ k d (pc + 3) L (.inr (.inl (me_p M a j, sx_fk ci j, pv)) :: r) M
            | false, true => k d (pc + 3) L (.inr (.inl (me_p M a j, sx_fk ci j, 0)) :: r) M
            | false, false => ∀ n, (∀ b, me_p M a j = some b → M.2.1 b = (sx_fk ci j, n)) → k d (pc + 3) L (.inr (.inl (me_p M a j, sx_fk ci j, n)) :: r) M)
      | none => False
    | _ => False)
  | .putfield idx => sx_g len 3 (match st with
    | .inl x :: .inr (.inl (p, q1, q2)) :: r => match mv_gF G y idx with
      | some (ci, j) => sx_b (Nat.beq q1 (2 * ci + 1) && Nat.blt j (mv_gD G ci).length && !mv_gP G ci j) (me_dr p fun a => match mv_gT G ci j with
        | some .int => k d (pc + 3) L r (me_sI M a j (Int32.ofInt x))
        | some .boolean => (x = 0 ∨ x = 1) ∧ k d (pc + 3) L r (me_sI M a j (Int32.ofInt x))
        | _ => False)
      | none => False
    | .inr (.inl (v, w1, w2)) :: .inr (.inl (p, q1, q2)) :: r => match mv_gF G y idx with
      | some (ci, j) => sx_b (Nat.beq q1 (2 * ci + 1) && Nat.blt j (mv_gD G ci).length && !mv_gP G ci j && !me_ik G ci j && (match mv_gT G ci j with | some ty => ty.isReference | none => false) && (sx_fin ci q2 j).isNone) (me_dr p fun a => match Nat.beq w1 (sx_fk ci j) with
        | true => k d (pc + 3) L r (me_sP M a j v)
        | false => v = none ∧ k d (pc + 3) L r (me_sP M a j v))
      | none => False
    | _ => False)
  | .iaload => sx_g len 1 (match st with
    | .inl i :: .inr (.inl (p, q1, q2)) :: r => sx_b (Nat.beq q1 0) (me_dr p fun a => 0 ≤ i ∧ i < q2 ∧ k d (pc + 1) L (.inl (me_i M a i.toNat) :: r) M)
    | _ => False)
  | .baload => sx_g len 1 (match st with
    | .inl i :: .inr (.inl (p, q1, q2)) :: r => sx_b (Nat.beq q1 2 || Nat.beq q1 4) (me_dr p fun a => 0 ≤ i ∧ i < q2 ∧ ((if q1 = 2 then -128 ≤ me_i M a i.toNat ∧ me_i M a i.toNat ≤ 127 else me_i M a i.toNat = 0 ∨ me_i M a i.toNat = 1) → k d (pc + 1) L (.inl (me_i M a i.toNat) :: r) M))
    | _ => False)
  | .aaload => sx_g len 1 (match st with
    | .inl i :: .inr (.inl (p, q1, q2)) :: r => sx_b (Nat.beq (q1 % 2) 0 && !Nat.blt (q1 / 2) 3 && (match mv_gY G (q1 / 2) with | some ty => ty.isReference | none => false)) (me_dr p fun a => 0 ≤ i ∧ i < q2 ∧ match Nat.beq (sx_ek (q1 / 2) % 2) 1 && !Nat.beq (sx_ek (q1 / 2)) 15 with
      | true => k d (pc + 1) L (.inr (.inl (me_p M a i.toNat, sx_ek (q1 / 2), 0)) :: r) M
      | false => ∀ n, (∀ b, me_p M a i.toNat = some b → M.2.1 b = (sx_ek (q1 / 2), n)) → k d (pc + 1) L (.inr (.inl (me_p M a i.toNat, sx_ek (q1 / 2), n)) :: r) M)
    | _ => False)
  | .iastore => sx_g len 1 (match st with
    | .inl x :: .inl i :: .inr (.inl (p, q1, q2)) :: r => sx_b (Nat.beq q1 0) (me_dr p fun a => 0 ≤ i ∧ i < q2 ∧ k d (pc + 1) L r (me_sI M a i.toNat (Int32.ofInt x)))
    | _ => False)
  | .bastore => sx_g len 1 (match st with
    | .inl x :: .inl i :: .inr (.inl (p, q1, q2)) :: r => sx_b (Nat.beq q1 2 || Nat.beq q1 4) (me_dr p fun a => 0 ≤ i ∧ i < q2 ∧ k d (pc + 1) L r (me_sI M a i.toNat (me_nar (q1 / 2) x)))
    | _ => False)
  | .arraylength => sx_g len 1 (match st with
    | .inr (.inl (p, q1, q2)) :: r => sx_b (Nat.beq (q1 % 2) 0 && (mv_gY G (q1 / 2)).isSome) (me_dr p fun _ => k d (pc + 1) L (.inl (q2 : Int) :: r) M)
    | _ => False)
  | .ldc idx => sx_g len 2 (match kn y idx with
    | some v => k d (pc + 2) L (.inl v :: st) M
    | none => match mv_gK G y idx with
      | some (.ref a) => sx_b (Nat.blt mv_big a) (k d (pc + 2) L (.inr (.inr (a - (mv_big + 1))) :: st) M)
      | _ => False)
  | .ldc_w idx => sx_g len 3 (match kn y idx with
    | some v => k d (pc + 3) L (.inl v :: st) M
    | none => match mv_gK G y idx with
      | some (.ref a) => sx_b (Nat.blt mv_big a) (k d (pc + 3) L (.inr (.inr (a - (mv_big + 1))) :: st) M)
      | _ => False)
  | .ireturn => sx_g len 1 (match st with
    | [.inl x] => match mv_gR G y with
      | some .int => Q (.inr (some (.inl x))) M
      | some .boolean => (x = 0 ∨ x = 1) ∧ Q (.inr (some (.inl x))) M
      | some .byte => (-128 ≤ x ∧ x ≤ 127) ∧ Q (.inr (some (.inl x))) M
      | _ => False
    | _ => False)
  | .areturn => sx_g len 1 (match st with
    | [.inr (.inl q)] => sx_b (match mv_gR G y with | some ty => ty.isReference | none => false) (Q (.inr (some (.inr (.inl q)))) M)
    | _ => False)
  | .return_ => sx_g len 1 (match st with
    | [] => sx_b (mv_gR G y).isNone (Q (.inr none) M)
    | _ => False)
  | .athrow => sx_g len 1 (match st with
    | .inr (.inl (p, q1, q2)) :: _ => sx_b (Nat.beq q1 (2 * mv_gX G + 1) && Nat.beq q2 0) (me_dr p fun a => match mv_hand (mv_gH G y) pc with
      | none => Q (.inl a) M
      | some (h, _) => k d h L [.inr (.inl (some a, 2 * mv_gX G + 1, 0))] M)
    | _ => False)
  | .invokestatic idx => sx_g len 3 (match mv_gC G y idx with
    | some (kd, z, n) => match Nat.beq kd 7 with
      | true => match st with
        | .inl n :: .inl dp :: .inr (.inl (p1, q11, q12)) :: .inl sp :: .inr (.inl (p0, q01, q02)) :: r => sx_b (Nat.beq q01 q11 && Nat.beq (q01 % 2) 0 && Nat.blt (q01 / 2) 3 && Nat.ble (r.length + 40) 60) (me_dr p0 fun a0 => me_dr p1 fun a1 => 1 ≤ d ∧ 0 ≤ sp ∧ 0 ≤ dp ∧ 0 ≤ n ∧ sp + n ≤ q02 ∧ dp + n ≤ q12 ∧ k d (pc + 3) L r (me_cp M a0 a1 sp.toNat dp.toNat n.toNat))
        | _ => False
      | false => sx_b (Nat.ble kd 1) (sx_b (Nat.ble n st.length) (sx_cl G Q k y d pc 3 z (st.take n).reverse L (st.drop n) M))
    | none => False)
  | .invokevirtual idx => sx_g len 3 (match mv_gC G y idx with
    | some (kd, z, n) => match Nat.beq kd 10, Nat.beq kd 11 with
      | true, _ => match st with
        | .inr (.inr j) :: r => sx_tx G (mv_big + 1 + j) fun tx => sx_b (Nat.ble r.length 8) (4 ≤ d ∧ k d (pc + 3) L (.inl (tx.length : Int) :: r) M)
        | _ => False
      | false, true => match st with
        | .inl i :: .inr (.inr j) :: r => sx_tx G (mv_big + 1 + j) fun tx => sx_b (Nat.ble r.length 8) (4 ≤ d ∧ 0 ≤ i ∧ i < (tx.length : Int) ∧ k d (pc + 3) L (.inl (st_ch (tx.getD i.toNat 0)).toInt :: r) M)
        | _ => False
      | false, false => match st.drop n with
        | .inr (.inl (p, q1, q2)) :: r => sx_b (Nat.ble n st.length && Nat.beq q1 (2 * mv_gW G z + 1) && (Nat.beq kd 2 || Nat.beq kd 3)) (me_dr p fun a => sx_cl G Q k y d pc 3 z (.inr (.inl (some a, q1, q2)) :: (st.take n).reverse) L r M)
        | _ => False
    | none => False)
  | .invokespecial idx => sx_g len 3 (match mv_gC G y idx with
    | some (kd, z, n) => match Nat.beq kd 9 with
      | true => match st with
        | .inr (.inl (p, q1, q2)) :: r => sx_b (Nat.ble (r.length + 12) 60) (me_dr p fun _ => 1 ≤ d ∧ k d (pc + 3) L r M)
        | _ => False
      | false => match st.drop n with
        | .inr (.inl (p, q1, q2)) :: r => sx_b (Nat.ble n st.length && (Nat.beq kd 4 || Nat.beq kd 5)) (me_dr p fun a => sx_cl G Q k y d pc 3 z (.inr (.inl (some a, q1, q2)) :: (st.take n).reverse) L r M)
        | _ => False
    | none => False)
  | .new idx => sx_g len 3 (match mv_gN G y idx with
    | some ci => sx_b (!Nat.beq ci (mv_gX G) && ((sx_finT.getD ci []).all fun l => l.isEmpty) && Nat.blt ci sx_fkT.length) (1 ≤ M.2.2.2.2.1 ∧ mv_gZ G ci ≤ M.2.2.2.2.2 ∧ k d (pc + 3) L (.inr (.inl (some M.1, 2 * ci + 1, 0)) :: st) (me_nw M (2 * ci + 1, 0) (mv_gZ G ci)))
    | none => False)
  | .newarray at_ => sx_g len 2 (match st with
    | .inl n :: r => match mv_prim at_ with
      | some t => 0 ≤ n ∧ n ≤ 134217728 ∧ 1 ≤ M.2.2.2.2.1 ∧ n.toNat ≤ M.2.2.2.2.2 ∧ k d (pc + 2) L (.inr (.inl (some M.1, 2 * t, n.toNat)) :: r) (me_nw M (2 * t, n.toNat) n.toNat)
      | none => False
    | _ => False)
  | .aastore => sx_g len 1 (match st with
    | .inr (.inl (v, w1, w2)) :: .inl i :: .inr (.inl (p, q1, q2)) :: r => sx_b (Nat.beq (q1 % 2) 0 && !Nat.blt (q1 / 2) 3) (me_dr p fun a => 0 ≤ i ∧ i < q2 ∧ match mv_gE G (q1 / 2) with
      | some ce => sx_b (Nat.beq (sx_ek (q1 / 2)) (2 * ce + 1)) (match Nat.beq w1 (2 * ce + 1) with
        | true => k d (pc + 1) L r (me_sP M a i.toNat v)
        | false => v = none ∧ k d (pc + 1) L r (me_sP M a i.toNat v))
      | none => match mv_gB G (q1 / 2) with
        | some t2 => sx_b (Nat.beq (sx_ek (q1 / 2)) (2 * t2) && Nat.beq w1 (2 * t2)) (me_dr v fun b => k d (pc + 1) L r (me_sP M a i.toNat (some b)))
        | none => False)
    | _ => False)
  | _ => False
end SX
end
section
/-! sx holds: where its words hold, the run ends so -/
theorem sx_ld_eq {L : List (Option me_V)} {q : Nat} {int : Bool} {K : me_V → Prop} (h : sx_ld L q int K) : ∃ v, L[q]? = some (some v) ∧ K v ∧ (int = true → mv_int (me_v v) = true) ∧ (int = false → mv_rfv (me_v v) = true) := by
  unfold sx_ld at h
  split at h
  · rename_i x e
    obtain ⟨h1, h2⟩ := sx_b_eq h
    exact ⟨_, e, h2, fun _ => rfl, fun z => by rw [h1] at z; cases z⟩
  · rename_i p e
    obtain ⟨h1, h2⟩ := sx_b_eq h
    refine ⟨_, e, h2, (fun z => by rw [z] at h1; cases h1), fun _ => ?_⟩
    rcases p with ⟨_ | a, q⟩ | j <;> rfl
  · exact h.elim
theorem me_dr_eq {p : Option Nat} {K : Nat → Prop} (h : me_dr p K) : ∃ a, p = some a ∧ K a := by
  cases p with
  | none => exact h.elim
  | some a => exact ⟨a, rfl, h⟩
theorem sx_8 {v : Int} (h1 : -128 ≤ v) (h2 : v ≤ 127) : (Int8.ofInt v).toInt32 = Int32.ofInt v := by
  apply Int32.toInt_inj.mp
  rw [Int8.toInt_toInt32, Int8.toInt_ofInt_of_le h1 (by omega), Int32.toInt_ofInt_of_le (by omega) (by omega)]
theorem sx_16 {v : Int} (h1 : -32768 ≤ v) (h2 : v ≤ 32767) : (Int16.ofInt v).toInt32 = Int32.ofInt v := by
  apply Int32.toInt_inj.mp
  rw [Int16.toInt_toInt32, Int16.toInt_ofInt_of_le h1 (by omega), Int32.toInt_ofInt_of_le (by omega) (by omega)]
theorem sx_div {a b : Int} (ha : me_r a) (hb : me_r b) : Int32.ofInt (a.tdiv b) = Int32.ofInt a / Int32.ofInt b := by
  apply Int32.toInt_inj.mp
  rw [Int32.toInt_div, show (Int32.ofInt a).toInt = a from me_w_eq ha, show (Int32.ofInt b).toInt = b from me_w_eq hb, Int32.toInt_ofInt]
def me_ac : ACond → Option Nat → Option Nat → Prop
  | .eq, a, b => a = b
  | .ne, a, b => ¬ a = b
def me_acb : ACond → Option Nat → Option Nat → Bool
  | .eq, a, b => decide (a = b)
  | .ne, a, b => decide (¬ a = b)
section SXO
variable {G : mv_G} {kn : Nat → Nat → Option Int} {pv y d pc len : Nat} {Q : me_Q} {k : Nat → Nat → List (Option me_V) → List me_V → me_M → Prop} {L : List (Option me_V)} {st r : List me_V} {M : me_M}
theorem so_psh {i : Instr} {n : Nat} {v : me_V} (hI : mv_gI G y pc = some (i, n)) (hs : en_ok i = true) (hv : me_an M v) (h : ∀ (lo : List (Nat × Value)) (hp : List va_E) (cb sb : Nat), mv_ins G y pc lo (st.map me_v) hp cb sb n i = some (.inl (pc + n, lo, me_v v :: st.map me_v, hp, cb, sb))) (kk : me_W G y d (pc + n) L (v :: st) M Q) : me_W G y d pc L st M Q :=
  me_st hI hs (fun _ h => me_al_psh h hv) (fun lo hp h3 _ _ => ⟨lo, h lo hp _ _, h3⟩) kk
theorem so_ld {i : Instr} {n q : Nat} {b : Value → Bool} {v : me_V} (hI : mv_gI G y pc = some (i, n)) (hs : en_ok i = true) (hv : L[q]? = some (some v)) (hb : b (me_v v) = true) (h : ∀ (lo : List (Nat × Value)) (hp : List va_E) (cb sb : Nat), mv_ins G y pc lo (st.map me_v) hp cb sb n i = mv_load pc lo (st.map me_v) hp cb sb q n b) (kk : me_W G y d (pc + n) L (v :: st) M Q) : me_W G y d pc L st M Q :=
  me_st hI hs (fun _ h => me_al_psh h (h.1 v (List.mem_of_getElem? hv))) (fun lo hp h3 _ _ => ⟨lo, (h lo hp _ _).trans (me_load h3 hv hb), h3⟩) kk
theorem so_sto {i : Instr} {n q : Nat} {b : Value → Bool} {v : me_V} (hI : mv_gI G y pc = some (i, n)) (hs : en_ok i = true) (hq : Nat.blt q (mv_gL G y) = true) (hb : b (me_v v) = true) (h : ∀ (lo : List (Nat × Value)) (hp : List va_E) (cb sb : Nat), mv_ins G y pc lo ((v :: r).map me_v) hp cb sb n i = mv_store G y pc lo ((v :: r).map me_v) hp cb sb q n b) (kk : me_W G y d (pc + n) (L.set q (some v)) r M Q) : me_W G y d pc L (v :: r) M Q :=
  me_st hI hs (fun _ h => me_al_set h) (fun lo hp h3 _ _ => ⟨_, (h lo hp _ _).trans (me_store hb (Nat.le_of_ble_eq_true hq)), me_lo_set h3⟩) kk
/-- two ints to one -/
theorem so_bin {i : Instr} {a b c : Int} {f : Int32 → Int32 → Int32} (hI : mv_gI G y pc = some (i, 1)) (hs : en_ok i = true) (hf : f (Int32.ofInt a) (Int32.ofInt b) = Int32.ofInt c) (h : ∀ (lo : List (Nat × Value)) (st : List Value) (hp : List va_E) (cb sb : Nat), mv_ins G y pc lo (.int (Int32.ofInt b) :: .int (Int32.ofInt a) :: st) hp cb sb 1 i = some (.inl (pc + 1, lo, .int (f (Int32.ofInt a) (Int32.ofInt b)) :: st, hp, cb, sb))) (kk : me_W G y d (pc + 1) L (.inl c :: r) M Q) : me_W G y d pc L (.inl b :: .inl a :: r) M Q :=
  me_st hI hs (fun _ h => me_al_psh (v := .inl c) (me_al_pop (me_al_pop h)) trivial) (fun lo hp h3 _ _ => ⟨lo, by
    show mv_ins G y pc lo (.int (Int32.ofInt b) :: .int (Int32.ofInt a) :: r.map me_v) hp _ _ 1 i = _
    rw [h, hf]
    rfl, h3⟩) kk
theorem so_un {i : Instr} {a c : Int} {f : Int32 → Int32} (hI : mv_gI G y pc = some (i, 1)) (hs : en_ok i = true) (hf : f (Int32.ofInt a) = Int32.ofInt c) (h : ∀ (lo : List (Nat × Value)) (st : List Value) (hp : List va_E) (cb sb : Nat), mv_ins G y pc lo (.int (Int32.ofInt a) :: st) hp cb sb 1 i = some (.inl (pc + 1, lo, .int (f (Int32.ofInt a)) :: st, hp, cb, sb))) (kk : me_W G y d (pc + 1) L (.inl c :: r) M Q) : me_W G y d pc L (.inl a :: r) M Q :=
  me_st hI hs (fun _ h => me_al_psh (v := .inl c) (me_al_pop h) trivial) (fun lo hp h3 _ _ => ⟨lo, by
    show mv_ins G y pc lo (.int (Int32.ofInt a) :: r.map me_v) hp _ _ 1 i = _
    rw [h, hf]
    rfl, h3⟩) kk
/-- to another place -/
theorem so_jmp {i : Instr} {n t : Nat} {st' : List me_V} (hI : mv_gI G y pc = some (i, n)) (hs : en_ok i = true) (ha : ∀ v, v ∈ st' → v ∈ st) (h : ∀ (lo : List (Nat × Value)) (hp : List va_E) (cb sb : Nat), me_al M L st → me_R G M hp → mv_ins G y pc lo (st.map me_v) hp cb sb n i = some (.inl (t, lo, st'.map me_v, hp, cb, sb))) (kk : me_W G y d t L st' M Q) : me_W G y d pc L st M Q :=
  me_st hI hs (fun _ h => ⟨h.1, fun v hv => h.2 v (ha v hv)⟩) (fun lo hp h3 h4 h5 => ⟨lo, h lo hp _ _ h4 h5, h3⟩) kk
theorem so_cond {c : Jvm.ClassFile.Cond} {off : Int} {t : Nat} {x : Int} (hI : mv_gI G y pc = some (.ifCond c off, 3)) (ht : mv_tgt pc off = some t) (hx : me_r x) (h1 : me_cond c x 0 → me_W G y d t L r M Q) (h2 : ¬ me_cond c x 0 → me_W G y d (pc + 3) L r M Q) : me_W G y d pc L (.inl x :: r) M Q := by
  have e0 : (0 : Int32) = Int32.ofInt 0 := rfl
  by_cases hc : me_cond c x 0
  · refine so_jmp (t := t) (st' := r) hI rfl (fun v hv => List.mem_cons_of_mem _ hv) (fun lo hp cb sb _ _ => ?_) (h1 hc)
    show mv_g 3 3 (mv_if pc lo (.int (Int32.ofInt x) :: r.map me_v) hp cb sb c off) = _
    unfold mv_g mv_if mv_jump
    rw [if_pos rfl]
    dsimp only
    rw [ht, e0]
    dsimp only
    rw [if_pos ((me_cond_iff hx ⟨by decide, by decide⟩).mpr hc)]
  · refine so_jmp (t := pc + 3) (st' := r) hI rfl (fun v hv => List.mem_cons_of_mem _ hv) (fun lo hp cb sb _ _ => ?_) (h2 hc)
    show mv_g 3 3 (mv_if pc lo (.int (Int32.ofInt x) :: r.map me_v) hp cb sb c off) = _
    unfold mv_g mv_if mv_jump
    rw [if_pos rfl]
    dsimp only
    rw [ht, e0]
    dsimp only
    rw [if_neg (fun z => hc ((me_cond_iff hx ⟨by decide, by decide⟩).mp z))]
theorem so_icmp {c : Jvm.ClassFile.Cond} {off : Int} {t : Nat} {a b : Int} (hI : mv_gI G y pc = some (.if_icmp c off, 3)) (ht : mv_tgt pc off = some t) (ha : me_r a) (hb : me_r b) (h1 : me_cond c a b → me_W G y d t L r M Q) (h2 : ¬ me_cond c a b → me_W G y d (pc + 3) L r M Q) : me_W G y d pc L (.inl b :: .inl a :: r) M Q := by
  by_cases hc : me_cond c a b
  · refine so_jmp (t := t) (st' := r) hI rfl (fun v hv => List.mem_cons_of_mem _ (List.mem_cons_of_mem _ hv)) (fun lo hp cb sb _ _ => ?_) (h1 hc)
    show mv_g 3 3 (mv_icmp pc lo (.int (Int32.ofInt b) :: .int (Int32.ofInt a) :: r.map me_v) hp cb sb c off) = _
    unfold mv_g mv_icmp mv_jump
    rw [if_pos rfl]
    dsimp only
    rw [ht]
    dsimp only
    rw [if_pos ((me_cond_iff ha hb).mpr hc)]
  · refine so_jmp (t := pc + 3) (st' := r) hI rfl (fun v hv => List.mem_cons_of_mem _ (List.mem_cons_of_mem _ hv)) (fun lo hp cb sb _ _ => ?_) (h2 hc)
    show mv_g 3 3 (mv_icmp pc lo (.int (Int32.ofInt b) :: .int (Int32.ofInt a) :: r.map me_v) hp cb sb c off) = _
    unfold mv_g mv_icmp mv_jump
    rw [if_pos rfl]
    dsimp only
    rw [ht]
    dsimp only
    rw [if_neg (fun z => hc ((me_cond_iff ha hb).mp z))]
theorem so_ptr {p : Option Nat} {q : Nat × Nat} {hp : List va_E} (h : me_an M (.inr (.inl (p, q)))) (h5 : me_R G M hp) : mv_ptr (va_rf p) = some p := by
  cases p with
  | none => rfl
  | some a =>
    show (if a < mv_big then some (some a) else none) = _
    rw [if_pos (me_ad h5 h.1)]
theorem so_acmp {c : ACond} {off : Int} {t : Nat} {p1 p2 : Option Nat} {w1 w2 : Nat × Nat} (hI : mv_gI G y pc = some (.if_acmp c off, 3)) (ht : mv_tgt pc off = some t) (h1 : me_ac c p2 p1 → me_W G y d t L r M Q) (h2 : ¬ me_ac c p2 p1 → me_W G y d (pc + 3) L r M Q) : me_W G y d pc L (.inr (.inl (p1, w1)) :: .inr (.inl (p2, w2)) :: r) M Q := by
  have go : ∀ (lo : List (Nat × Value)) (hp : List va_E) (cb sb : Nat), me_al M L (.inr (.inl (p1, w1)) :: .inr (.inl (p2, w2)) :: r) → me_R G M hp → mv_ins G y pc lo ((.inr (.inl (p1, w1)) :: .inr (.inl (p2, w2)) :: r : List me_V).map me_v) hp cb sb 3 (.if_acmp c off) = some (.inl (if me_acb c p2 p1 = true then t else pc + 3, lo, r.map me_v, hp, cb, sb)) := by
    intro lo hp cb sb h4 h5
    show mv_g 3 3 (mv_acmp pc lo (va_rf p1 :: va_rf p2 :: r.map me_v) hp cb sb c off) = _
    unfold mv_g mv_acmp mv_jump
    rw [if_pos rfl]
    dsimp only
    rw [so_ptr (me_hd (me_al_pop h4)) h5, so_ptr (me_hd h4) h5]
    dsimp only
    rw [ht]
    cases c <;> rfl
  by_cases hc : me_ac c p2 p1
  · refine so_jmp (t := t) (st' := r) hI rfl (fun v hv => List.mem_cons_of_mem _ (List.mem_cons_of_mem _ hv)) (fun lo hp cb sb h4 h5 => ?_) (h1 hc)
    rw [go lo hp cb sb h4 h5, if_pos (by cases c <;> exact decide_eq_true hc)]
  · refine so_jmp (t := pc + 3) (st' := r) hI rfl (fun v hv => List.mem_cons_of_mem _ (List.mem_cons_of_mem _ hv)) (fun lo hp cb sb h4 h5 => ?_) (h2 hc)
    rw [go lo hp cb sb h4 h5, if_neg (fun z => hc (by
      cases c
      · exact (of_decide_eq_true z : p2 = p1)
      · exact (of_decide_eq_true z : ¬ p2 = p1)))]
theorem so_null {b : Bool} {i : Instr} {off : Int} {t : Nat} {p : Option Nat} {w : Nat × Nat} (hI : mv_gI G y pc = some (i, 3)) (hs : en_ok i = true) (hi : ∀ (lo : List (Nat × Value)) (s : List Value) (hp : List va_E) (cb sb : Nat), mv_ins G y pc lo s hp cb sb 3 i = mv_g 3 3 (mv_ifn pc lo s hp cb sb b off)) (ht : mv_tgt pc off = some t) (h1 : (b = true ↔ p = none) → me_W G y d t L r M Q) (h2 : ¬ (b = true ↔ p = none) → me_W G y d (pc + 3) L r M Q) : me_W G y d pc L (.inr (.inl (p, w)) :: r) M Q := by
  have go : ∀ (lo : List (Nat × Value)) (hp : List va_E) (cb sb : Nat), mv_ins G y pc lo ((.inr (.inl (p, w)) :: r : List me_V).map me_v) hp cb sb 3 i = some (.inl (if b = p.isNone then t else pc + 3, lo, r.map me_v, hp, cb, sb)) := by
    intro lo hp cb sb
    rw [hi]
    show mv_g 3 3 (mv_ifn pc lo (va_rf p :: r.map me_v) hp cb sb b off) = _
    unfold mv_g mv_ifn mv_jump
    rw [if_pos rfl]
    cases p <;> cases b <;> (show (match mv_tgt pc off with | some t => _ | none => none) = _; rw [ht]; rfl)
  by_cases hc : b = p.isNone
  · refine so_jmp (t := t) (st' := r) hI hs (fun v hv => List.mem_cons_of_mem _ hv) (fun lo hp cb sb h4 h5 => ?_) (h1 (by rw [hc]; simp))
    rw [go, if_pos hc]
  · refine so_jmp (t := pc + 3) (st' := r) hI hs (fun v hv => List.mem_cons_of_mem _ hv) (fun lo hp cb sb h4 h5 => ?_) (h2 (by cases b <;> cases p <;> simp_all))
    rw [go, if_neg hc]
end SXO
end
section
/-! sx holds: natives, ends, calls -/
section SXN
variable {G : mv_G} {kn : Nat → Nat → Option Int} {pv y d pc len : Nat} {Q : me_Q} {k : Nat → Nat → List (Option me_V) → List me_V → me_M → Prop} {L : List (Option me_V)} {st r : List me_V} {M : me_M} {hp : List va_E}
/-- a native: no change of memory -/
theorem so_nat {pc' : Nat} {st' : List me_V} (hal : me_al M L st → me_al M L st') (h : ∀ (fb lb : Nat) (lo : List (Nat × Value)) (hp : List va_E), d ≤ fb → 60 * d ≤ lb → me_al M L st → me_R G M hp → mv_nat G y fb lb (pc, lo, st.map me_v, hp, M.2.2.2.2.1, M.2.2.2.2.2) = some (pc', lo, st'.map me_v, hp, M.2.2.2.2.1, M.2.2.2.2.2)) (kk : me_W G y d pc' L st' M Q) : me_W G y d pc L st M Q := by
  intro fb lb lo hp g1 g2 g3 g4 g5
  obtain ⟨o, M', hp', k1, k2⟩ := kk fb lb lo hp g1 g2 g3 (hal g4) g5
  exact ⟨o, M', hp', me_na (h fb lb lo hp g1 g2 g4 g5) k1, k2⟩
theorem so_slen {idx j z n : Nat} {tx : List Int32} (hI : mv_gI G y pc = some (.invokevirtual idx, 3)) (hC : mv_gC G y idx = some (10, z, n)) (hx : mv_gX2 G (mv_big + 1 + j) = some tx) (hr : r.length ≤ 8) (hd : 4 ≤ d) (kk : me_W G y d (pc + 3) L (.inl (tx.length : Int) :: r) M Q) : me_W G y d pc L (.inr (.inr j) :: r) M Q := by
  refine so_nat (fun h => me_al_psh (v := .inl (tx.length : Int)) (me_al_pop h) trivial) (fun fb lb lo hp g1 g2 _ _ => ?_) kk
  unfold mv_nat
  simp only [hI, hC]
  show mv_slen G pc lo (.ref (mv_big + 1 + j) :: r.map me_v) hp _ _ fb lb = _
  unfold mv_slen
  simp only [hx]
  rw [if_pos ⟨by omega, by omega, by rw [me_cats]; exact hr⟩]
  rfl
theorem so_schr {idx j z n : Nat} {i : Int} {tx : List Int32} (hI : mv_gI G y pc = some (.invokevirtual idx, 3)) (hC : mv_gC G y idx = some (11, z, n)) (hx : mv_gX2 G (mv_big + 1 + j) = some tx) (hr : r.length ≤ 8) (hd : 4 ≤ d) (h0 : 0 ≤ i) (h1 : i < (tx.length : Int)) (h2 : tx.length ≤ 2147483647) (kk : me_W G y d (pc + 3) L (.inl (st_ch (tx.getD i.toNat 0)).toInt :: r) M Q) : me_W G y d pc L (.inl i :: .inr (.inr j) :: r) M Q := by
  refine so_nat (fun h => me_al_psh (v := .inl (st_ch (tx.getD i.toNat 0)).toInt) (me_al_pop (me_al_pop h)) trivial) (fun fb lb lo hp g1 g2 _ _ => ?_) kk
  obtain ⟨e1, e2⟩ := me_out h0 h1 ⟨by omega, by omega⟩
  unfold mv_nat
  simp only [hI, hC]
  show mv_schr G pc lo (.int (Int32.ofInt i) :: .ref (mv_big + 1 + j) :: r.map me_v) hp _ _ fb lb = _
  unfold mv_schr
  simp only [hx]
  rw [if_pos ⟨e1, by omega, by omega, by rw [me_cats]; exact hr⟩, e2]
  show _ = some (pc + 3, lo, .int (Int32.ofInt (st_ch (tx.getD i.toNat 0)).toInt) :: r.map me_v, hp, _, _)
  rw [me_of]
theorem so_oini {idx z n : Nat} {p : Nat} {q : Nat × Nat} (hI : mv_gI G y pc = some (.invokespecial idx, 3)) (hC : mv_gC G y idx = some (9, z, n)) (hr : r.length + 12 ≤ 60) (hd : 1 ≤ d) (kk : me_W G y d (pc + 3) L r M Q) : me_W G y d pc L (.inr (.inl (some p, q)) :: r) M Q := by
  refine so_nat (fun h => me_al_pop h) (fun fb lb lo hp g1 g2 _ _ => ?_) kk
  unfold mv_nat
  simp only [hI, hC]
  show mv_oini pc lo (.ref p :: r.map me_v) hp _ _ fb lb = _
  unfold mv_oini
  dsimp only
  rw [if_pos ⟨by omega, by rw [me_cats]; omega⟩]
theorem so_cpw : nativeFrameWords "java/lang/System" "arraycopy" 5 + 11 ≤ 40 := by decide +kernel
theorem so_copy {idx z n9 a0 a1 t n0 n1 : Nat} {sp dp n : Int} (hI : mv_gI G y pc = some (.invokestatic idx, 3)) (hC : mv_gC G y idx = some (7, z, n9)) (ht : t < 3) (hr : r.length + 40 ≤ 60) (hd : 1 ≤ d) (h1 : 0 ≤ sp) (h2 : 0 ≤ dp) (h3 : 0 ≤ n) (h4 : sp + n ≤ n0) (h5 : dp + n ≤ n1) (kk : me_W G y d (pc + 3) L r (me_cp M a0 a1 sp.toNat dp.toNat n.toNat) Q) : me_W G y d pc L (.inl n :: .inl dp :: .inr (.inl (some a1, 2 * t, n1)) :: .inl sp :: .inr (.inl (some a0, 2 * t, n0)) :: r) M Q := by
  intro fb lb lo hp g1 g2 g3 g4 g5
  obtain ⟨b1, b2⟩ := me_hd (me_al_pop (me_al_pop g4))
  obtain ⟨c1, c2⟩ := me_hd (me_al_pop (me_al_pop (me_al_pop (me_al_pop g4))))
  have l0 : n0 ≤ 134217728 := by
    have := g5.2.2.2.2.2.1 a0 c1
    rw [c2] at this
    exact this
  have l1 : n1 ≤ 134217728 := by
    have := g5.2.2.2.2.2.1 a1 b1
    rw [b2] at this
    exact this
  have i1 : ∀ x : Int, 0 ≤ x → x ≤ 134217728 → (Int32.ofInt x).toNatClampNeg = x.toNat ∧ ¬ Int32.ofInt x < 0 := by
    intro x hx0 hx1
    have e : (Int32.ofInt x).toInt = x := me_w_eq ⟨by omega, by omega⟩
    refine ⟨by show (Int32.ofInt x).toInt.toNat = _; rw [e], ?_⟩
    rw [Int32.lt_iff_toInt_lt, e]
    have : (0 : Int32).toInt = 0 := rfl
    omega
  obtain ⟨s1, s2⟩ := i1 sp h1 (by omega)
  obtain ⟨d1, d2⟩ := i1 dp h2 (by omega)
  obtain ⟨n2, n3⟩ := i1 n h3 (by omega)
  have hfit : ∀ j, t = 0 ∨ mv_fitT t (M.2.2.1 a0 j) = true := by
    intro j
    have z := g5.2.2.2.2.2.2 a0 c1 j
    rw [c2] at z
    have ht3 : t = 0 ∨ t = 1 ∨ t = 2 := by omega
    rcases ht3 with rfl | rfl | rfl
    · exact Or.inl rfl
    · exact Or.inr (z.1 rfl)
    · exact Or.inr (z.2 rfl)
  have eI : (me_cp M a0 a1 sp.toNat dp.toNat n.toNat).2.2.1 a1 = va_cpy (M.2.2.1 a0) (M.2.2.1 a1) sp.toNat dp.toNat n.toNat := by
    funext j
    exact if_pos rfl
  have hR := me_R_set (M1 := me_cp M a0 a1 sp.toNat dp.toNat n.toNat) g5 b1 rfl rfl (fun b hb => ⟨by funext j; exact if_neg hb, rfl⟩) rfl g5.2.2.2.1 g5.2.2.2.2.1 (fun b hb j => by
    show ((M.2.1 b).1 = 2 → mv_fitT 1 (if b = a1 then va_cpy (M.2.2.1 a0) (M.2.2.1 a1) sp.toNat dp.toNat n.toNat j else M.2.2.1 b j) = true) ∧ ((M.2.1 b).1 = 4 → mv_fitT 2 (if b = a1 then va_cpy (M.2.2.1 a0) (M.2.2.1 a1) sp.toNat dp.toNat n.toNat j else M.2.2.1 b j) = true)
    by_cases e : b = a1
    · subst e
      rw [if_pos rfl, b2]
      unfold va_cpy
      split
      · have z := g5.2.2.2.2.2.2 a0 c1 (sp.toNat + (j - dp.toNat))
        rw [c2] at z
        exact z
      · have z := g5.2.2.2.2.2.2 b b1 j
        rw [b2] at z
        exact z
    · rw [if_neg e]
      exact g5.2.2.2.2.2.2 b hb j)
  have hc : me_c G (M.2.1 a1) ((me_cp M a0 a1 sp.toNat dp.toNat n.toNat).2.2.1 a1) (M.2.2.2.1 a1) = .inl (t, n1, .inl (va_cpy (M.2.2.1 a0) (M.2.2.1 a1) sp.toNat dp.toNat n.toNat)) := by
    rw [eI]
    unfold me_c
    rw [b2, if_neg (by show ¬ 2 * t % 2 = 1; omega), if_pos (by show 2 * t / 2 < 3; omega), show ((2 * t, n1) : Nat × Nat).1 / 2 = t by show 2 * t / 2 = t; omega]
  obtain ⟨o, M', hp', k1, k2⟩ := kk fb lb lo _ g1 g2 g3 (me_al_pop (me_al_pop (me_al_pop (me_al_pop (me_al_pop g4))))) hR
  refine ⟨o, M', hp', me_na (S' := (pc + 3, lo, r.map me_v, _, M.2.2.2.2.1, M.2.2.2.2.2)) ?_ k1, k2⟩
  unfold mv_nat
  simp only [hI, hC]
  show mv_copy pc lo (.int (Int32.ofInt n) :: .int (Int32.ofInt dp) :: .ref a1 :: .int (Int32.ofInt sp) :: .ref a0 :: r.map me_v) hp _ _ fb lb = _
  unfold mv_copy
  dsimp only
  rw [me_cell_i g5 c1 c2 ht, me_cell_i g5 b1 b2 ht]
  dsimp only
  have words := so_cpw
  rw [if_pos ⟨⟨rfl, ht⟩, ⟨s2, d2, n3⟩, by rw [s1, n2]; omega, by rw [d1, n2]; omega, by
    rcases hfit 0 with h | _
    · exact Or.inl h
    · by_cases t0 : t = 0
      · exact Or.inl t0
      · refine Or.inr (List.all_eq_true.mpr fun j _ => ?_)
        rcases hfit ((Int32.ofInt sp).toNatClampNeg + j) with h | h
        · exact absurd h t0
        · exact h, by omega, by rw [me_cats]; omega⟩, s1, d1, n2]
  show some (pc + 3, lo, r.map me_v, hp.set a1 _, _, _) = some (pc + 3, lo, r.map me_v, hp.set a1 (me_c G (M.2.1 a1) _ (M.2.2.2.1 a1)), _, _)
  rw [hc]
/-- it ends here -/
theorem so_ret {i : Instr} {o : me_O} (hI : mv_gI G y pc = some (i, 1)) (hn : ∀ (fb lb : Nat) (lo : List (Nat × Value)) (hp : List va_E) (cb sb : Nat), mv_nat G y fb lb (pc, lo, st.map me_v, hp, cb, sb) = none) (v : Option Value) (ho : me_o o = .inr v) (hx : ∀ (lo : List (Nat × Value)) (hp : List va_E) (cb sb : Nat), mv_exec G y (pc, lo, st.map me_v, hp, cb, sb) = some (.inr (.inr (.inl v)))) (ha : me_al M L st → me_oa G M o) (kk : Q o M) : me_W G y d pc L st M Q := by
  intro fb lb lo hp g1 g2 g3 g4 g5
  refine ⟨o, M, hp, ⟨1, ?_⟩, g5, me_ext.rf _, ha g4, kk⟩
  rw [mv_run, hn]
  dsimp only
  rw [hx, ho]
theorem so_iret {x : Int} {ty : FieldType} (hI : mv_gI G y pc = some (.ireturn, 1)) (hR : mv_gR G y = some ty) (hx : narrow ty (.int (Int32.ofInt x)) = .int (Int32.ofInt x)) (kk : Q (.inr (some (.inl x))) M) : me_W G y d pc L [.inl x] M Q := by
  refine so_ret (o := .inr (some (.inl x))) hI (fun fb lb lo hp cb sb => by unfold mv_nat; simp only [hI]) (some (.int (Int32.ofInt x))) rfl (fun lo hp cb sb => ?_) (fun _ => trivial) kk
  unfold mv_exec
  simp only [hI]
  show mv_g 1 1 (mv_iret G y [.int (Int32.ofInt x)]) = _
  unfold mv_g mv_iret
  rw [if_pos rfl]
  dsimp only
  rw [hR]
  dsimp only
  rw [if_pos hx]
theorem so_aret {q : Option Nat × Nat × Nat} {ty : FieldType} (hI : mv_gI G y pc = some (.areturn, 1)) (hR : mv_gR G y = some ty) (hr : ty.isReference = true) (kk : Q (.inr (some (.inr (.inl q)))) M) : me_W G y d pc L [.inr (.inl q)] M Q := by
  refine so_ret (o := .inr (some (.inr (.inl q)))) hI (fun fb lb lo hp cb sb => by unfold mv_nat; simp only [hI]) (some (va_rf q.1)) rfl (fun lo hp cb sb => ?_) (fun h => me_hd h) kk
  unfold mv_exec
  simp only [hI]
  show mv_g 1 1 (mv_aret G y [va_rf q.1]) = _
  unfold mv_g mv_aret
  rw [if_pos rfl]
  dsimp only
  rw [hR]
  dsimp only
  rw [if_pos ⟨hr, by cases q.1 <;> rfl⟩]
theorem so_vret (hI : mv_gI G y pc = some (.return_, 1)) (hR : mv_gR G y = none) (kk : Q (.inr none) M) : me_W G y d pc L [] M Q := by
  refine so_ret (o := .inr none) hI (fun fb lb lo hp cb sb => by unfold mv_nat; simp only [hI]) none rfl (fun lo hp cb sb => ?_) (fun _ => trivial) kk
  unfold mv_exec
  simp only [hI]
  show mv_g 1 1 (mv_vret G y []) = _
  unfold mv_g mv_vret
  rw [if_pos rfl]
  dsimp only
  rw [hR]
theorem so_throw {a : Nat} (hI : mv_gI G y pc = some (.athrow, 1)) (kk : me_thr G y d pc L a M Q) : me_W G y d pc L (.inr (.inl (some a, 2 * mv_gX G + 1, 0)) :: r) M Q := by
  intro fb lb lo hp g1 g2 g3 g4 g5
  obtain ⟨o, M2, hp2, ⟨n2, hle, j1⟩, j2⟩ := me_take (m := 0) (st9 := (.inr (.inl (some a, 2 * mv_gX G + 1, 0)) :: r : List me_V).map me_v) g1 g2 g3 g4.1 g5 (me_hd g4) kk
  refine ⟨o, M2, hp2, ⟨n2 + 1, ?_⟩, j2⟩
  have hn : mv_nat G y fb lb (pc, lo, (.inr (.inl (some a, 2 * mv_gX G + 1, 0)) :: r : List me_V).map me_v, hp, M.2.2.2.2.1, M.2.2.2.2.2) = none := by
    unfold mv_nat
    simp only [hI]
  have hx : mv_exec G y (pc, lo, (.inr (.inl (some a, 2 * mv_gX G + 1, 0)) :: r : List me_V).map me_v, hp, M.2.2.2.2.1, M.2.2.2.2.2) = some (.inr (.inr (.inr a))) := by
    unfold mv_exec
    simp only [hI]
    rfl
  rw [mv_run, hn]
  dsimp only
  rw [hx]
  exact j1
theorem so_back {z : Nat} (hk : ∀ d pc L st M, k d pc L st M → me_W G y d pc L st M Q) {o : me_O} {M' : me_M} (h : sx_back G Q k y d pc len z L r o M') : me_back G y d pc len L r Q o M' := by
  unfold sx_back at h
  unfold me_back
  rcases o with a | _ | x | ⟨p, q⟩ | j
  · dsimp only at h ⊢
    unfold me_thr
    split at h
    · rename_i e
      rw [e]
      exact h
    · rename_i h9 ct e
      rw [e]
      exact hk _ _ _ _ _ h
  · exact hk _ _ _ _ _ h
  · exact hk _ _ _ _ _ h
  · dsimp only at h ⊢
    obtain ⟨h1, h2⟩ := h
    obtain ⟨q1, q2⟩ := q
    dsimp only at h1
    subst h1
    split at h2
    · obtain ⟨h3, h4⟩ := h2
      dsimp only at h3
      subst h3
      exact hk _ _ _ _ _ h4
    · exact hk _ _ _ _ _ h2
  · exact h.elim
theorem so_call {z : Nat} {as : List me_V} {st9 : List Value} (hk : ∀ d pc L st M, k d pc L st M → me_W G y d pc L st M Q)
    (hn : ∀ (fb lb : Nat) (lo : List (Nat × Value)) (hp : List va_E) (cb sb : Nat), mv_nat G y fb lb (pc, lo, st9, hp, cb, sb) = none)
    (hx : ∀ (lo : List (Nat × Value)) (hp : List va_E) (cb sb : Nat), me_al M L st → me_R G M hp → mv_exec G y (pc, lo, st9, hp, cb, sb) = some (.inr (.inl (z, as.map me_v, r.map me_v, 3))))
    (h9 : st.map me_v = st9) (hal : me_al M L st → me_al M L r ∧ ∀ v ∈ as, me_an M v) (h : sx_call G Q k y d pc 3 z as L r M) : me_W G y d pc L st M Q := by
  obtain ⟨hb, d', rfl, h⟩ := sx_b_eq h
  rw [Bool.and_eq_true] at hb
  intro fb lb lo hp g1 g2 g3 g4 g5
  refine me_call (z := z) (len := 3) (as := as) (r := r) (st9 := st9) (Nat.le_of_ble_eq_true hb.1) (Nat.le_of_ble_eq_true hb.2) hn (fun lo hp cb sb h5 => hx lo hp cb sb g4 h5) h9 hal (h.mono fun o M' _ z => so_back hk z) fb lb lo hp g1 g2 g3 g4 g5
end SXN
end
section
/-! sx holds: all instructions -/
section SXA
variable {G : mv_G} {kn : Nat → Nat → Option Int} {pv y d pc len : Nat} {Q : me_Q} {k : Nat → Nat → List (Option me_V) → List me_V → me_M → Prop} {L : List (Option me_V)} {st : List me_V} {M : me_M}
theorem me_len {i : me_V} {a n : Nat} {t : Nat} {r : List me_V} (h : n ≤ 134217728 → me_W G y d pc L (i :: .inr (.inl (some a, t, n)) :: r) M Q) : me_W G y d pc L (i :: .inr (.inl (some a, t, n)) :: r) M Q := by
  intro fb lb lo hp g1 g2 g3 g4 g5
  obtain ⟨ha, ht⟩ := me_hd (me_al_pop g4)
  have := g5.2.2.2.2.2.1 a ha
  rw [ht] at this
  exact h this fb lb lo hp g1 g2 g3 g4 g5
theorem me_len2 {i j : me_V} {a n : Nat} {t : Nat} {r : List me_V} (h : n ≤ 134217728 → me_W G y d pc L (i :: j :: .inr (.inl (some a, t, n)) :: r) M Q) : me_W G y d pc L (i :: j :: .inr (.inl (some a, t, n)) :: r) M Q := by
  intro fb lb lo hp g1 g2 g3 g4 g5
  obtain ⟨ha, ht⟩ := me_hd (me_al_pop (me_al_pop g4))
  have := g5.2.2.2.2.2.1 a ha
  rw [ht] at this
  exact h this fb lb lo hp g1 g2 g3 g4 g5
theorem sx_all_eq (K : Int → Int → Prop) : ∀ (l : List Int) (lo : Int), sx_all l lo K → ∀ (n : Nat) (off : Int), l[n]? = some off → K (lo + n) off
  | [], _, _, n, off, h => by simp at h
  | o :: r, lo, h, 0, off, h1 => by
    simp at h1
    subst h1
    have h2 := h.1
    rwa [show lo + ((0 : Nat) : Int) = lo by omega]
  | o :: r, lo, h, n + 1, off, h1 => by
    have h2 := sx_all_eq K r (lo + 1) h.2 n off (by simpa using h1)
    rwa [show lo + ((n + 1 : Nat) : Int) = lo + 1 + (n : Int) by omega]
theorem sx_lk_eq {x df : Int} {K : Int → Prop} : ∀ {l : List (Int × Int)}, sx_lk l x K (K df) → K (Op.lookupswitch.offset l df x)
  | [], h => h
  | (v, off) :: r, h => by
    rw [Op.lookupswitch.offset_cons]
    by_cases e : v = x
    · rw [if_pos e]
      exact h.1 e.symm
    · rw [if_neg e]
      exact sx_lk_eq (h.2 fun z => e z.symm)
set_option maxHeartbeats 4000000 in
theorem sx_i_ok (hG : me_hG G) (hT : ∀ a tx, mv_gX2 G a = some tx → tx.length ≤ 2147483647) (hkn : ∀ y idx v, kn y idx = some v → mv_gK G y idx = some (.int (Int32.ofInt v))) (hk : ∀ d pc L st M, k d pc L st M → me_W G y d pc L st M Q) {i : Instr}
    (hI : mv_gI G y pc = some (i, len)) (h : sx_i G kn pv y Q k d pc len L st M i) : me_W G y d pc L st M Q := by
  cases i
  case aconst_null =>
    obtain ⟨e9, h9⟩ := sx_g_eq h
    clear h
    subst e9
    have h := h9
    clear h9
    exact so_psh (v := .inr (.inl (none, 0, 0))) hI rfl trivial (fun lo hp cb sb => rfl) (hk _ _ _ _ _ h)
  case iconst v =>
    obtain ⟨e9, h9⟩ := sx_g_eq h
    clear h
    subst e9
    have h := h9
    clear h9
    exact so_psh (v := .inl v) hI rfl trivial (fun lo hp cb sb => rfl) (hk _ _ _ _ _ h)
  case bipush v =>
    obtain ⟨e9, h9⟩ := sx_g_eq h
    clear h
    subst e9
    have h := h9
    clear h9
    obtain ⟨h1, h⟩ := sx_b_eq h
    rw [Bool.and_eq_true] at h1
    exact so_psh (v := .inl v) hI rfl trivial (fun lo hp cb sb => by
      show mv_g 2 2 (mv_push pc lo _ hp cb sb 2 (.int (Int8.ofInt v).toInt32)) = _
      rw [sx_8 (of_decide_eq_true h1.1) (of_decide_eq_true h1.2)]
      rfl) (hk _ _ _ _ _ h)
  case sipush v =>
    obtain ⟨e9, h9⟩ := sx_g_eq h
    clear h
    subst e9
    have h := h9
    clear h9
    obtain ⟨h1, h⟩ := sx_b_eq h
    rw [Bool.and_eq_true] at h1
    exact so_psh (v := .inl v) hI rfl trivial (fun lo hp cb sb => by
      show mv_g 3 3 (mv_push pc lo _ hp cb sb 3 (.int (Int16.ofInt v).toInt32)) = _
      rw [sx_16 (of_decide_eq_true h1.1) (of_decide_eq_true h1.2)]
      rfl) (hk _ _ _ _ _ h)
  case iload q =>
    obtain ⟨e9, h9⟩ := sx_g_eq h
    clear h
    subst e9
    have h := h9
    clear h9
    obtain ⟨v, h1, h2, h3, -⟩ := sx_ld_eq h
    exact so_ld (q := q) (b := mv_int) hI rfl h1 (h3 rfl) (fun lo hp cb sb => rfl) (hk _ _ _ _ _ h2)
  case iload_n q =>
    obtain ⟨e9, h9⟩ := sx_g_eq h
    clear h
    subst e9
    have h := h9
    clear h9
    obtain ⟨v, h1, h2, h3, -⟩ := sx_ld_eq h
    exact so_ld (q := q.val) (b := mv_int) hI rfl h1 (h3 rfl) (fun lo hp cb sb => rfl) (hk _ _ _ _ _ h2)
  case aload q =>
    obtain ⟨e9, h9⟩ := sx_g_eq h
    clear h
    subst e9
    have h := h9
    clear h9
    obtain ⟨v, h1, h2, -, h3⟩ := sx_ld_eq h
    exact so_ld (q := q) (b := mv_rfv) hI rfl h1 (h3 rfl) (fun lo hp cb sb => rfl) (hk _ _ _ _ _ h2)
  case aload_n q =>
    obtain ⟨e9, h9⟩ := sx_g_eq h
    clear h
    subst e9
    have h := h9
    clear h9
    obtain ⟨v, h1, h2, -, h3⟩ := sx_ld_eq h
    exact so_ld (q := q.val) (b := mv_rfv) hI rfl h1 (h3 rfl) (fun lo hp cb sb => rfl) (hk _ _ _ _ _ h2)
  case istore q =>
    obtain ⟨e9, h9⟩ := sx_g_eq h
    clear h
    subst e9
    have h := h9
    clear h9
    rcases st with _ | ⟨x | x, r⟩
    · exact h.elim
    · obtain ⟨h1, h⟩ := sx_b_eq h
      exact so_sto (q := q) (b := mv_int) hI rfl h1 rfl (fun lo hp cb sb => rfl) (hk _ _ _ _ _ h)
    · exact h.elim
  case istore_n q =>
    obtain ⟨e9, h9⟩ := sx_g_eq h
    clear h
    subst e9
    have h := h9
    clear h9
    rcases st with _ | ⟨x | x, r⟩
    · exact h.elim
    · obtain ⟨h1, h⟩ := sx_b_eq h
      exact so_sto (q := q.val) (b := mv_int) hI rfl h1 rfl (fun lo hp cb sb => rfl) (hk _ _ _ _ _ h)
    · exact h.elim
  case astore q =>
    obtain ⟨e9, h9⟩ := sx_g_eq h
    clear h
    subst e9
    have h := h9
    clear h9
    rcases st with _ | ⟨x | x, r⟩
    · exact h.elim
    · exact h.elim
    · obtain ⟨h1, h⟩ := sx_b_eq h
      exact so_sto (q := q) (b := mv_rfv) hI rfl h1 (by rcases x with ⟨_ | a, w⟩ | j <;> rfl) (fun lo hp cb sb => rfl) (hk _ _ _ _ _ h)
  case astore_n q =>
    obtain ⟨e9, h9⟩ := sx_g_eq h
    clear h
    subst e9
    have h := h9
    clear h9
    rcases st with _ | ⟨x | x, r⟩
    · exact h.elim
    · exact h.elim
    · obtain ⟨h1, h⟩ := sx_b_eq h
      exact so_sto (q := q.val) (b := mv_rfv) hI rfl h1 (by rcases x with ⟨_ | a, w⟩ | j <;> rfl) (fun lo hp cb sb => rfl) (hk _ _ _ _ _ h)
  case iinc q v =>
    obtain ⟨e9, h9⟩ := sx_g_eq h
    clear h
    subst e9
    have h := h9
    clear h9
    obtain ⟨h0, h⟩ := sx_b_eq h
    obtain ⟨w, h1, h2, h3, -⟩ := sx_ld_eq h
    rcases w with x | w
    · refine me_st (L' := L.set q (some (.inl (x + v)))) (st' := st) hI rfl (fun _ h => me_al_set (me_al_psh (v := .inl (x + v)) h trivial)) (fun lo hp g3 _ _ => ⟨(q, me_v (.inl (x + v))) :: mv_keep q lo, ?_, me_lo_set g3⟩) (hk _ _ _ _ _ h2)
      obtain ⟨j, hj⟩ := g3 q _ h1
      show mv_inc G y pc lo (st.map me_v) hp _ _ q v 3 = _
      unfold mv_inc
      rw [hj]
      show (if q < mv_gL G y then some (Sum.inl (pc + 3, (q, .int (Int32.ofInt x + Int32.ofInt v)) :: mv_keep q lo, st.map me_v, hp, _, _)) else none) = _
      rw [if_pos (show q < mv_gL G y from Nat.le_of_ble_eq_true h0), ← Int32.ofInt_add]
      rfl
    · exact h2.elim
  case iadd =>
    obtain ⟨e9, h9⟩ := sx_g_eq h
    clear h
    subst e9
    have h := h9
    clear h9
    rcases st with _ | ⟨b | b, _ | ⟨a | a, r⟩⟩ <;> first | exact h.elim | exact so_bin (f := mv_f_iadd) hI rfl (Int32.ofInt_add ..).symm (fun lo st hp cb sb => rfl) (hk _ _ _ _ _ h)
  case isub =>
    obtain ⟨e9, h9⟩ := sx_g_eq h
    clear h
    subst e9
    have h := h9
    clear h9
    rcases st with _ | ⟨b | b, _ | ⟨a | a, r⟩⟩ <;> first | exact h.elim | exact so_bin (f := mv_f_isub) hI rfl (Int32.ofInt_sub ..).symm (fun lo st hp cb sb => rfl) (hk _ _ _ _ _ h)
  case imul =>
    obtain ⟨e9, h9⟩ := sx_g_eq h
    clear h
    subst e9
    have h := h9
    clear h9
    rcases st with _ | ⟨b | b, _ | ⟨a | a, r⟩⟩ <;> first | exact h.elim | exact so_bin (f := mv_f_imul) hI rfl (Int32.ofInt_mul ..).symm (fun lo st hp cb sb => rfl) (hk _ _ _ _ _ h)
  case ineg =>
    obtain ⟨e9, h9⟩ := sx_g_eq h
    clear h
    subst e9
    have h := h9
    clear h9
    rcases st with _ | ⟨a | a, r⟩ <;> first | exact h.elim | exact so_un (f := mv_f_ineg) hI rfl (Int32.ofInt_neg ..).symm (fun lo st hp cb sb => rfl) (hk _ _ _ _ _ h)
  case iand =>
    obtain ⟨e9, h9⟩ := sx_g_eq h
    clear h
    subst e9
    have h := h9
    clear h9
    rcases st with _ | ⟨b | b, _ | ⟨a | a, r⟩⟩ <;> first | exact h.elim | exact so_bin (f := mv_f_iand) hI rfl (me_of _).symm (fun lo st hp cb sb => rfl) (hk _ _ _ _ _ h)
  case ior =>
    obtain ⟨e9, h9⟩ := sx_g_eq h
    clear h
    subst e9
    have h := h9
    clear h9
    rcases st with _ | ⟨b | b, _ | ⟨a | a, r⟩⟩ <;> first | exact h.elim | exact so_bin (f := mv_f_ior) hI rfl (me_of _).symm (fun lo st hp cb sb => rfl) (hk _ _ _ _ _ h)
  case ixor =>
    obtain ⟨e9, h9⟩ := sx_g_eq h
    clear h
    subst e9
    have h := h9
    clear h9
    rcases st with _ | ⟨b | b, _ | ⟨a | a, r⟩⟩ <;> first | exact h.elim | exact so_bin (f := mv_f_ixor) hI rfl (me_of _).symm (fun lo st hp cb sb => rfl) (hk _ _ _ _ _ h)
  case ishl =>
    obtain ⟨e9, h9⟩ := sx_g_eq h
    clear h
    subst e9
    have h := h9
    clear h9
    rcases st with _ | ⟨b | b, _ | ⟨a | a, r⟩⟩ <;> first | exact h.elim | exact so_bin (f := mv_f_ishl) hI rfl (me_of _).symm (fun lo st hp cb sb => rfl) (hk _ _ _ _ _ h)
  case ishr =>
    obtain ⟨e9, h9⟩ := sx_g_eq h
    clear h
    subst e9
    have h := h9
    clear h9
    rcases st with _ | ⟨b | b, _ | ⟨a | a, r⟩⟩ <;> first | exact h.elim | exact so_bin (f := mv_f_ishr) hI rfl (me_of _).symm (fun lo st hp cb sb => rfl) (hk _ _ _ _ _ h)
  case iushr =>
    obtain ⟨e9, h9⟩ := sx_g_eq h
    clear h
    subst e9
    have h := h9
    clear h9
    rcases st with _ | ⟨b | b, _ | ⟨a | a, r⟩⟩ <;> first | exact h.elim | exact so_bin (f := mv_f_iushr) hI rfl (me_of _).symm (fun lo st hp cb sb => rfl) (hk _ _ _ _ _ h)
  case i2b =>
    obtain ⟨e9, h9⟩ := sx_g_eq h
    clear h
    subst e9
    have h := h9
    clear h9
    rcases st with _ | ⟨a | a, r⟩ <;> first | exact h.elim | exact so_un (f := mv_f_i2b) hI rfl (me_of _).symm (fun lo st hp cb sb => rfl) (hk _ _ _ _ _ h)
  case idiv =>
    obtain ⟨e9, h9⟩ := sx_g_eq h
    clear h
    subst e9
    have h := h9
    clear h9
    rcases st with _ | ⟨b | b, _ | ⟨a | a, r⟩⟩ <;> try exact h.elim
    obtain ⟨h1, h2, h3, h⟩ := h
    refine me_st hI rfl (fun _ h => me_al_psh (v := .inl (a.tdiv b)) (me_al_pop (me_al_pop h)) trivial) (fun lo hp g3 _ _ => ⟨lo, ?_, g3⟩) (hk _ _ _ _ _ h)
    show mv_g 1 1 (mv_dvd pc lo (.int (Int32.ofInt b) :: .int (Int32.ofInt a) :: r.map me_v) hp _ _ mv_f_idiv) = _
    unfold mv_g mv_dvd
    rw [if_pos rfl]
    dsimp only
    rw [if_neg (fun z : Int32.ofInt b = 0 => h3 ((me_eq h2 ⟨by decide, by decide⟩).mp (show Int32.ofInt b = Int32.ofInt 0 from z)))]
    show some (Sum.inl (pc + 1, lo, Value.int (Int32.ofInt a / Int32.ofInt b) :: r.map me_v, hp, _, _)) = _
    rw [← sx_div h1 h2]
    rfl
  case irem =>
    obtain ⟨e9, h9⟩ := sx_g_eq h
    clear h
    subst e9
    have h := h9
    clear h9
    rcases st with _ | ⟨b | b, _ | ⟨a | a, r⟩⟩ <;> try exact h.elim
    obtain ⟨h1, h2, h3, h⟩ := h
    refine me_st hI rfl (fun _ h => me_al_psh (v := .inl (a - a.tdiv b * b)) (me_al_pop (me_al_pop h)) trivial) (fun lo hp g3 _ _ => ⟨lo, ?_, g3⟩) (hk _ _ _ _ _ h)
    show mv_g 1 1 (mv_dvd pc lo (.int (Int32.ofInt b) :: .int (Int32.ofInt a) :: r.map me_v) hp _ _ mv_f_irem) = _
    unfold mv_g mv_dvd
    rw [if_pos rfl]
    dsimp only
    rw [if_neg (fun z : Int32.ofInt b = 0 => h3 ((me_eq h2 ⟨by decide, by decide⟩).mp (show Int32.ofInt b = Int32.ofInt 0 from z)))]
    show some (Sum.inl (pc + 1, lo, Value.int (Int32.ofInt a - Int32.ofInt a / Int32.ofInt b * Int32.ofInt b) :: r.map me_v, hp, _, _)) = _
    rw [← sx_div h1 h2, ← Int32.ofInt_mul, ← Int32.ofInt_sub]
    rfl
  case dup =>
    obtain ⟨e9, h9⟩ := sx_g_eq h
    clear h
    subst e9
    have h := h9
    clear h9
    rcases st with _ | ⟨v, r⟩
    · exact h.elim
    · refine me_st hI rfl (fun _ h => me_al_psh h (me_hd h)) (fun lo hp g3 _ _ => ⟨lo, ?_, g3⟩) (hk _ _ _ _ _ h)
      show mv_g 1 1 (mv_dup pc lo (me_v v :: r.map me_v) hp _ _) = _
      unfold mv_g mv_dup
      rw [if_pos rfl]
      dsimp only
      rw [if_pos (me_v_cat v)]
      rfl
  case pop =>
    obtain ⟨e9, h9⟩ := sx_g_eq h
    clear h
    subst e9
    have h := h9
    clear h9
    rcases st with _ | ⟨v, r⟩
    · exact h.elim
    · refine me_st hI rfl (fun _ h => me_al_pop h) (fun lo hp g3 _ _ => ⟨lo, ?_, g3⟩) (hk _ _ _ _ _ h)
      show mv_g 1 1 (mv_pop pc lo (me_v v :: r.map me_v) hp _ _) = _
      unfold mv_g mv_pop
      rw [if_pos rfl]
      dsimp only
      rw [if_pos (me_v_cat v)]
  case dup_x1 =>
    obtain ⟨e9, h9⟩ := sx_g_eq h
    clear h
    subst e9
    have h := h9
    clear h9
    rcases st with _ | ⟨v, _ | ⟨w, r⟩⟩
    · exact h.elim
    · exact h.elim
    · refine me_st hI rfl (fun _ h => me_al_psh (me_al_psh (me_al_psh (me_al_pop (me_al_pop h)) (me_hd h)) (me_hd (me_al_pop h))) (me_hd h)) (fun lo hp g3 _ _ => ⟨lo, ?_, g3⟩) (hk _ _ _ _ _ h)
      show mv_g 1 1 (mv_dupx pc lo (me_v v :: me_v w :: r.map me_v) hp _ _) = _
      unfold mv_g mv_dupx
      rw [if_pos rfl]
      dsimp only
      rw [if_pos ⟨me_v_cat v, me_v_cat w⟩]
      rfl
  case dup2 =>
    obtain ⟨e9, h9⟩ := sx_g_eq h
    clear h
    subst e9
    have h := h9
    clear h9
    rcases st with _ | ⟨v, _ | ⟨w, r⟩⟩
    · exact h.elim
    · exact h.elim
    · refine me_st hI rfl (fun _ h => me_al_psh (me_al_psh h (me_hd (me_al_pop h))) (me_hd h)) (fun lo hp g3 _ _ => ⟨lo, ?_, g3⟩) (hk _ _ _ _ _ h)
      show mv_g 1 1 (mv_dup2 pc lo (me_v v :: me_v w :: r.map me_v) hp _ _) = _
      unfold mv_g mv_dup2
      rw [if_pos rfl]
      dsimp only
      rw [if_pos ⟨me_v_cat v, me_v_cat w⟩]
      rfl
  case goto off =>
    obtain ⟨e9, h9⟩ := sx_g_eq h
    clear h
    subst e9
    have h := h9
    clear h9
    obtain ⟨t, ht, h⟩ := sx_t_eq h
    refine so_jmp (t := t) (st' := st) hI rfl (fun v hv => hv) (fun lo hp cb sb _ _ => ?_) (hk _ _ _ _ _ h)
    show mv_g 3 3 (mv_jump pc lo hp cb sb off true (st.map me_v)) = _
    unfold mv_g mv_jump
    rw [if_pos rfl, ht]
    rfl
  case ifCond c off =>
    obtain ⟨e9, h9⟩ := sx_g_eq h
    clear h
    subst e9
    have h := h9
    clear h9
    rcases st with _ | ⟨x | x, r⟩ <;> try exact h.elim
    obtain ⟨t, ht, hx, h⟩ := sx_t_eq h
    obtain ⟨h1, h2⟩ := sx_cd_eq h
    exact so_cond hI ht hx (fun z => hk _ _ _ _ _ (h1 z)) (fun z => hk _ _ _ _ _ (h2 z))
  case if_icmp c off =>
    obtain ⟨e9, h9⟩ := sx_g_eq h
    clear h
    subst e9
    have h := h9
    clear h9
    rcases st with _ | ⟨b | b, _ | ⟨a | a, r⟩⟩ <;> try exact h.elim
    obtain ⟨t, ht, ha, hb, h⟩ := sx_t_eq h
    obtain ⟨h1, h2⟩ := sx_cd_eq h
    exact so_icmp hI ht ha hb (fun z => hk _ _ _ _ _ (h1 z)) (fun z => hk _ _ _ _ _ (h2 z))
  case if_acmp c off =>
    obtain ⟨e9, h9⟩ := sx_g_eq h
    clear h
    subst e9
    have h := h9
    clear h9
    rcases st with _ | ⟨b | ⟨p1, w1⟩ | b, _ | ⟨a | ⟨p2, w2⟩ | a, r⟩⟩ <;> try exact h.elim
    obtain ⟨t, ht, h⟩ := sx_t_eq h
    cases c
    · exact so_acmp hI ht (fun z => hk _ _ _ _ _ (h.1 z)) (fun z => hk _ _ _ _ _ (h.2 z))
    · exact so_acmp hI ht (fun z => hk _ _ _ _ _ (h.1 z)) (fun z => hk _ _ _ _ _ (h.2 (Classical.not_not.mp z)))
  case ifnull off =>
    obtain ⟨e9, h9⟩ := sx_g_eq h
    clear h
    subst e9
    have h := h9
    clear h9
    rcases st with _ | ⟨x | ⟨p, w⟩ | x, r⟩ <;> try exact h.elim
    obtain ⟨t, ht, h⟩ := sx_t_eq h
    exact so_null (b := true) hI rfl (fun lo s hp cb sb => rfl) ht (fun z => hk _ _ _ _ _ (h.1 (z.mp rfl))) (fun z => hk _ _ _ _ _ (h.2 fun e => z ⟨fun _ => e, fun _ => rfl⟩))
  case ifnonnull off =>
    obtain ⟨e9, h9⟩ := sx_g_eq h
    clear h
    subst e9
    have h := h9
    clear h9
    rcases st with _ | ⟨x | ⟨p, w⟩ | x, r⟩ <;> try exact h.elim
    obtain ⟨t, ht, h⟩ := sx_t_eq h
    exact so_null (b := false) hI rfl (fun lo s hp cb sb => rfl) ht (fun z => hk _ _ _ _ _ (h.1 fun e => by have := z.mpr e; cases this)) (fun z => hk _ _ _ _ _ (h.2 (Classical.byContradiction fun e => z ⟨(fun q => by cases q), fun q => absurd q e⟩)))
  case tableswitch df lo hi offs =>
    rcases st with _ | ⟨x | x, r⟩ <;> try exact h.elim
    obtain ⟨hs, hx, h1, h2⟩ := sx_b_eq h
    have ex : (Int32.ofInt x).toInt = x := me_w_eq hx
    by_cases hc : x < lo ∨ hi < x
    · obtain ⟨t, ht, h3⟩ := sx_t_eq (h1 hc)
      refine so_jmp (t := t) (st' := r) hI rfl (fun v hv => List.mem_cons_of_mem _ hv) (fun l9 hp cb sb _ _ => ?_) (hk _ _ _ _ _ h3)
      show mv_tsw pc l9 (.int (Int32.ofInt x) :: r.map me_v) hp cb sb df lo hi offs = _
      unfold mv_tsw
      dsimp only
      rw [ex, if_pos hc, ht]
    · have hs := Nat.eq_of_beq_eq_true hs
      have hlt : (x - lo).toNat < offs.toList.length := by omega
      have hg := List.getElem?_eq_getElem hlt
      have h3 := sx_all_eq (fun v off => x = v → sx_t pc off fun t => k d t L r M) offs.toList lo h2 (x - lo).toNat _ hg (by omega)
      obtain ⟨t, ht, h3⟩ := sx_t_eq h3
      refine so_jmp (t := t) (st' := r) hI rfl (fun v hv => List.mem_cons_of_mem _ hv) (fun l9 hp cb sb _ _ => ?_) (hk _ _ _ _ _ h3)
      show mv_tsw pc l9 (.int (Int32.ofInt x) :: r.map me_v) hp cb sb df lo hi offs = _
      unfold mv_tsw
      dsimp only
      rw [ex, if_neg hc, ← Array.getElem?_toList, hg]
      dsimp only
      rw [ht]
  case lookupswitch df ps =>
    rcases st with _ | ⟨x | x, r⟩ <;> try exact h.elim
    obtain ⟨hx, h⟩ := h
    obtain ⟨hs, h⟩ := sx_b_eq h
    have ex : (Int32.ofInt x).toInt = x := me_w_eq hx
    obtain ⟨t, ht, h3⟩ := sx_t_eq (sx_lk_eq (K := fun off => sx_t pc off fun t => k d t L r M) h)
    refine so_jmp (t := t) (st' := r) hI rfl (fun v hv => List.mem_cons_of_mem _ hv) (fun l9 hp cb sb _ _ => ?_) (hk _ _ _ _ _ h3)
    show mv_lsw pc l9 (.int (Int32.ofInt x) :: r.map me_v) hp cb sb df ps = _
    unfold mv_lsw
    dsimp only
    rw [if_pos hs, ex, ht]
  case getfield idx =>
    obtain ⟨e9, h9⟩ := sx_g_eq h
    clear h
    subst e9
    rcases st with _ | ⟨x | ⟨p, q1, q2⟩ | x, r⟩ <;> try exact h9.elim
    dsimp only at h9
    split at h9
    · rename_i ci j hF
      obtain ⟨hb, h9⟩ := sx_b_eq h9
      simp only [Bool.and_eq_true] at hb
      have hq : q1 = 2 * ci + 1 := Nat.eq_of_beq_eq_true hb.1
      have hj : j < (mv_gD G ci).length := Nat.le_of_ble_eq_true hb.2
      obtain ⟨a, rfl, h9⟩ := me_dr_eq h9
      split at h9
      · rename_i hi
        exact me_geti hI hF hj hi hq (hk _ _ _ _ _ h9)
      · rename_i hi
        split at h9
        · rename_i sg off q' hf
          exact me_getf hI hF hj hi hq hf (hk _ _ _ _ _ h9)
        · split at h9
          · exact me_getpv hI hF hj hi hq h9.1 (hk _ _ _ _ _ h9.2)
          · rename_i e1 e2
            exact me_getp0 hI hF hj hi hq (Nat.eq_of_beq_eq_true e2) (fun z => by rw [z] at e1; cases e1) (hk _ _ _ _ _ h9)
          · exact me_getp hI hF hj hi hq fun n hn => hk _ _ _ _ _ (h9 n hn)
    · exact h9.elim
  case putfield idx =>
    obtain ⟨e9, h9⟩ := sx_g_eq h
    clear h
    subst e9
    rcases st with _ | ⟨x | ⟨v, w⟩ | x, _ | ⟨z | ⟨p, q1, q2⟩ | z, r⟩⟩ <;> try exact h9.elim
    · dsimp only at h9
      split at h9
      · rename_i ci j hF
        obtain ⟨hb, h9⟩ := sx_b_eq h9
        simp only [Bool.and_eq_true, Bool.not_eq_true'] at hb
        have hq : q1 = 2 * ci + 1 := Nat.eq_of_beq_eq_true hb.1.1
        have hj : j < (mv_gD G ci).length := Nat.le_of_ble_eq_true hb.1.2
        obtain ⟨a, rfl, h9⟩ := me_dr_eq h9
        split at h9
        · rename_i hT
          exact me_puti hI hF hj (by unfold me_ik; rw [hT]) hq hT hb.2 (Or.inl rfl) (hk _ _ _ _ _ h9)
        · rename_i hT
          exact me_puti hI hF hj (by unfold me_ik; rw [hT]) hq hT hb.2 (Or.inr ⟨rfl, h9.1⟩) (hk _ _ _ _ _ h9.2)
        · exact h9.elim
      · exact h9.elim
    · dsimp only at h9
      split at h9
      · rename_i ci j hF
        obtain ⟨hb, h9⟩ := sx_b_eq h9
        simp only [Bool.and_eq_true, Bool.not_eq_true', Option.isNone_iff_eq_none] at hb
        obtain ⟨⟨⟨⟨⟨b1, b2⟩, b3⟩, b4⟩, b5⟩, b6⟩ := hb
        have hq : q1 = 2 * ci + 1 := Nat.eq_of_beq_eq_true b1
        have hj : j < (mv_gD G ci).length := Nat.le_of_ble_eq_true b2
        split at b5
        · rename_i ty hT
          obtain ⟨a, rfl, h9⟩ := me_dr_eq h9
          split at h9
          · rename_i e1
            exact me_putp hI hF hj b4 hq hT b5 b3 (Or.inr (Nat.eq_of_beq_eq_true e1)) b6 (hk _ _ _ _ _ h9)
          · exact me_putp hI hF hj b4 hq hT b5 b3 (Or.inl h9.1) b6 (hk _ _ _ _ _ h9.2)
        · cases b5
      · exact h9.elim
  case iaload =>
    obtain ⟨e9, h9⟩ := sx_g_eq h
    clear h
    subst e9
    rcases st with _ | ⟨i | ⟨v, w⟩ | i, _ | ⟨z | ⟨p, q1, q2⟩ | z, r⟩⟩ <;> try exact h9.elim
    obtain ⟨hb, h9⟩ := sx_b_eq h9
    have hq : q1 = 0 := Nat.eq_of_beq_eq_true hb
    subst hq
    obtain ⟨a, rfl, h0, h1, h9⟩ := me_dr_eq h9
    exact me_len fun hl => me_iald hI hG h0 h1 ⟨by omega, by have h1 : i < (q2 : Int) := h1; omega⟩ (hk _ _ _ _ _ h9)
  case baload =>
    obtain ⟨e9, h9⟩ := sx_g_eq h
    clear h
    subst e9
    rcases st with _ | ⟨i | ⟨v, w⟩ | i, _ | ⟨z | ⟨p, q1, q2⟩ | z, r⟩⟩ <;> try exact h9.elim
    obtain ⟨hb, h9⟩ := sx_b_eq h9
    obtain ⟨a, rfl, h0, h1, h9⟩ := me_dr_eq h9
    rw [Bool.or_eq_true] at hb
    have h1 : i < (q2 : Int) := h1
    obtain ⟨t, h3, rfl⟩ : ∃ t, (t = 1 ∨ t = 2) ∧ q1 = 2 * t := by
      rcases hb with hb | hb
      · exact ⟨1, Or.inl rfl, Nat.eq_of_beq_eq_true hb⟩
      · exact ⟨2, Or.inr rfl, Nat.eq_of_beq_eq_true hb⟩
    intro fb lb lo hp g1 g2 g3 g4 g5
    obtain ⟨ha, ht⟩ := me_hd (me_al_pop g4)
    have hl := g5.2.2.2.2.2.1 a ha
    rw [ht] at hl
    have hby := g5.2.2.2.2.2.2 a ha i.toNat
    rw [ht] at hby
    refine me_bald hI h3 h0 h1 ⟨by omega, by have : q2 ≤ 134217728 := hl; omega⟩ (hk _ _ _ _ _ (h9 ?_)) fb lb lo hp g1 g2 g3 g4 g5
    rcases h3 with rfl | rfl
    · rw [if_pos rfl]
      have z := hby.1 rfl
      have z : (decide ((-128 : Int32) ≤ M.2.2.1 a i.toNat) && decide (M.2.2.1 a i.toNat ≤ 127)) = true := z
      rw [Bool.and_eq_true, decide_eq_true_iff, decide_eq_true_iff, Int32.le_iff_toInt_le, Int32.le_iff_toInt_le] at z
      exact z
    · rw [if_neg (by show ¬ 2 * 2 = 2; omega)]
      have z := hby.2 rfl
      have z : (M.2.2.1 a i.toNat == 0 || M.2.2.1 a i.toNat == 1) = true := z
      rw [Bool.or_eq_true, beq_iff_eq, beq_iff_eq] at z
      rcases z with z | z
      · exact Or.inl (by unfold me_i; rw [z]; rfl)
      · exact Or.inr (by unfold me_i; rw [z]; rfl)
  case aaload =>
    obtain ⟨e9, h9⟩ := sx_g_eq h
    clear h
    subst e9
    rcases st with _ | ⟨i | ⟨v, w⟩ | i, _ | ⟨z | ⟨p, q1, q2⟩ | z, r⟩⟩ <;> try exact h9.elim
    obtain ⟨hb, h8⟩ := sx_b_eq h9
    clear h9
    obtain ⟨a, rfl, h0, h1, h9⟩ := me_dr_eq h8
    clear h8
    simp only [Bool.and_eq_true, Bool.not_eq_true'] at hb
    obtain ⟨⟨b1, b2⟩, b3⟩ := hb
    have h1 : i < (q2 : Int) := h1
    have b1 : q1 % 2 = 0 := Nat.eq_of_beq_eq_true b1
    obtain ⟨t, rfl⟩ : ∃ t, q1 = 2 * t := ⟨q1 / 2, by omega⟩
    have et : 2 * t / 2 = t := by omega
    rw [et] at b2 b3 h9
    have b2 : ¬ t < 3 := fun z => by
      have z2 : Nat.blt t 3 = true := Nat.ble_eq_true_of_le (show t + 1 ≤ 3 from z)
      rw [z2] at b2
      cases b2
    split at b3
    · rename_i ty hY
      refine me_len fun hl => ?_
      split at h9
      · rename_i e
        rw [Bool.and_eq_true, Bool.not_eq_true'] at e
        exact me_aald0 hI b2 hY b3 h0 h1 ⟨by omega, by omega⟩ (Nat.eq_of_beq_eq_true e.1) (fun z => by rw [z] at e; cases e.2) (hk _ _ _ _ _ h9)
      · exact me_aald hI b2 hY b3 h0 h1 ⟨by omega, by omega⟩ fun m hm => hk _ _ _ _ _ (h9 m hm)
    · cases b3
  case iastore =>
    obtain ⟨e9, h9⟩ := sx_g_eq h
    clear h
    subst e9
    rcases st with _ | ⟨x | ⟨v, w⟩ | x, _ | ⟨i | ⟨v, w⟩ | i, _ | ⟨z | ⟨p, q1, q2⟩ | z, r⟩⟩⟩ <;> try exact h9.elim
    obtain ⟨hb, h9⟩ := sx_b_eq h9
    have hq : q1 = 0 := Nat.eq_of_beq_eq_true hb
    subst hq
    obtain ⟨a, rfl, h0, h1, h9⟩ := me_dr_eq h9
    have h1 : i < (q2 : Int) := h1
    exact me_len2 fun hl => me_iast hI h0 h1 ⟨by omega, by omega⟩ (hk _ _ _ _ _ h9)
  case bastore =>
    obtain ⟨e9, h9⟩ := sx_g_eq h
    clear h
    subst e9
    rcases st with _ | ⟨x | ⟨v, w⟩ | x, _ | ⟨i | ⟨v, w⟩ | i, _ | ⟨z | ⟨p, q1, q2⟩ | z, r⟩⟩⟩ <;> try exact h9.elim
    obtain ⟨hb, h9⟩ := sx_b_eq h9
    obtain ⟨a, rfl, h0, h1, h9⟩ := me_dr_eq h9
    rw [Bool.or_eq_true] at hb
    have h1 : i < (q2 : Int) := h1
    obtain ⟨t, h3, rfl⟩ : ∃ t, (t = 1 ∨ t = 2) ∧ q1 = 2 * t := by
      rcases hb with hb | hb
      · exact ⟨1, Or.inl rfl, Nat.eq_of_beq_eq_true hb⟩
      · exact ⟨2, Or.inr rfl, Nat.eq_of_beq_eq_true hb⟩
    have h9 : k d (pc + 1) L r (me_sI M a i.toNat (me_nar (2 * t / 2) x)) := h9
    rw [show 2 * t / 2 = t by omega] at h9
    exact me_len2 fun hl => me_bast hI h3 h0 h1 ⟨by omega, by omega⟩ (hk _ _ _ _ _ h9)
  case arraylength =>
    obtain ⟨e9, h9⟩ := sx_g_eq h
    clear h
    subst e9
    rcases st with _ | ⟨i | ⟨p, q1, q2⟩ | i, r⟩ <;> try exact h9.elim
    obtain ⟨hb, h8⟩ := sx_b_eq h9
    clear h9
    obtain ⟨a, rfl, h7⟩ := me_dr_eq h8
    clear h8
    rw [Bool.and_eq_true] at hb
    have b1 : q1 % 2 = 0 := Nat.eq_of_beq_eq_true hb.1
    obtain ⟨t, rfl⟩ : ∃ t, q1 = 2 * t := ⟨q1 / 2, by omega⟩
    obtain ⟨ty, hY⟩ := Option.isSome_iff_exists.mp hb.2
    have hY : mv_gY G (2 * t / 2) = some ty := hY
    rw [show 2 * t / 2 = t by omega] at hY
    exact me_alen hI hG hY (hk _ _ _ _ _ h7)
  case ireturn =>
    obtain ⟨e9, h9⟩ := sx_g_eq h
    clear h
    subst e9
    rcases st with _ | ⟨x | x, _ | ⟨w, r⟩⟩ <;> try exact h9.elim
    dsimp only at h9
    split at h9
    · rename_i hR
      exact so_iret hI hR rfl h9
    · rename_i hR
      refine so_iret hI hR ?_ h9.2
      rcases h9.1 with rfl | rfl <;> rfl
    · rename_i hR
      refine so_iret hI hR ?_ h9.2
      show Value.int ((Int32.ofInt x).toInt8.toInt32) = _
      congr 1
      apply Int32.toInt_inj.mp
      have ex : (Int32.ofInt x).toInt = x := me_w_eq ⟨by omega, by omega⟩
      rw [Int8.toInt_toInt32, Int32.toInt_toInt8, ex]
      exact Int.bmod_eq_of_le (by omega) (by omega)
    · exact h9.elim
  case areturn =>
    obtain ⟨e9, h9⟩ := sx_g_eq h
    clear h
    subst e9
    rcases st with _ | ⟨x | q | x, _ | ⟨w, r⟩⟩ <;> try exact h9.elim
    obtain ⟨hb, h9⟩ := sx_b_eq h9
    split at hb
    · rename_i ty hR
      exact so_aret hI hR hb h9
    · cases hb
  case return_ =>
    obtain ⟨e9, h9⟩ := sx_g_eq h
    clear h
    subst e9
    rcases st with _ | ⟨w, r⟩ <;> try exact h9.elim
    obtain ⟨hb, h9⟩ := sx_b_eq h9
    exact so_vret hI (Option.isNone_iff_eq_none.mp hb) h9
  case athrow =>
    obtain ⟨e9, h9⟩ := sx_g_eq h
    clear h
    subst e9
    rcases st with _ | ⟨x | ⟨p, q1, q2⟩ | x, r⟩ <;> try exact h9.elim
    obtain ⟨hb, h10⟩ := sx_b_eq h9
    clear h9
    rw [Bool.and_eq_true] at hb
    have e1 : q1 = 2 * mv_gX G + 1 := Nat.eq_of_beq_eq_true hb.1
    have e2 : q2 = 0 := Nat.eq_of_beq_eq_true hb.2
    subst e1
    subst e2
    obtain ⟨a, rfl, h9⟩ := me_dr_eq h10
    refine so_throw hI ?_
    unfold me_thr
    split at h9
    · rename_i e
      rw [e]
      exact h9
    · rename_i h8 ct e
      rw [e]
      exact hk _ _ _ _ _ h9
  case ldc idx =>
    obtain ⟨e9, h9⟩ := sx_g_eq h
    clear h
    subst e9
    split at h9
    · rename_i v hv
      refine so_psh (v := .inl v) hI rfl trivial (fun lo hp cb sb => ?_) (hk _ _ _ _ _ h9)
      show mv_g 2 2 (mv_ldc G y pc lo _ hp cb sb idx 2) = _
      unfold mv_g mv_ldc
      rw [if_pos rfl, hkn _ _ _ hv]
      rfl
    · split at h9
      · rename_i a ha
        obtain ⟨hb, h9⟩ := sx_b_eq h9
        have hb : mv_big < a := Nat.le_of_ble_eq_true hb
        refine so_psh (v := .inr (.inr (a - (mv_big + 1)))) hI rfl trivial (fun lo hp cb sb => ?_) (hk _ _ _ _ _ h9)
        show mv_g 2 2 (mv_ldc G y pc lo _ hp cb sb idx 2) = some (.inl (pc + 2, lo, .ref (mv_big + 1 + (a - (mv_big + 1))) :: _, hp, cb, sb))
        unfold mv_g mv_ldc
        rw [if_pos rfl, ha, show mv_big + 1 + (a - (mv_big + 1)) = a by omega]
      · exact h9.elim
  case ldc_w idx =>
    obtain ⟨e9, h9⟩ := sx_g_eq h
    clear h
    subst e9
    split at h9
    · rename_i v hv
      refine so_psh (v := .inl v) hI rfl trivial (fun lo hp cb sb => ?_) (hk _ _ _ _ _ h9)
      show mv_g 3 3 (mv_ldc G y pc lo _ hp cb sb idx 3) = _
      unfold mv_g mv_ldc
      rw [if_pos rfl, hkn _ _ _ hv]
      rfl
    · split at h9
      · rename_i a ha
        obtain ⟨hb, h9⟩ := sx_b_eq h9
        have hb : mv_big < a := Nat.le_of_ble_eq_true hb
        refine so_psh (v := .inr (.inr (a - (mv_big + 1)))) hI rfl trivial (fun lo hp cb sb => ?_) (hk _ _ _ _ _ h9)
        show mv_g 3 3 (mv_ldc G y pc lo _ hp cb sb idx 3) = some (.inl (pc + 3, lo, .ref (mv_big + 1 + (a - (mv_big + 1))) :: _, hp, cb, sb))
        unfold mv_g mv_ldc
        rw [if_pos rfl, ha, show mv_big + 1 + (a - (mv_big + 1)) = a by omega]
      · exact h9.elim
  case invokestatic idx =>
    obtain ⟨e9, h9⟩ := sx_g_eq h
    clear h
    subst e9
    split at h9
    · rename_i kd z n hC
      have stat : ∀ (hkd : kd = 0 ∨ kd = 1), sx_b (Nat.ble n st.length) (sx_cl G Q k y d pc 3 z (st.take n).reverse L (st.drop n) M) → me_W G y d pc L st M Q := by
        intro hkd h9
        obtain ⟨hb, h9⟩ := sx_b_eq h9
        have hb : n ≤ st.length := Nat.le_of_ble_eq_true hb
        refine so_call (st9 := st.map me_v) hk (fun fb lb lo hp cb sb => ?_) (fun lo hp cb sb _ _ => ?_) rfl (fun h => ⟨⟨h.1, fun v hv => h.2 v (List.mem_of_mem_drop hv)⟩, fun v hv => h.2 v (List.mem_of_mem_take (List.mem_reverse.mp hv))⟩) (sx_cl_ok _ _ _ h9)
        · unfold mv_nat
          simp only [hI, hC]
          rw [if_neg (by omega)]
        · unfold mv_exec
          simp only [hI]
          show mv_g 3 3 (mv_callS G y (st.map me_v) idx) = _
          unfold mv_g mv_callS
          rw [if_pos rfl, hC]
          dsimp only
          rw [if_pos ⟨hkd, by rw [List.length_map]; exact hb⟩, List.map_reverse, List.map_take, List.map_drop]
      rcases e7 : Nat.beq kd 7 with _ | _
      · rw [e7] at h9
        obtain ⟨k1, h9⟩ := sx_b_eq h9
        have k1 : kd ≤ 1 := Nat.le_of_ble_eq_true k1
        exact stat (by omega) h9
      · rw [e7] at h9
        have e7 : kd = 7 := Nat.eq_of_beq_eq_true e7
        subst e7
        rcases st with _ | ⟨n1 | w | w, _ | ⟨dp | w | w, _ | ⟨w | ⟨p1, q11, q12⟩ | w, _ | ⟨sp | w | w, _ | ⟨w | ⟨p0, q01, q02⟩ | w, r⟩⟩⟩⟩⟩ <;> try exact h9.elim
        obtain ⟨hb, h8⟩ := sx_b_eq h9
        clear h9
        simp only [Bool.and_eq_true] at hb
        obtain ⟨⟨⟨b1, b2⟩, b3⟩, b4⟩ := hb
        have b1 : q01 = q11 := Nat.eq_of_beq_eq_true b1
        have b2 : q01 % 2 = 0 := Nat.eq_of_beq_eq_true b2
        have b3 : q01 / 2 < 3 := Nat.le_of_ble_eq_true b3
        subst b1
        obtain ⟨t, rfl⟩ : ∃ t, q01 = 2 * t := ⟨q01 / 2, by omega⟩
        obtain ⟨a0, rfl, h7⟩ := me_dr_eq h8
        clear h8
        obtain ⟨a1, rfl, c1, c2, c3, c4, c5, c6, h6⟩ := me_dr_eq h7
        exact so_copy hI hC (by omega) (Nat.le_of_ble_eq_true b4) c1 c2 c3 c4 c5 c6 (hk _ _ _ _ _ h6)
    · exact h9.elim
  case invokevirtual idx =>
    obtain ⟨e9, h9⟩ := sx_g_eq h
    clear h
    subst e9
    split at h9
    · rename_i kd z n hC
      rcases e10 : Nat.beq kd 10 with _ | _
      · rcases e11 : Nat.beq kd 11 with _ | _
        · rw [e10, e11] at h9
          have n10 : kd ≠ 10 := fun e => by
            rw [e] at e10
            exact absurd e10 (by decide)
          have n11 : kd ≠ 11 := fun e => by
            rw [e] at e11
            exact absurd e11 (by decide)
          dsimp only at h9
          split at h9
          · rename_i p q1 q2 r hd
            obtain ⟨hb, h9⟩ := sx_b_eq h9
            simp only [Bool.and_eq_true, Bool.or_eq_true] at hb
            obtain ⟨⟨b1, b2⟩, b3⟩ := hb
            have b2 : q1 = 2 * mv_gW G z + 1 := Nat.eq_of_beq_eq_true b2
            have b3 : kd = 2 ∨ kd = 3 := by
              rcases b3 with b3 | b3
              · exact Or.inl (Nat.eq_of_beq_eq_true b3)
              · exact Or.inr (Nat.eq_of_beq_eq_true b3)
            obtain ⟨a, rfl, h9⟩ := me_dr_eq h9
            have hin : ∀ v, v ∈ (.inr (.inl (some a, q1, q2)) :: r : List me_V) → v ∈ st := fun v hv => List.mem_of_mem_drop (by rw [hd]; exact hv)
            refine so_call (st9 := st.map me_v) hk (fun fb lb lo hp cb sb => ?_) (fun lo hp cb sb g4 g5 => ?_) rfl (fun h => ⟨⟨h.1, fun v hv => h.2 v (hin v (List.mem_cons_of_mem _ hv))⟩, fun v hv => by
              rcases List.mem_cons.mp hv with rfl | hv
              · exact h.2 _ (hin _ List.mem_cons_self)
              · exact h.2 v (List.mem_of_mem_take (List.mem_reverse.mp hv))⟩) (sx_cl_ok _ _ _ h9)
            · unfold mv_nat
              simp only [hI, hC]
              rw [if_neg (by omega), if_neg (by omega)]
            · obtain ⟨ha, ht⟩ : me_an M (.inr (.inl (some a, q1, q2))) := g4.2 _ (hin _ List.mem_cons_self)
              unfold mv_exec
              simp only [hI]
              show mv_g 3 3 (mv_callV G y (st.map me_v) hp idx) = _
              unfold mv_g mv_callV
              rw [if_pos rfl, hC]
              dsimp only
              rw [← List.map_drop, hd]
              show (match hp[a]? with
                | some (.inr (ci, _)) => if (kd = 2 ∨ kd = 3) ∧ ci = mv_gW G z then _ else none
                | _ => none) = _
              rw [me_cell_ob g5 ha ht b2]
              dsimp only
              rw [if_pos ⟨b3, rfl⟩, List.map_cons, List.map_reverse, List.map_take]
              rfl
          · exact h9.elim
        · rw [e10, e11] at h9
          have e11 : kd = 11 := Nat.eq_of_beq_eq_true e11
          subst e11
          rcases st with _ | ⟨i | w | w, _ | ⟨w | w | j, r⟩⟩ <;> try exact h9.elim
          dsimp only at h9
          unfold sx_tx at h9
          split at h9
          · rename_i tx hx
            obtain ⟨hb, c1, c2, c3, h9⟩ := sx_b_eq h9
            exact so_schr hI hC hx (Nat.le_of_ble_eq_true hb) c1 c2 c3 (hT _ _ hx) (hk _ _ _ _ _ h9)
          · exact h9.elim
      · rw [e10] at h9
        have e10 : kd = 10 := Nat.eq_of_beq_eq_true e10
        subst e10
        rcases st with _ | ⟨w | w | j, r⟩ <;> try exact h9.elim
        dsimp only at h9
        unfold sx_tx at h9
        split at h9
        · rename_i tx hx
          obtain ⟨hb, c1, h9⟩ := sx_b_eq h9
          exact so_slen hI hC hx (Nat.le_of_ble_eq_true hb) c1 (hk _ _ _ _ _ h9)
        · exact h9.elim
    · exact h9.elim
  case invokespecial idx =>
    obtain ⟨e9, h9⟩ := sx_g_eq h
    clear h
    subst e9
    split at h9
    · rename_i kd z n hC
      rcases e9 : Nat.beq kd 9 with _ | _
      · rw [e9] at h9
        have n9 : kd ≠ 9 := fun e => by
          rw [e] at e9
          exact absurd e9 (by decide)
        dsimp only at h9
        split at h9
        · rename_i p q1 q2 r hd
          obtain ⟨hb, h9⟩ := sx_b_eq h9
          simp only [Bool.and_eq_true, Bool.or_eq_true] at hb
          obtain ⟨b1, b3⟩ := hb
          have b3 : kd = 4 ∨ kd = 5 := by
            rcases b3 with b3 | b3
            · exact Or.inl (Nat.eq_of_beq_eq_true b3)
            · exact Or.inr (Nat.eq_of_beq_eq_true b3)
          obtain ⟨a, rfl, h9⟩ := me_dr_eq h9
          have hin : ∀ v, v ∈ (.inr (.inl (some a, q1, q2)) :: r : List me_V) → v ∈ st := fun v hv => List.mem_of_mem_drop (by rw [hd]; exact hv)
          refine so_call (st9 := st.map me_v) hk (fun fb lb lo hp cb sb => ?_) (fun lo hp cb sb g4 g5 => ?_) rfl (fun h => ⟨⟨h.1, fun v hv => h.2 v (hin v (List.mem_cons_of_mem _ hv))⟩, fun v hv => by
            rcases List.mem_cons.mp hv with rfl | hv
            · exact h.2 _ (hin _ List.mem_cons_self)
            · exact h.2 v (List.mem_of_mem_take (List.mem_reverse.mp hv))⟩) (sx_cl_ok _ _ _ h9)
          · unfold mv_nat
            simp only [hI, hC]
            rw [if_neg (by omega)]
          · unfold mv_exec
            simp only [hI]
            show mv_g 3 3 (mv_callI G y (st.map me_v) idx) = _
            unfold mv_g mv_callI
            rw [if_pos rfl, hC]
            dsimp only
            rw [← List.map_drop, hd]
            show (if kd = 4 ∨ kd = 5 then _ else none) = _
            rw [if_pos b3, List.map_cons, List.map_reverse, List.map_take]
            rfl
        · exact h9.elim
      · rw [e9] at h9
        have e9 : kd = 9 := Nat.eq_of_beq_eq_true e9
        subst e9
        rcases st with _ | ⟨w | ⟨p, q1, q2⟩ | w, r⟩ <;> try exact h9.elim
        obtain ⟨hb, h9⟩ := sx_b_eq h9
        obtain ⟨a, rfl, c1, h9⟩ := me_dr_eq h9
        exact so_oini hI hC (Nat.le_of_ble_eq_true hb) c1 (hk _ _ _ _ _ h9)
    · exact h9.elim
  case new idx =>
    obtain ⟨e9, h9⟩ := sx_g_eq h
    clear h
    subst e9
    split at h9
    · rename_i ci hN
      obtain ⟨hb, c1, c2, h9⟩ := sx_b_eq h9
      simp only [Bool.and_eq_true, Bool.not_eq_true'] at hb
      obtain ⟨⟨b1, b2⟩, b3⟩ := hb
      refine me_new hI hN (fun z => by rw [z, Nat.beq_refl] at b1; cases b1) (hG.2.1 ci (Nat.le_of_ble_eq_true b3)) (fun j => ?_) c1 c2 (hk _ _ _ _ _ h9)
      unfold sx_fin
      have e : (sx_finT.getD ci []).getD 0 [] = [] := by
        cases hz : (sx_finT.getD ci [])[0]? with
        | none => rw [List.getD_eq_getElem?_getD, hz]; rfl
        | some l =>
          have := List.all_eq_true.mp b2 l (List.mem_of_getElem? hz)
          rw [List.getD_eq_getElem?_getD, hz]
          exact List.isEmpty_iff.mp this
      rw [e]
      rfl
    · exact h9.elim
  case newarray at_ =>
    obtain ⟨e9, h9⟩ := sx_g_eq h
    clear h
    subst e9
    rcases st with _ | ⟨n | w | w, r⟩ <;> try exact h9.elim
    dsimp only at h9
    split at h9
    · rename_i t ht
      obtain ⟨c1, c2, c3, c4, h9⟩ := h9
      refine me_newa hI ht ?_ c1 c2 c3 c4 (hk _ _ _ _ _ h9)
      unfold mv_prim at ht
      split at ht <;> first | (cases ht; decide) | cases ht
    · exact h9.elim
  case aastore =>
    obtain ⟨e9, h9⟩ := sx_g_eq h
    clear h
    subst e9
    rcases st with _ | ⟨w | ⟨v, w⟩ | w, _ | ⟨i | w9 | w9, _ | ⟨z | ⟨p, q1, q2⟩ | z, r⟩⟩⟩ <;> try exact h9.elim
    obtain ⟨hb, h8⟩ := sx_b_eq h9
    clear h9
    obtain ⟨a, rfl, h0, h1, h9⟩ := me_dr_eq h8
    clear h8
    simp only [Bool.and_eq_true, Bool.not_eq_true'] at hb
    obtain ⟨b1, b2⟩ := hb
    have h1 : i < (q2 : Int) := h1
    have b1 : q1 % 2 = 0 := Nat.eq_of_beq_eq_true b1
    obtain ⟨t, rfl⟩ : ∃ t, q1 = 2 * t := ⟨q1 / 2, by omega⟩
    have et : 2 * t / 2 = t := by omega
    rw [et] at b2 h9
    have b2 : ¬ t < 3 := fun z => by
      have z2 : Nat.blt t 3 = true := Nat.ble_eq_true_of_le (show t + 1 ≤ 3 from z)
      rw [z2] at b2
      cases b2
    refine me_len2 fun hl => ?_
    have hr : me_r i := ⟨by omega, by omega⟩
    split at h9
    · rename_i ce hE
      obtain ⟨hb, h9⟩ := sx_b_eq h9
      have hb : sx_ek t = 2 * ce + 1 := Nat.eq_of_beq_eq_true hb
      split at h9
      · rename_i e
        exact me_aast hI b2 hE hb (Or.inr (by rw [hb]; exact Nat.eq_of_beq_eq_true e)) h0 h1 hr (hk _ _ _ _ _ h9)
      · exact me_aast hI b2 hE hb (Or.inl h9.1) h0 h1 hr (hk _ _ _ _ _ h9.2)
    · split at h9
      · rename_i t2 hB
        obtain ⟨hb, h8⟩ := sx_b_eq h9
        clear h9
        rw [Bool.and_eq_true] at hb
        obtain ⟨b, rfl, h7⟩ := me_dr_eq h8
        clear h8
        obtain ⟨w1, w2⟩ := w
        have e : w1 = 2 * t2 := Nat.eq_of_beq_eq_true hb.2
        subst e
        exact me_aasA hI b2 hB (Nat.eq_of_beq_eq_true hb.1) h0 h1 hr (hk _ _ _ _ _ h7)
      · exact h9.elim
  all_goals exact h.elim
end SXA
end
section
/-! sx: the tree of words from a place to the cut places -/
def si_is (y : Nat) (e : Nat × Instr × Nat) : Bool := decide (decode (mt_Cd y) e.1 = .ok e.2)
def sx_at (J : List (Nat × Instr × Nat)) (pc : Nat) : Option (Instr × Nat) := (J.find? fun e => Nat.beq e.1 pc).map fun e => e.2
theorem sx_at_ok {J : List (Nat × Instr × Nat)} {y : Nat} (h : J.all (si_is y) = true) {pc : Nat} {r : Instr × Nat} (hr : sx_at J pc = some r) (N : Nat) (X : Nat → Int32) : mv_gI (mt_G N X) y pc = some r := by
  unfold sx_at at hr
  rw [Option.map_eq_some_iff] at hr
  obtain ⟨e, h1, h2⟩ := hr
  have h3 := of_decide_eq_true (List.all_eq_true.mp h e (List.mem_of_find?_eq_some h1))
  have h4 : e.1 = pc := Nat.eq_of_beq_eq_true (List.find?_some (p := fun e : Nat × Instr × Nat => Nat.beq e.1 pc) h1)
  subst h4
  subst h2
  show (match decode (mt_Cd y) e.1 with
    | .ok q => some q
    | .error _ => none) = _
  rw [h3]
def sx_kn (y idx : Nat) : Option Int := (mt_pick mt_K y idx).map fun e => e.1
/-- the locals that a cut place knows -/
def sx_fg : List Bool → List (Option me_V) → List (Option me_V)
  | true :: m, v :: L => v :: sx_fg m L
  | false :: m, _ :: L => none :: sx_fg m L
  | _, _ => []
theorem sx_fg_ok : ∀ (m : List Bool) (L : List (Option me_V)) (i : Nat) (v : me_V), (sx_fg m L)[i]? = some (some v) → L[i]? = some (some v)
  | [], L, i, v, h => by
    unfold sx_fg at h
    simp at h
  | b :: m, [], i, v, h => by
    cases b <;> (unfold sx_fg at h; simp at h)
  | true :: m, w :: L, 0, v, h => h
  | true :: m, w :: L, i + 1, v, h => sx_fg_ok m L i v h
  | false :: m, w :: L, 0, v, h => by cases h
  | false :: m, w :: L, i + 1, v, h => sx_fg_ok m L i v h
def sx_cut : List (Nat × List Bool) → Nat → Option (List Bool)
  | [], _ => none
  | e :: r, pc => match Nat.beq e.1 pc with
    | true => some e.2
    | false => sx_cut r pc
section SXX
variable (G : mv_G) (kn : Nat → Nat → Option Int) (pv y : Nat) (Q : me_Q) (cut : List (Nat × List Bool)) (J : List (Nat × Instr × Nat))
def sx : Nat → Nat → Nat → List (Option me_V) → List me_V → me_M → Prop
  | 0, _, _, _, _, _ => False
  | n + 1, d, pc, L, st, M => match sx_at J pc with
    | some (i, len) => sx_i G kn pv y Q (fun d pc L st M => match sx_cut cut pc with
      | some ms => me_W G y d pc (sx_fg ms L) st M Q
      | none => sx n d pc L st M) d pc len L st M i
    | none => False
end SXX
def hg_ik (ci k : Nat) : Bool := match mt_gT ci k with
  | some .int => true
  | some .boolean => true
  | some .byte => true
  | _ => false
def hg_b (ci : Nat) : Bool := decide ((List.range (mt_gD ci).length).map (fun k => if hg_ik ci k = true then Value.int 0 else va_rf none) = mt_gD ci)
theorem hg_all : (List.range sx_fkT.length).all hg_b = true := by decide +kernel
theorem hg_fs {N : Nat} {X : Nat → Int32} {ci : Nat} (hc : ci < sx_fkT.length) : me_fs (mt_G N X) ci (fun _ => 0) (fun _ => none) = mv_gD (mt_G N X) ci := by
  have h1 : hg_b ci = true := List.all_eq_true.mp hg_all ci (List.mem_range.mpr hc)
  unfold hg_b at h1
  have h2 := of_decide_eq_true h1
  have h3 : mv_gD (mt_G N X) ci = mt_gD ci := rfl
  have h4 : ∀ k, me_ik (mt_G N X) ci k = hg_ik ci k := fun k => rfl
  unfold me_fs
  rw [h3]
  simp only [h4]
  exact h2
theorem mt_hG (N : Nat) (X : Nat → Int32) : me_hG (mt_G N X) := by
  refine ⟨fun a ha => ?_, fun ci hc => ?_, fun a ha => ?_⟩
  · show (if a = mv_big then some (N, X) else none) = none
    rw [if_neg (by omega)]
  · exact hg_fs (N := N) (X := X) hc
  · show (if a ≤ mv_big then none else _) = none
    rw [if_pos (by omega)]
theorem mt_hT (N : Nat) (X : Nat → Int32) : ∀ a tx, mv_gX2 (mt_G N X) a = some tx → tx.length ≤ 2147483647 := by
  intro a tx h
  have h : (if a ≤ mv_big then none else (mt_TX[a - (mv_big + 1)]?).map fun e => e.2.2.2) = some tx := h
  split at h
  · cases h
  · rw [Option.map_eq_some_iff] at h
    obtain ⟨e, h1, h2⟩ := h
    have h3 := List.all_eq_true.mp mt_xok_all e (List.mem_of_getElem? h1)
    unfold mt_xok at h3
    rw [Bool.and_eq_true] at h3
    have h4 : e.2.2.2.length < 1000 := Nat.le_of_ble_eq_true h3.2
    rw [← h2]
    omega
theorem mt_hkn (N : Nat) (X : Nat → Int32) : ∀ y idx v, sx_kn y idx = some v → mv_gK (mt_G N X) y idx = some (.int (Int32.ofInt v)) := by
  intro y idx v h
  unfold sx_kn at h
  rw [Option.map_eq_some_iff] at h
  obtain ⟨e, h1, h2⟩ := h
  show (match mt_pick mt_K y idx with
    | some e => some (Value.int (Int32.ofInt e.1))
    | none => (mt_pick mt_U y idx).map fun e : Nat × String × (Nat × Nat) => Value.ref (mv_big + 1 + e.1)) = _
  rw [h1, ← h2]
theorem sx_ok {N : Nat} {X : Nat → Int32} {pv y : Nat} {Q : me_Q} {cut : List (Nat × List Bool)} {J : List (Nat × Instr × Nat)} (hJ : J.all (si_is y) = true) : ∀ {n d pc : Nat} {L : List (Option me_V)} {st : List me_V} {M : me_M}, sx (mt_G N X) sx_kn pv y Q cut J n d pc L st M → me_W (mt_G N X) y d pc L st M Q
  | 0, _, _, _, _, _, h => h.elim
  | n + 1, d, pc, L, st, M, h => by
    unfold sx at h
    split at h
    · rename_i i len hi
      refine sx_i_ok (mt_hG N X) (mt_hT N X) (mt_hkn N X) (fun d pc L st M h => ?_) (sx_at_ok hJ hi N X) h
      split at h
      · exact h.forget (sx_fg_ok _ _)
      · exact sx_ok hJ h
    · exact h.elim
/-- a call by its contract -/
theorem ca_I {G : mv_G} {z d pc : Nat} {L : List (Option me_V)} {st : List me_V} {M : me_M} {P K : Int → me_M → Prop} {F E : Nat → me_M → Prop} (hd : 1 ≤ d) (h : me_W G z (d - 1) pc L st M (sx_qI P F)) (k : ∀ x M', me_ext M M' → P x M' → K x M') (e : ∀ a M', me_ext M M' → F a M' → E a M') : ∃ d', d = d' + 1 ∧ me_W G z d' pc L st M (sx_qI K E) := ⟨d - 1, by omega, h.mono fun o M' g q => by
  rcases o with a | _ | x | ⟨p, q⟩ | j
  · exact e a M' g q
  · exact q.elim
  · exact k x M' g q
  · exact q.elim
  · exact q.elim⟩
theorem ca_V {G : mv_G} {z d pc : Nat} {L : List (Option me_V)} {st : List me_V} {M : me_M} {P K : me_M → Prop} {F E : Nat → me_M → Prop} (hd : 1 ≤ d) (h : me_W G z (d - 1) pc L st M (sx_qV P F)) (k : ∀ M', me_ext M M' → P M' → K M') (e : ∀ a M', me_ext M M' → F a M' → E a M') : ∃ d', d = d' + 1 ∧ me_W G z d' pc L st M (sx_qV K E) := ⟨d - 1, by omega, h.mono fun o M' g q => by
  rcases o with a | _ | x | ⟨p, q⟩ | j
  · exact e a M' g q
  · exact k M' g q
  · exact q.elim
  · exact q.elim
  · exact q.elim⟩
theorem ca_P {G : mv_G} {z d pc : Nat} {L : List (Option me_V)} {st : List me_V} {M : me_M} {P K : Option Nat → Nat × Nat → me_M → Prop} {F E : Nat → me_M → Prop} (hd : 1 ≤ d) (h : me_W G z (d - 1) pc L st M (sx_qP P F)) (k : ∀ p q M', me_ext M M' → P p q M' → K p q M') (e : ∀ a M', me_ext M M' → F a M' → E a M') : ∃ d', d = d' + 1 ∧ me_W G z d' pc L st M (sx_qP K E) := ⟨d - 1, by omega, h.mono fun o M' g q => by
  rcases o with a | _ | x | ⟨p, w⟩ | j
  · exact e a M' g q
  · exact q.elim
  · exact q.elim
  · exact k p w M' g q
  · exact q.elim⟩
/-- what ends without a throw -/
def nt_E : Nat → me_M → Prop := fun _ _ => False
theorem nt_E_no {E : Nat → me_M → Prop} {M : me_M} : ∀ a M', me_ext M M' → nt_E a M' → E a M' := fun _ _ _ h => h.elim
end
section
/-! what is known of the memory at a place -/
def me_kn (G : mv_G) (M : me_M) (L : List (Option me_V)) (st : List me_V) : Prop := me_al M L st ∧ me_ty G M ∧ me_sh M ∧ me_ln M ∧ me_by M
theorem me_W.known {G : mv_G} {y d pc : Nat} {L : List (Option me_V)} {st : List me_V} {M : me_M} {Q : me_Q} (h : me_kn G M L st → me_W G y d pc L st M Q) : me_W G y d pc L st M Q := fun fb lb lo hp g1 g2 g3 g4 g5 => h ⟨g4, g5.2.2.2.1, g5.2.2.2.2.1, g5.2.2.2.2.2.1, g5.2.2.2.2.2.2⟩ fb lb lo hp g1 g2 g3 g4 g5
section KN
variable {G : mv_G} {M : me_M} {L : List (Option me_V)} {st : List me_V} {a : Nat} {q : Nat × Nat}
theorem me_kn.loc (h : me_kn G M L st) {i : Nat} (hL : L[i]? = some (some (.inr (.inl (some a, q))))) : a < M.1 ∧ M.2.1 a = q := h.1.1 _ (List.mem_of_getElem? hL)
theorem me_kn.len (h : me_kn G M L st) (ha : a < M.1 ∧ M.2.1 a = q) : q.2 ≤ 134217728 := by
  have z := h.2.2.2.1 a ha.1
  rw [ha.2] at z
  exact z
theorem me_kn.byte (h : me_kn G M L st) (ha : a < M.1 ∧ M.2.1 a = q) (hq : q.1 = 2) (j : Nat) : -128 ≤ me_i M a j ∧ me_i M a j ≤ 127 := by
  have z := (h.2.2.2.2 a ha.1 j).1 (by rw [ha.2]; exact hq)
  have z : (decide ((-128 : Int32) ≤ M.2.2.1 a j) && decide (M.2.2.1 a j ≤ 127)) = true := z
  rw [Bool.and_eq_true, decide_eq_true_iff, decide_eq_true_iff, Int32.le_iff_toInt_le, Int32.le_iff_toInt_le] at z
  exact z
theorem me_kn.bool (h : me_kn G M L st) (ha : a < M.1 ∧ M.2.1 a = q) (hq : q.1 = 4) (j : Nat) : me_i M a j = 0 ∨ me_i M a j = 1 := by
  have z := (h.2.2.2.2 a ha.1 j).2 (by rw [ha.2]; exact hq)
  have z : (M.2.2.1 a j == 0 || M.2.2.1 a j == 1) = true := z
  rw [Bool.or_eq_true, beq_iff_eq, beq_iff_eq] at z
  rcases z with z | z
  · exact Or.inl (by unfold me_i; rw [z]; rfl)
  · exact Or.inr (by unfold me_i; rw [z]; rfl)
end KN
/-! reading what was written -/
theorem me_i_sI {M : me_M} {a b k j : Nat} {x : Int32} : me_i (me_sI M a k x) b j = if b = a ∧ j = k then x.toInt else me_i M b j := by
  unfold me_i me_sI
  dsimp only
  split <;> rfl
theorem me_p_sI {M : me_M} {a b k j : Nat} {x : Int32} : me_p (me_sI M a k x) b j = me_p M b j := rfl
theorem me_i_sP {M : me_M} {a b k j : Nat} {p : Option Nat} : me_i (me_sP M a k p) b j = me_i M b j := rfl
theorem me_p_sP {M : me_M} {a b k j : Nat} {p : Option Nat} : me_p (me_sP M a k p) b j = if b = a ∧ j = k then p else me_p M b j := rfl
theorem me_to {x : Int} (h : me_r x) : (Int32.ofInt x).toInt = x := me_w_eq h
end
section
/-! the reference's tokens: instructions (30.sx.py) -/
def si_286 : List (Nat × Instr × Nat) := [(0, .aload_n 0, 1), (1, .getfield 45, 3), (4, .istore 6, 2), (6, .iconst 0, 1), (7, .istore 7, 2), (9, .iload 7, 2), (11, .iload_n 2, 1), (12, .if_icmp .ge 113, 3), (15, .aload_n 0, 1), (16, .getfield 45, 3), (19, .iload 6, 2), (21, .isub, 1), (22, .iload 5, 2), (24, .if_icmp .gt 101, 3), (27, .aload_n 1, 1), (28, .iload 7, 2), (30, .baload, 1), (31, .istore 8, 2), (33, .iload 8, 2), (35, .bipush 9, 2), (37, .if_icmp .eq 24, 3), (40, .iload 8, 2), (42, .bipush 10, 2), (44, .if_icmp .eq 17, 3), (47, .iload 8, 2), (49, .bipush 13, 2), (51, .if_icmp .eq 10, 3), (54, .iload 8, 2), (56, .bipush 32, 2), (58, .if_icmp .ne 9, 3), (61, .iinc 7 1, 3), (64, .goto 58, 3), (67, .iload 8, 2), (69, .bipush 47, 2), (71, .if_icmp .ne 38, 3), (74, .aload_n 1, 1), (75, .iload 7, 2), (77, .iconst 1, 1), (78, .iadd, 1), (79, .iload_n 2, 1), (80, .invokestatic 27, 3), (83, .bipush 47, 2), (85, .if_icmp .ne 24, 3), (88, .iload 7, 2), (90, .iload_n 2, 1), (91, .if_icmp .ge 31, 3), (94, .aload_n 1, 1), (95, .iload 7, 2), (97, .baload, 1), (98, .bipush 10, 2), (100, .if_icmp .eq 22, 3), (103, .iinc 7 1, 3), (106, .goto (-18), 3), (109, .aload_n 0, 1), (110, .aload_n 1, 1), (111, .iload 7, 2), (113, .iload_n 2, 1), (114, .iload_n 3, 1), (115, .iload 4, 2), (117, .invokevirtual 49, 3), (120, .istore 7, 2), (122, .goto (-113), 3), (125, .aload_n 0, 1), (126, .getfield 9, 3), (129, .aload_n 0, 1), (130, .getfield 45, 3), (133, .iconst 0, 1), (134, .iastore, 1), (135, .aload_n 0, 1), (136, .getfield 15, 3), (139, .aload_n 0, 1), (140, .getfield 45, 3), (143, .iconst (-1), 1), (144, .iastore, 1), (145, .aload_n 0, 1), (146, .getfield 18, 3), (149, .aload_n 0, 1), (150, .getfield 45, 3), (153, .iload_n 2, 1), (154, .iastore, 1), (155, .aload_n 0, 1), (156, .getfield 21, 3), (159, .aload_n 0, 1), (160, .getfield 45, 3), (163, .iconst 0, 1), (164, .iastore, 1), (165, .aload_n 0, 1), (166, .getfield 24, 3), (169, .aload_n 0, 1), (170, .getfield 45, 3), (173, .iload_n 3, 1), (174, .iastore, 1), (175, .return_, 1)]
set_option maxRecDepth 100000 in
theorem si_ok_286 : si_286.all (si_is 286) = true := by decide +kernel
def si_287 : List (Nat × Instr × Nat) := [(0, .iload_n 1, 1), (1, .iload_n 2, 1), (2, .if_icmp .ge 13, 3), (5, .aload_n 0, 1), (6, .iload_n 1, 1), (7, .baload, 1), (8, .sipush 255, 3), (11, .iand, 1), (12, .goto 4, 3), (15, .iconst (-1), 1), (16, .ireturn, 1)]
set_option maxRecDepth 100000 in
theorem si_ok_287 : si_287.all (si_is 287) = true := by decide +kernel
def si_288 : List (Nat × Instr × Nat) := [(0, .aload_n 1, 1), (1, .iload_n 2, 1), (2, .iload_n 3, 1), (3, .invokestatic 27, 3), (6, .istore 6, 2), (8, .iload_n 2, 1), (9, .iconst 1, 1), (10, .iadd, 1), (11, .istore 7, 2), (13, .iconst 4, 1), (14, .istore 8, 2), (16, .iload 6, 2), (18, .istore 9, 2), (20, .iload 6, 2), (22, .invokestatic 31, 3), (25, .ifCond .eq 74, 3), (28, .aload_n 1, 1), (29, .iload 7, 2), (31, .iload_n 3, 1), (32, .invokestatic 27, 3), (35, .invokestatic 31, 3), (38, .ifCond .ne 16, 3), (41, .aload_n 1, 1), (42, .iload 7, 2), (44, .iload_n 3, 1), (45, .invokestatic 27, 3), (48, .invokestatic 35, 3), (51, .ifCond .eq 9, 3), (54, .iinc 7 1, 3), (57, .goto (-29), 3), (60, .aload_n 1, 1), (61, .iload_n 2, 1), (62, .iload 7, 2), (64, .iload_n 2, 1), (65, .isub, 1), (66, .invokestatic 38, 3), (69, .istore 9, 2), (71, .iload 9, 2), (73, .ifCond .lt 7, 3), (76, .iconst 3, 1), (77, .goto 17, 3), (80, .iload 7, 2), (82, .iload_n 2, 1), (83, .isub, 1), (84, .bipush 12, 2), (86, .if_icmp .le 7, 3), (89, .iconst (-1), 1), (90, .goto 4, 3), (93, .iconst 1, 1), (94, .istore 8, 2), (96, .goto 200, 3), (99, .iload 6, 2), (101, .invokestatic 35, 3), (104, .ifCond .eq 41, 3), (107, .aload_n 1, 1), (108, .iload 7, 2), (110, .iload_n 3, 1), (111, .invokestatic 27, 3), (114, .invokestatic 35, 3), (117, .ifCond .eq 9, 3), (120, .iinc 7 1, 3), (123, .goto (-16), 3), (126, .iload 7, 2), (128, .iload_n 2, 1), (129, .isub, 1), (130, .bipush 9, 2), (132, .if_icmp .le 7, 3), (135, .iconst (-1), 1), (136, .goto 4, 3), (139, .iconst 2, 1), (140, .istore 8, 2), (142, .goto 154, 3), (145, .iload 5, 2), (147, .ifCond .eq 52, 3), (150, .iload 6, 2), (152, .bipush 36, 2), (154, .if_icmp .ne 45, 3), (157, .aload_n 1, 1), (158, .iload 7, 2), (160, .iload_n 3, 1), (161, .invokestatic 27, 3), (164, .bipush 97, 2), (166, .if_icmp .lt 33, 3), (169, .aload_n 1, 1), (170, .iload 7, 2), (172, .iload_n 3, 1), (173, .invokestatic 27, 3), (176, .bipush 122, 2), (178, .if_icmp .gt 21, 3), (181, .iconst 5, 1), (182, .istore 8, 2), (184, .aload_n 1, 1), (185, .iload 7, 2), (187, .iload_n 3, 1), (188, .invokestatic 27, 3), (191, .istore 9, 2), (193, .iinc 7 1, 3), (196, .goto 100, 3), (199, .iload 5, 2), (201, .ifCond .eq 16, 3), (204, .iload 6, 2), (206, .bipush 58, 2), (208, .if_icmp .ne 9, 3), (211, .iconst 4, 1), (212, .istore 8, 2), (214, .goto 82, 3), (217, .iload 5, 2), (219, .ifCond .eq 33, 3), (222, .iload 6, 2), (224, .bipush 45, 2), (226, .if_icmp .ne 26, 3), (229, .aload_n 1, 1), (230, .iload 7, 2), (232, .iload_n 3, 1), (233, .invokestatic 27, 3), (236, .bipush 62, 2), (238, .if_icmp .ne 14, 3), (241, .sipush 306, 3), (244, .istore 9, 2), (246, .iinc 7 1, 3), (249, .goto 47, 3), (252, .iload 6, 2), (254, .aload_n 1, 1), (255, .iload 7, 2), (257, .iload_n 3, 1), (258, .invokestatic 27, 3), (261, .invokestatic 41, 3), (264, .istore 9, 2), (266, .iload 9, 2), (268, .ifCond .ge 7, 3), (271, .iconst (-1), 1), (272, .goto 4, 3), (275, .iconst 4, 1), (276, .istore 8, 2), (278, .iload 7, 2), (280, .iload 9, 2), (282, .sipush 300, 3), (285, .if_icmp .lt 7, 3), (288, .iconst 1, 1), (289, .goto 4, 3), (292, .iconst 0, 1), (293, .iadd, 1), (294, .istore 7, 2), (296, .aload_n 0, 1), (297, .getfield 9, 3), (300, .aload_n 0, 1), (301, .getfield 45, 3), (304, .iload 8, 2), (306, .iastore, 1), (307, .aload_n 0, 1), (308, .getfield 15, 3), (311, .aload_n 0, 1), (312, .getfield 45, 3), (315, .iload 9, 2), (317, .iastore, 1), (318, .aload_n 0, 1), (319, .getfield 18, 3), (322, .aload_n 0, 1), (323, .getfield 45, 3), (326, .iload_n 2, 1), (327, .iastore, 1), (328, .aload_n 0, 1), (329, .getfield 21, 3), (332, .aload_n 0, 1), (333, .getfield 45, 3), (336, .iload 7, 2), (338, .iload_n 2, 1), (339, .isub, 1), (340, .iastore, 1), (341, .aload_n 0, 1), (342, .getfield 24, 3), (345, .aload_n 0, 1), (346, .getfield 45, 3), (349, .iload 4, 2), (351, .iastore, 1), (352, .aload_n 0, 1), (353, .dup, 1), (354, .getfield 45, 3), (357, .iconst 1, 1), (358, .iadd, 1), (359, .putfield 45, 3), (362, .iload 7, 2), (364, .ireturn, 1)]
set_option maxRecDepth 100000 in
theorem si_ok_288 : si_288.all (si_is 288) = true := by decide +kernel
def si_289 : List (Nat × Instr × Nat) := [(0, .iload_n 0, 1), (1, .bipush 97, 2), (3, .if_icmp .lt 9, 3), (6, .iload_n 0, 1), (7, .bipush 122, 2), (9, .if_icmp .le 15, 3), (12, .iload_n 0, 1), (13, .bipush 65, 2), (15, .if_icmp .lt 13, 3), (18, .iload_n 0, 1), (19, .bipush 90, 2), (21, .if_icmp .gt 7, 3), (24, .iconst 1, 1), (25, .goto 4, 3), (28, .iconst 0, 1), (29, .ireturn, 1)]
set_option maxRecDepth 100000 in
theorem si_ok_289 : si_289.all (si_is 289) = true := by decide +kernel
def si_290 : List (Nat × Instr × Nat) := [(0, .iload_n 0, 1), (1, .bipush 48, 2), (3, .if_icmp .lt 13, 3), (6, .iload_n 0, 1), (7, .bipush 57, 2), (9, .if_icmp .gt 7, 3), (12, .iconst 1, 1), (13, .goto 4, 3), (16, .iconst 0, 1), (17, .ireturn, 1)]
set_option maxRecDepth 100000 in
theorem si_ok_290 : si_290.all (si_is 290) = true := by decide +kernel
def si_291 : List (Nat × Instr × Nat) := [(0, .iconst 0, 1), (1, .istore_n 3, 1), (2, .iconst 0, 1), (3, .istore 4, 2), (5, .iconst 0, 1), (6, .istore 5, 2), (8, .iload 5, 2), (10, .ldc 3, 2), (12, .invokevirtual 5, 3), (15, .if_icmp .ge 99, 3), (18, .ldc 3, 2), (20, .iload 5, 2), (22, .invokevirtual 11, 3), (25, .bipush 32, 2), (27, .if_icmp .ne 81, 3), (30, .iload 5, 2), (32, .iload 4, 2), (34, .isub, 1), (35, .iload_n 2, 1), (36, .if_icmp .ne 7, 3), (39, .iconst 1, 1), (40, .goto 4, 3), (43, .iconst 0, 1), (44, .istore 6, 2), (46, .iconst 0, 1), (47, .istore 7, 2), (49, .iload 7, 2), (51, .iload_n 2, 1), (52, .if_icmp .ge 40, 3), (55, .iload 6, 2), (57, .ifCond .eq 35, 3), (60, .aload_n 0, 1), (61, .iload_n 1, 1), (62, .iload 7, 2), (64, .iadd, 1), (65, .baload, 1), (66, .ldc 3, 2), (68, .iload 4, 2), (70, .iload 7, 2), (72, .iadd, 1), (73, .invokevirtual 11, 3), (76, .if_icmp .ne 7, 3), (79, .iconst 1, 1), (80, .goto 4, 3), (83, .iconst 0, 1), (84, .istore 6, 2), (86, .iinc 7 1, 3), (89, .goto (-40), 3), (92, .iload 6, 2), (94, .ifCond .eq 5, 3), (97, .iload_n 3, 1), (98, .ireturn, 1), (99, .iinc 3 1, 3), (102, .iload 5, 2), (104, .iconst 1, 1), (105, .iadd, 1), (106, .istore 4, 2), (108, .iinc 5 1, 3), (111, .goto (-103), 3), (114, .iconst (-1), 1), (115, .ireturn, 1)]
set_option maxRecDepth 100000 in
theorem si_ok_291 : si_291.all (si_is 291) = true := by decide +kernel
def si_292 : List (Nat × Instr × Nat) := [(0, .iload_n 0, 1), (1, .lookupswitch 241 #[(33, 169), (37, 239), (38, 211), (40, 239), (41, 239), (42, 239), (43, 239), (44, 239), (45, 239), (46, 239), (47, 239), (59, 239), (60, 183), (61, 155), (62, 197), (123, 239), (124, 225), (125, 239)], 155), (156, .iload_n 1, 1), (157, .bipush 61, 2), (159, .if_icmp .ne 9, 3), (162, .sipush 300, 3), (165, .goto 4, 3), (168, .iload_n 0, 1), (169, .ireturn, 1), (170, .iload_n 1, 1), (171, .bipush 61, 2), (173, .if_icmp .ne 9, 3), (176, .sipush 301, 3), (179, .goto 4, 3), (182, .iload_n 0, 1), (183, .ireturn, 1), (184, .iload_n 1, 1), (185, .bipush 61, 2), (187, .if_icmp .ne 9, 3), (190, .sipush 302, 3), (193, .goto 4, 3), (196, .iload_n 0, 1), (197, .ireturn, 1), (198, .iload_n 1, 1), (199, .bipush 61, 2), (201, .if_icmp .ne 9, 3), (204, .sipush 303, 3), (207, .goto 4, 3), (210, .iload_n 0, 1), (211, .ireturn, 1), (212, .iload_n 1, 1), (213, .bipush 38, 2), (215, .if_icmp .ne 9, 3), (218, .sipush 304, 3), (221, .goto 4, 3), (224, .iconst (-1), 1), (225, .ireturn, 1), (226, .iload_n 1, 1), (227, .bipush 124, 2), (229, .if_icmp .ne 9, 3), (232, .sipush 305, 3), (235, .goto 4, 3), (238, .iconst (-1), 1), (239, .ireturn, 1), (240, .iload_n 0, 1), (241, .ireturn, 1), (242, .iconst (-1), 1), (243, .ireturn, 1)]
set_option maxRecDepth 100000 in
theorem si_ok_292 : si_292.all (si_is 292) = true := by decide +kernel
def si_293 : List (Nat × Instr × Nat) := [(0, .aload_n 0, 1), (1, .getfield 27, 3), (4, .getfield 140, 3), (7, .aload_n 0, 1), (8, .getfield 141, 3), (11, .iaload, 1), (12, .iconst (-1), 1), (13, .if_icmp .ne 19, 3), (16, .aload_n 0, 1), (17, .getfield 3, 3), (20, .iconst 1, 1), (21, .aload_n 0, 1), (22, .aload_n 0, 1), (23, .getfield 141, 3), (26, .invokevirtual 145, 3), (29, .invokevirtual 149, 3), (32, .aload_n 0, 1), (33, .getfield 27, 3), (36, .getfield 140, 3), (39, .aload_n 0, 1), (40, .getfield 141, 3), (43, .iaload, 1), (44, .ireturn, 1)]
set_option maxRecDepth 100000 in
theorem si_ok_293 : si_293.all (si_is 293) = true := by decide +kernel
def si_294 : List (Nat × Instr × Nat) := [(0, .sipush 10000, 3), (3, .aload_n 0, 1), (4, .getfield 27, 3), (7, .getfield 134, 3), (10, .iload_n 1, 1), (11, .iaload, 1), (12, .imul, 1), (13, .aload_n 0, 1), (14, .getfield 27, 3), (17, .getfield 137, 3), (20, .iload_n 1, 1), (21, .iaload, 1), (22, .iadd, 1), (23, .ireturn, 1)]
set_option maxRecDepth 100000 in
theorem si_ok_294 : si_294.all (si_is 294) = true := by decide +kernel
def si_295 : List (Nat × Instr × Nat) := [(0, .aload_n 0, 1), (1, .iload_n 1, 1), (2, .putfield 15, 3), (5, .aload_n 0, 1), (6, .iload_n 2, 1), (7, .putfield 19, 3), (10, .aload_n 0, 1), (11, .getfield 22, 3), (14, .athrow, 1)]
set_option maxRecDepth 100000 in
theorem si_ok_295 : si_295.all (si_is 295) = true := by decide +kernel
def si_299 : List (Nat × Instr × Nat) := [(0, .aload_n 0, 1), (1, .invokevirtual 163, 3), (4, .aload_n 0, 1), (5, .dup, 1), (6, .getfield 141, 3), (9, .iconst 1, 1), (10, .iadd, 1), (11, .putfield 141, 3), (14, .aload_n 0, 1), (15, .getfield 141, 3), (18, .iconst 1, 1), (19, .isub, 1), (20, .ireturn, 1)]
set_option maxRecDepth 100000 in
theorem si_ok_299 : si_299.all (si_is 299) = true := by decide +kernel
def si_300 : List (Nat × Instr × Nat) := [(0, .aload_n 0, 1), (1, .getfield 141, 3), (4, .aload_n 0, 1), (5, .getfield 157, 3), (8, .isub, 1), (9, .aload_n 0, 1), (10, .getfield 160, 3), (13, .if_icmp .lt 19, 3), (16, .aload_n 0, 1), (17, .getfield 3, 3), (20, .iconst 3, 1), (21, .aload_n 0, 1), (22, .aload_n 0, 1), (23, .getfield 141, 3), (26, .invokevirtual 145, 3), (29, .invokevirtual 149, 3), (32, .return_, 1)]
set_option maxRecDepth 100000 in
theorem si_ok_300 : si_300.all (si_is 300) = true := by decide +kernel
end
section
/-! the reference's tokens: blocks (blocks.py) -/
set_option maxRecDepth 100000 in
theorem b286_0 {N : Nat} {X : Nat → Int32} {d : Nat} {x2 x3 x4 x5 : Int} {a0 a1 l1 : Nat} {M : me_M} {Q : me_Q} (h : me_W (mt_G N X) 286 d 9 [some (.inr (.inl (some (a0), 31, 0))), some (.inr (.inl (some (a1), 2, l1))), some (.inl x2), some (.inl x3), some (.inl x4), some (.inl x5), some (.inl (me_i M a0 5)), some (.inl 0), none] [] M Q) : me_W (mt_G N X) 286 d 0 [some (.inr (.inl (some (a0), 31, 0))), some (.inr (.inl (some (a1), 2, l1))), some (.inl x2), some (.inl x3), some (.inl x4), some (.inl x5), none, none, none] [] M Q := sx_ok (n := 6) (pv := 1) (cut := [(9, [true, true, true, true, true, true, true, true, false]), (88, [true, true, true, true, true, true, true, true, false])]) si_ok_286 h
set_option maxRecDepth 100000 in
theorem b286_9 {N : Nat} {X : Nat → Int32} {d : Nat} {x2 x3 x4 x5 x6 x7 : Int} {a0 l1 a1 : Nat} {M : me_M} {Q : me_Q} (h : me_r x7 ∧ me_r x2 ∧ (x2 ≤ x7 → 0 ≤ me_i M a0 5 ∧ me_i M a0 5 < ((2408 : Nat) : Int) ∧ let M1 : me_M := me_sI M (a0 + 1) (me_i M a0 5).toNat (Int32.ofInt 0); 0 ≤ me_i M1 a0 5 ∧ me_i M1 a0 5 < ((2408 : Nat) : Int) ∧ let M2 : me_M := me_sI M1 (a0 + 2) (me_i M1 a0 5).toNat (Int32.ofInt (-1)); 0 ≤ me_i M2 a0 5 ∧ me_i M2 a0 5 < ((2408 : Nat) : Int) ∧ let M3 : me_M := me_sI M2 (a0 + 3) (me_i M2 a0 5).toNat (Int32.ofInt x2); 0 ≤ me_i M3 a0 5 ∧ me_i M3 a0 5 < ((2408 : Nat) : Int) ∧ let M4 : me_M := me_sI M3 (a0 + 4) (me_i M3 a0 5).toNat (Int32.ofInt 0); 0 ≤ me_i M4 a0 5 ∧ me_i M4 a0 5 < ((2408 : Nat) : Int) ∧ let M5 : me_M := me_sI M4 (a0 + 5) (me_i M4 a0 5).toNat (Int32.ofInt x3); Q (.inr none) M5) ∧ (x7 < x2 → me_r ((me_i M a0 5) - x6) ∧ me_r x5 ∧ (x5 < ((me_i M a0 5) - x6) → 0 ≤ me_i M a0 5 ∧ me_i M a0 5 < ((2408 : Nat) : Int) ∧ let M6 : me_M := me_sI M (a0 + 1) (me_i M a0 5).toNat (Int32.ofInt 0); 0 ≤ me_i M6 a0 5 ∧ me_i M6 a0 5 < ((2408 : Nat) : Int) ∧ let M7 : me_M := me_sI M6 (a0 + 2) (me_i M6 a0 5).toNat (Int32.ofInt (-1)); 0 ≤ me_i M7 a0 5 ∧ me_i M7 a0 5 < ((2408 : Nat) : Int) ∧ let M8 : me_M := me_sI M7 (a0 + 3) (me_i M7 a0 5).toNat (Int32.ofInt x2); 0 ≤ me_i M8 a0 5 ∧ me_i M8 a0 5 < ((2408 : Nat) : Int) ∧ let M9 : me_M := me_sI M8 (a0 + 4) (me_i M8 a0 5).toNat (Int32.ofInt 0); 0 ≤ me_i M9 a0 5 ∧ me_i M9 a0 5 < ((2408 : Nat) : Int) ∧ let M10 : me_M := me_sI M9 (a0 + 5) (me_i M9 a0 5).toNat (Int32.ofInt x3); Q (.inr none) M10) ∧ (((me_i M a0 5) - x6) ≤ x5 → 0 ≤ x7 ∧ x7 < ((l1 : Nat) : Int) ∧ (-128 ≤ me_i M a1 x7.toNat ∧ me_i M a1 x7.toNat ≤ 127 → me_r (me_i M a1 x7.toNat) ∧ me_r 9 ∧ ((me_i M a1 x7.toNat) = 9 → me_W (mt_G N X) 286 d 9 [some (.inr (.inl (some (a0), 31, 0))), some (.inr (.inl (some (a1), 2, l1))), some (.inl x2), some (.inl x3), some (.inl x4), some (.inl x5), some (.inl x6), some (.inl (x7 + 1)), none] [] M Q) ∧ (¬ (me_i M a1 x7.toNat) = 9 → me_r (me_i M a1 x7.toNat) ∧ me_r 10 ∧ ((me_i M a1 x7.toNat) = 10 → me_W (mt_G N X) 286 d 9 [some (.inr (.inl (some (a0), 31, 0))), some (.inr (.inl (some (a1), 2, l1))), some (.inl x2), some (.inl x3), some (.inl x4), some (.inl x5), some (.inl x6), some (.inl (x7 + 1)), none] [] M Q) ∧ (¬ (me_i M a1 x7.toNat) = 10 → me_r (me_i M a1 x7.toNat) ∧ me_r 13 ∧ ((me_i M a1 x7.toNat) = 13 → me_W (mt_G N X) 286 d 9 [some (.inr (.inl (some (a0), 31, 0))), some (.inr (.inl (some (a1), 2, l1))), some (.inl x2), some (.inl x3), some (.inl x4), some (.inl x5), some (.inl x6), some (.inl (x7 + 1)), none] [] M Q) ∧ (¬ (me_i M a1 x7.toNat) = 13 → me_r (me_i M a1 x7.toNat) ∧ me_r 32 ∧ (¬ (me_i M a1 x7.toNat) = 32 → me_r (me_i M a1 x7.toNat) ∧ me_r 47 ∧ (¬ (me_i M a1 x7.toNat) = 47 → ∃ d', d = d' + 1 ∧ me_W (mt_G N X) 288 d' 0 [some (.inr (.inl (some (a0), 31, 0))), some (.inr (.inl (some (a1), 2, l1))), some (.inl x7), some (.inl x2), some (.inl x3), some (.inl x4), none, none, none, none] [] M (sx_qI (fun y14 M11 => me_W (mt_G N X) 286 d 9 [some (.inr (.inl (some (a0), 31, 0))), some (.inr (.inl (some (a1), 2, l1))), some (.inl x2), some (.inl x3), some (.inl x4), some (.inl x5), some (.inl x6), some (.inl y14), none] [] M11 Q) (fun e13 M12 => Q (.inl e13) M12))) ∧ ((me_i M a1 x7.toNat) = 47 → ∃ d', d = d' + 1 ∧ me_W (mt_G N X) 287 d' 0 [some (.inr (.inl (some (a1), 2, l1))), some (.inl (x7 + 1)), some (.inl x2)] [] M (sx_qI (fun y18 M15 => me_r y18 ∧ me_r 47 ∧ (¬ y18 = 47 → ∃ d', d = d' + 1 ∧ me_W (mt_G N X) 288 d' 0 [some (.inr (.inl (some (a0), 31, 0))), some (.inr (.inl (some (a1), 2, l1))), some (.inl x7), some (.inl x2), some (.inl x3), some (.inl x4), none, none, none, none] [] M15 (sx_qI (fun y22 M19 => me_W (mt_G N X) 286 d 9 [some (.inr (.inl (some (a0), 31, 0))), some (.inr (.inl (some (a1), 2, l1))), some (.inl x2), some (.inl x3), some (.inl x4), some (.inl x5), some (.inl x6), some (.inl y22), none] [] M19 Q) (fun e21 M20 => Q (.inl e21) M20))) ∧ (y18 = 47 → me_W (mt_G N X) 286 d 88 [some (.inr (.inl (some (a0), 31, 0))), some (.inr (.inl (some (a1), 2, l1))), some (.inl x2), some (.inl x3), some (.inl x4), some (.inl x5), some (.inl x6), some (.inl x7), none] [] M15 Q)) (fun e17 M16 => Q (.inl e17) M16)))) ∧ ((me_i M a1 x7.toNat) = 32 → me_W (mt_G N X) 286 d 9 [some (.inr (.inl (some (a0), 31, 0))), some (.inr (.inl (some (a1), 2, l1))), some (.inl x2), some (.inl x3), some (.inl x4), some (.inl x5), some (.inl x6), some (.inl (x7 + 1)), none] [] M Q)))))))) : me_W (mt_G N X) 286 d 9 [some (.inr (.inl (some (a0), 31, 0))), some (.inr (.inl (some (a1), 2, l1))), some (.inl x2), some (.inl x3), some (.inl x4), some (.inl x5), some (.inl x6), some (.inl x7), none] [] M Q := sx_ok (n := 46) (pv := 1) (cut := [(9, [true, true, true, true, true, true, true, true, false]), (88, [true, true, true, true, true, true, true, true, false])]) si_ok_286 h
set_option maxRecDepth 100000 in
theorem b286_88 {N : Nat} {X : Nat → Int32} {d : Nat} {x2 x3 x4 x5 x6 x7 : Int} {a0 l1 a1 : Nat} {M : me_M} {Q : me_Q} (h : me_r x7 ∧ me_r x2 ∧ (x2 ≤ x7 → me_W (mt_G N X) 286 d 9 [some (.inr (.inl (some (a0), 31, 0))), some (.inr (.inl (some (a1), 2, l1))), some (.inl x2), some (.inl x3), some (.inl x4), some (.inl x5), some (.inl x6), some (.inl x7), none] [] M Q) ∧ (x7 < x2 → 0 ≤ x7 ∧ x7 < ((l1 : Nat) : Int) ∧ (-128 ≤ me_i M a1 x7.toNat ∧ me_i M a1 x7.toNat ≤ 127 → me_r (me_i M a1 x7.toNat) ∧ me_r 10 ∧ ((me_i M a1 x7.toNat) = 10 → me_W (mt_G N X) 286 d 9 [some (.inr (.inl (some (a0), 31, 0))), some (.inr (.inl (some (a1), 2, l1))), some (.inl x2), some (.inl x3), some (.inl x4), some (.inl x5), some (.inl x6), some (.inl x7), none] [] M Q) ∧ (¬ (me_i M a1 x7.toNat) = 10 → me_W (mt_G N X) 286 d 88 [some (.inr (.inl (some (a0), 31, 0))), some (.inr (.inl (some (a1), 2, l1))), some (.inl x2), some (.inl x3), some (.inl x4), some (.inl x5), some (.inl x6), some (.inl (x7 + 1)), none] [] M Q)))) : me_W (mt_G N X) 286 d 88 [some (.inr (.inl (some (a0), 31, 0))), some (.inr (.inl (some (a1), 2, l1))), some (.inl x2), some (.inl x3), some (.inl x4), some (.inl x5), some (.inl x6), some (.inl x7), none] [] M Q := sx_ok (n := 11) (pv := 1) (cut := [(9, [true, true, true, true, true, true, true, true, false]), (88, [true, true, true, true, true, true, true, true, false])]) si_ok_286 h
set_option maxRecDepth 100000 in
theorem b287_0 {N : Nat} {X : Nat → Int32} {d : Nat} {x1 x2 : Int} {a0 l0 : Nat} {M : me_M} {Q : me_Q} (h : me_r x1 ∧ me_r x2 ∧ (x2 ≤ x1 → Q (.inr (some (.inl (-1)))) M) ∧ (x1 < x2 → 0 ≤ x1 ∧ x1 < ((l0 : Nat) : Int) ∧ (-128 ≤ me_i M a0 x1.toNat ∧ me_i M a0 x1.toNat ≤ 127 → Q (.inr (some (.inl ((Int32.ofInt (me_i M a0 x1.toNat) &&& Int32.ofInt 255).toInt)))) M))) : me_W (mt_G N X) 287 d 0 [some (.inr (.inl (some (a0), 2, l0))), some (.inl x1), some (.inl x2)] [] M Q := sx_ok (n := 11) (pv := 1) (cut := []) si_ok_287 h
set_option maxRecDepth 100000 in
theorem b288_0 {N : Nat} {X : Nat → Int32} {d : Nat} {x2 x3 x4 x5 : Int} {a0 a1 l1 : Nat} {M : me_M} {Q : me_Q} (h : ∃ d', d = d' + 1 ∧ me_W (mt_G N X) 287 d' 0 [some (.inr (.inl (some (a1), 2, l1))), some (.inl x2), some (.inl x3)] [] M (sx_qI (fun y4 M1 => ∃ d', d = d' + 1 ∧ me_W (mt_G N X) 289 d' 0 [some (.inl y4)] [] M1 (sx_qI (fun y8 M5 => me_r y8 ∧ (y8 = 0 → ∃ d', d = d' + 1 ∧ me_W (mt_G N X) 290 d' 0 [some (.inl y4)] [] M5 (sx_qI (fun y12 M9 => me_r y12 ∧ (y12 = 0 → me_r x5 ∧ (x5 = 0 → me_W (mt_G N X) 288 d 199 [some (.inr (.inl (some (a0), 31, 0))), some (.inr (.inl (some (a1), 2, l1))), some (.inl x2), some (.inl x3), some (.inl x4), some (.inl x5), some (.inl y4), some (.inl (x2 + 1)), some (.inl 4), some (.inl y4)] [] M9 Q) ∧ (¬ x5 = 0 → me_r y4 ∧ me_r 36 ∧ (¬ y4 = 36 → me_W (mt_G N X) 288 d 199 [some (.inr (.inl (some (a0), 31, 0))), some (.inr (.inl (some (a1), 2, l1))), some (.inl x2), some (.inl x3), some (.inl x4), some (.inl x5), some (.inl y4), some (.inl (x2 + 1)), some (.inl 4), some (.inl y4)] [] M9 Q) ∧ (y4 = 36 → ∃ d', d = d' + 1 ∧ me_W (mt_G N X) 287 d' 0 [some (.inr (.inl (some (a1), 2, l1))), some (.inl (x2 + 1)), some (.inl x3)] [] M9 (sx_qI (fun y16 M13 => me_r y16 ∧ me_r 97 ∧ (y16 < 97 → me_W (mt_G N X) 288 d 199 [some (.inr (.inl (some (a0), 31, 0))), some (.inr (.inl (some (a1), 2, l1))), some (.inl x2), some (.inl x3), some (.inl x4), some (.inl x5), some (.inl y4), some (.inl (x2 + 1)), some (.inl 4), some (.inl y4)] [] M13 Q) ∧ (97 ≤ y16 → ∃ d', d = d' + 1 ∧ me_W (mt_G N X) 287 d' 0 [some (.inr (.inl (some (a1), 2, l1))), some (.inl (x2 + 1)), some (.inl x3)] [] M13 (sx_qI (fun y20 M17 => me_r y20 ∧ me_r 122 ∧ (122 < y20 → me_W (mt_G N X) 288 d 199 [some (.inr (.inl (some (a0), 31, 0))), some (.inr (.inl (some (a1), 2, l1))), some (.inl x2), some (.inl x3), some (.inl x4), some (.inl x5), some (.inl y4), some (.inl (x2 + 1)), some (.inl 4), some (.inl y4)] [] M17 Q) ∧ (y20 ≤ 122 → ∃ d', d = d' + 1 ∧ me_W (mt_G N X) 287 d' 0 [some (.inr (.inl (some (a1), 2, l1))), some (.inl (x2 + 1)), some (.inl x3)] [] M17 (sx_qI (fun y24 M21 => me_W (mt_G N X) 288 d 296 [some (.inr (.inl (some (a0), 31, 0))), none, some (.inl x2), none, some (.inl x4), none, none, some (.inl ((x2 + 1) + 1)), some (.inl 5), some (.inl y24)] [] M21 Q) (fun e23 M22 => Q (.inl e23) M22)))) (fun e19 M18 => Q (.inl e19) M18)))) (fun e15 M14 => Q (.inl e15) M14))))) ∧ (¬ y12 = 0 → me_W (mt_G N X) 288 d 107 [some (.inr (.inl (some (a0), 31, 0))), some (.inr (.inl (some (a1), 2, l1))), some (.inl x2), some (.inl x3), some (.inl x4), none, none, some (.inl (x2 + 1)), none, some (.inl y4)] [] M9 Q)) (fun e11 M10 => Q (.inl e11) M10))) ∧ (¬ y8 = 0 → me_W (mt_G N X) 288 d 28 [some (.inr (.inl (some (a0), 31, 0))), some (.inr (.inl (some (a1), 2, l1))), some (.inl x2), some (.inl x3), some (.inl x4), none, none, some (.inl (x2 + 1)), none, none] [] M5 Q)) (fun e7 M6 => Q (.inl e7) M6))) (fun e3 M2 => Q (.inl e3) M2))) : me_W (mt_G N X) 288 d 0 [some (.inr (.inl (some (a0), 31, 0))), some (.inr (.inl (some (a1), 2, l1))), some (.inl x2), some (.inl x3), some (.inl x4), some (.inl x5), none, none, none, none] [] M Q := sx_ok (n := 46) (pv := 1) (cut := [(28, [true, true, true, true, true, false, false, true, false, false]), (54, [true, true, true, true, true, false, false, true, false, false]), (94, [true, false, true, false, true, false, false, true, false, true]), (107, [true, true, true, true, true, false, false, true, false, true]), (140, [true, false, true, false, true, false, false, true, false, true]), (199, [true, true, true, true, true, true, true, true, true, true]), (217, [true, true, true, true, true, true, true, true, true, false]), (252, [true, true, true, true, true, false, true, true, false, false]), (276, [true, false, true, false, true, false, false, true, false, true]), (293, [true, false, true, false, true, false, false, false, true, true]), (296, [true, false, true, false, true, false, false, true, true, true])]) si_ok_288 h
set_option maxRecDepth 100000 in
theorem b288_28 {N : Nat} {X : Nat → Int32} {d : Nat} {x2 x3 x4 x7 : Int} {a0 l1 a1 : Nat} {M : me_M} {Q : me_Q} (h : ∃ d', d = d' + 1 ∧ me_W (mt_G N X) 287 d' 0 [some (.inr (.inl (some (a1), 2, l1))), some (.inl x7), some (.inl x3)] [] M (sx_qI (fun y4 M1 => ∃ d', d = d' + 1 ∧ me_W (mt_G N X) 289 d' 0 [some (.inl y4)] [] M1 (sx_qI (fun y8 M5 => me_r y8 ∧ (¬ y8 = 0 → me_W (mt_G N X) 288 d 54 [some (.inr (.inl (some (a0), 31, 0))), some (.inr (.inl (some (a1), 2, l1))), some (.inl x2), some (.inl x3), some (.inl x4), none, none, some (.inl x7), none, none] [] M5 Q) ∧ (y8 = 0 → ∃ d', d = d' + 1 ∧ me_W (mt_G N X) 287 d' 0 [some (.inr (.inl (some (a1), 2, l1))), some (.inl x7), some (.inl x3)] [] M5 (sx_qI (fun y12 M9 => ∃ d', d = d' + 1 ∧ me_W (mt_G N X) 290 d' 0 [some (.inl y12)] [] M9 (sx_qI (fun y16 M13 => me_r y16 ∧ (y16 = 0 → ∃ d', d = d' + 1 ∧ me_W (mt_G N X) 291 d' 0 [some (.inr (.inl (some (a1), 2, l1))), some (.inl x2), some (.inl (x7 - x2)), none, none, none, none, none] [] M13 (sx_qI (fun y20 M17 => me_r y20 ∧ (y20 < 0 → me_r (x7 - x2) ∧ me_r 12 ∧ ((x7 - x2) ≤ 12 → me_W (mt_G N X) 288 d 94 [some (.inr (.inl (some (a0), 31, 0))), none, some (.inl x2), none, some (.inl x4), none, none, some (.inl x7), none, some (.inl y20)] [.inl 1] M17 Q) ∧ (12 < (x7 - x2) → me_W (mt_G N X) 288 d 94 [some (.inr (.inl (some (a0), 31, 0))), none, some (.inl x2), none, some (.inl x4), none, none, some (.inl x7), none, some (.inl y20)] [.inl (-1)] M17 Q)) ∧ (0 ≤ y20 → me_W (mt_G N X) 288 d 94 [some (.inr (.inl (some (a0), 31, 0))), none, some (.inl x2), none, some (.inl x4), none, none, some (.inl x7), none, some (.inl y20)] [.inl 3] M17 Q)) (fun e19 M18 => Q (.inl e19) M18))) ∧ (¬ y16 = 0 → me_W (mt_G N X) 288 d 54 [some (.inr (.inl (some (a0), 31, 0))), some (.inr (.inl (some (a1), 2, l1))), some (.inl x2), some (.inl x3), some (.inl x4), none, none, some (.inl x7), none, none] [] M13 Q)) (fun e15 M14 => Q (.inl e15) M14))) (fun e11 M10 => Q (.inl e11) M10)))) (fun e7 M6 => Q (.inl e7) M6))) (fun e3 M2 => Q (.inl e3) M2))) : me_W (mt_G N X) 288 d 28 [some (.inr (.inl (some (a0), 31, 0))), some (.inr (.inl (some (a1), 2, l1))), some (.inl x2), some (.inl x3), some (.inl x4), none, none, some (.inl x7), none, none] [] M Q := sx_ok (n := 29) (pv := 1) (cut := [(28, [true, true, true, true, true, false, false, true, false, false]), (54, [true, true, true, true, true, false, false, true, false, false]), (94, [true, false, true, false, true, false, false, true, false, true]), (107, [true, true, true, true, true, false, false, true, false, true]), (140, [true, false, true, false, true, false, false, true, false, true]), (199, [true, true, true, true, true, true, true, true, true, true]), (217, [true, true, true, true, true, true, true, true, true, false]), (252, [true, true, true, true, true, false, true, true, false, false]), (276, [true, false, true, false, true, false, false, true, false, true]), (293, [true, false, true, false, true, false, false, false, true, true]), (296, [true, false, true, false, true, false, false, true, true, true])]) si_ok_288 h
set_option maxRecDepth 100000 in
theorem b288_54 {N : Nat} {X : Nat → Int32} {d : Nat} {x2 x3 x4 x7 : Int} {a0 l1 a1 : Nat} {M : me_M} {Q : me_Q} (h : me_W (mt_G N X) 288 d 28 [some (.inr (.inl (some (a0), 31, 0))), some (.inr (.inl (some (a1), 2, l1))), some (.inl x2), some (.inl x3), some (.inl x4), none, none, some (.inl (x7 + 1)), none, none] [] M Q) : me_W (mt_G N X) 288 d 54 [some (.inr (.inl (some (a0), 31, 0))), some (.inr (.inl (some (a1), 2, l1))), some (.inl x2), some (.inl x3), some (.inl x4), none, none, some (.inl x7), none, none] [] M Q := sx_ok (n := 3) (pv := 1) (cut := [(28, [true, true, true, true, true, false, false, true, false, false]), (54, [true, true, true, true, true, false, false, true, false, false]), (94, [true, false, true, false, true, false, false, true, false, true]), (107, [true, true, true, true, true, false, false, true, false, true]), (140, [true, false, true, false, true, false, false, true, false, true]), (199, [true, true, true, true, true, true, true, true, true, true]), (217, [true, true, true, true, true, true, true, true, true, false]), (252, [true, true, true, true, true, false, true, true, false, false]), (276, [true, false, true, false, true, false, false, true, false, true]), (293, [true, false, true, false, true, false, false, false, true, true]), (296, [true, false, true, false, true, false, false, true, true, true])]) si_ok_288 h
set_option maxRecDepth 100000 in
theorem b288_94 {N : Nat} {X : Nat → Int32} {d : Nat} {x2 x4 x7 x9 xs0 : Int} {a0 : Nat} {M : me_M} {Q : me_Q} (h : me_W (mt_G N X) 288 d 296 [some (.inr (.inl (some (a0), 31, 0))), none, some (.inl x2), none, some (.inl x4), none, none, some (.inl x7), some (.inl xs0), some (.inl x9)] [] M Q) : me_W (mt_G N X) 288 d 94 [some (.inr (.inl (some (a0), 31, 0))), none, some (.inl x2), none, some (.inl x4), none, none, some (.inl x7), none, some (.inl x9)] [.inl xs0] M Q := sx_ok (n := 3) (pv := 1) (cut := [(28, [true, true, true, true, true, false, false, true, false, false]), (54, [true, true, true, true, true, false, false, true, false, false]), (94, [true, false, true, false, true, false, false, true, false, true]), (107, [true, true, true, true, true, false, false, true, false, true]), (140, [true, false, true, false, true, false, false, true, false, true]), (199, [true, true, true, true, true, true, true, true, true, true]), (217, [true, true, true, true, true, true, true, true, true, false]), (252, [true, true, true, true, true, false, true, true, false, false]), (276, [true, false, true, false, true, false, false, true, false, true]), (293, [true, false, true, false, true, false, false, false, true, true]), (296, [true, false, true, false, true, false, false, true, true, true])]) si_ok_288 h
set_option maxRecDepth 100000 in
theorem b288_107 {N : Nat} {X : Nat → Int32} {d : Nat} {x2 x3 x4 x7 x9 : Int} {a0 l1 a1 : Nat} {M : me_M} {Q : me_Q} (h : ∃ d', d = d' + 1 ∧ me_W (mt_G N X) 287 d' 0 [some (.inr (.inl (some (a1), 2, l1))), some (.inl x7), some (.inl x3)] [] M (sx_qI (fun y4 M1 => ∃ d', d = d' + 1 ∧ me_W (mt_G N X) 290 d' 0 [some (.inl y4)] [] M1 (sx_qI (fun y8 M5 => me_r y8 ∧ (y8 = 0 → me_r (x7 - x2) ∧ me_r 9 ∧ ((x7 - x2) ≤ 9 → me_W (mt_G N X) 288 d 140 [some (.inr (.inl (some (a0), 31, 0))), none, some (.inl x2), none, some (.inl x4), none, none, some (.inl x7), none, some (.inl x9)] [.inl 2] M5 Q) ∧ (9 < (x7 - x2) → me_W (mt_G N X) 288 d 140 [some (.inr (.inl (some (a0), 31, 0))), none, some (.inl x2), none, some (.inl x4), none, none, some (.inl x7), none, some (.inl x9)] [.inl (-1)] M5 Q)) ∧ (¬ y8 = 0 → me_W (mt_G N X) 288 d 107 [some (.inr (.inl (some (a0), 31, 0))), some (.inr (.inl (some (a1), 2, l1))), some (.inl x2), some (.inl x3), some (.inl x4), none, none, some (.inl (x7 + 1)), none, some (.inl x9)] [] M5 Q)) (fun e7 M6 => Q (.inl e7) M6))) (fun e3 M2 => Q (.inl e3) M2))) : me_W (mt_G N X) 288 d 107 [some (.inr (.inl (some (a0), 31, 0))), some (.inr (.inl (some (a1), 2, l1))), some (.inl x2), some (.inl x3), some (.inl x4), none, none, some (.inl x7), none, some (.inl x9)] [] M Q := sx_ok (n := 14) (pv := 1) (cut := [(28, [true, true, true, true, true, false, false, true, false, false]), (54, [true, true, true, true, true, false, false, true, false, false]), (94, [true, false, true, false, true, false, false, true, false, true]), (107, [true, true, true, true, true, false, false, true, false, true]), (140, [true, false, true, false, true, false, false, true, false, true]), (199, [true, true, true, true, true, true, true, true, true, true]), (217, [true, true, true, true, true, true, true, true, true, false]), (252, [true, true, true, true, true, false, true, true, false, false]), (276, [true, false, true, false, true, false, false, true, false, true]), (293, [true, false, true, false, true, false, false, false, true, true]), (296, [true, false, true, false, true, false, false, true, true, true])]) si_ok_288 h
set_option maxRecDepth 100000 in
theorem b288_140 {N : Nat} {X : Nat → Int32} {d : Nat} {x2 x4 x7 x9 xs0 : Int} {a0 : Nat} {M : me_M} {Q : me_Q} (h : me_W (mt_G N X) 288 d 296 [some (.inr (.inl (some (a0), 31, 0))), none, some (.inl x2), none, some (.inl x4), none, none, some (.inl x7), some (.inl xs0), some (.inl x9)] [] M Q) : me_W (mt_G N X) 288 d 140 [some (.inr (.inl (some (a0), 31, 0))), none, some (.inl x2), none, some (.inl x4), none, none, some (.inl x7), none, some (.inl x9)] [.inl xs0] M Q := sx_ok (n := 3) (pv := 1) (cut := [(28, [true, true, true, true, true, false, false, true, false, false]), (54, [true, true, true, true, true, false, false, true, false, false]), (94, [true, false, true, false, true, false, false, true, false, true]), (107, [true, true, true, true, true, false, false, true, false, true]), (140, [true, false, true, false, true, false, false, true, false, true]), (199, [true, true, true, true, true, true, true, true, true, true]), (217, [true, true, true, true, true, true, true, true, true, false]), (252, [true, true, true, true, true, false, true, true, false, false]), (276, [true, false, true, false, true, false, false, true, false, true]), (293, [true, false, true, false, true, false, false, false, true, true]), (296, [true, false, true, false, true, false, false, true, true, true])]) si_ok_288 h
set_option maxRecDepth 100000 in
theorem b288_199 {N : Nat} {X : Nat → Int32} {d : Nat} {x2 x3 x4 x5 x6 x7 x8 x9 : Int} {a0 l1 a1 : Nat} {M : me_M} {Q : me_Q} (h : me_r x5 ∧ (x5 = 0 → me_W (mt_G N X) 288 d 217 [some (.inr (.inl (some (a0), 31, 0))), some (.inr (.inl (some (a1), 2, l1))), some (.inl x2), some (.inl x3), some (.inl x4), some (.inl x5), some (.inl x6), some (.inl x7), some (.inl x8), none] [] M Q) ∧ (¬ x5 = 0 → me_r x6 ∧ me_r 58 ∧ (¬ x6 = 58 → me_W (mt_G N X) 288 d 217 [some (.inr (.inl (some (a0), 31, 0))), some (.inr (.inl (some (a1), 2, l1))), some (.inl x2), some (.inl x3), some (.inl x4), some (.inl x5), some (.inl x6), some (.inl x7), some (.inl x8), none] [] M Q) ∧ (x6 = 58 → me_W (mt_G N X) 288 d 296 [some (.inr (.inl (some (a0), 31, 0))), none, some (.inl x2), none, some (.inl x4), none, none, some (.inl x7), some (.inl 4), some (.inl x9)] [] M Q))) : me_W (mt_G N X) 288 d 199 [some (.inr (.inl (some (a0), 31, 0))), some (.inr (.inl (some (a1), 2, l1))), some (.inl x2), some (.inl x3), some (.inl x4), some (.inl x5), some (.inl x6), some (.inl x7), some (.inl x8), some (.inl x9)] [] M Q := sx_ok (n := 9) (pv := 1) (cut := [(28, [true, true, true, true, true, false, false, true, false, false]), (54, [true, true, true, true, true, false, false, true, false, false]), (94, [true, false, true, false, true, false, false, true, false, true]), (107, [true, true, true, true, true, false, false, true, false, true]), (140, [true, false, true, false, true, false, false, true, false, true]), (199, [true, true, true, true, true, true, true, true, true, true]), (217, [true, true, true, true, true, true, true, true, true, false]), (252, [true, true, true, true, true, false, true, true, false, false]), (276, [true, false, true, false, true, false, false, true, false, true]), (293, [true, false, true, false, true, false, false, false, true, true]), (296, [true, false, true, false, true, false, false, true, true, true])]) si_ok_288 h
set_option maxRecDepth 100000 in
theorem b288_217 {N : Nat} {X : Nat → Int32} {d : Nat} {x2 x3 x4 x5 x6 x7 x8 : Int} {a0 l1 a1 : Nat} {M : me_M} {Q : me_Q} (h : me_r x5 ∧ (x5 = 0 → me_W (mt_G N X) 288 d 252 [some (.inr (.inl (some (a0), 31, 0))), some (.inr (.inl (some (a1), 2, l1))), some (.inl x2), some (.inl x3), some (.inl x4), none, some (.inl x6), some (.inl x7), none, none] [] M Q) ∧ (¬ x5 = 0 → me_r x6 ∧ me_r 45 ∧ (¬ x6 = 45 → me_W (mt_G N X) 288 d 252 [some (.inr (.inl (some (a0), 31, 0))), some (.inr (.inl (some (a1), 2, l1))), some (.inl x2), some (.inl x3), some (.inl x4), none, some (.inl x6), some (.inl x7), none, none] [] M Q) ∧ (x6 = 45 → ∃ d', d = d' + 1 ∧ me_W (mt_G N X) 287 d' 0 [some (.inr (.inl (some (a1), 2, l1))), some (.inl x7), some (.inl x3)] [] M (sx_qI (fun y4 M1 => me_r y4 ∧ me_r 62 ∧ (¬ y4 = 62 → me_W (mt_G N X) 288 d 252 [some (.inr (.inl (some (a0), 31, 0))), some (.inr (.inl (some (a1), 2, l1))), some (.inl x2), some (.inl x3), some (.inl x4), none, some (.inl x6), some (.inl x7), none, none] [] M1 Q) ∧ (y4 = 62 → me_W (mt_G N X) 288 d 296 [some (.inr (.inl (some (a0), 31, 0))), none, some (.inl x2), none, some (.inl x4), none, none, some (.inl (x7 + 1)), some (.inl x8), some (.inl 306)] [] M1 Q)) (fun e3 M2 => Q (.inl e3) M2))))) : me_W (mt_G N X) 288 d 217 [some (.inr (.inl (some (a0), 31, 0))), some (.inr (.inl (some (a1), 2, l1))), some (.inl x2), some (.inl x3), some (.inl x4), some (.inl x5), some (.inl x6), some (.inl x7), some (.inl x8), none] [] M Q := sx_ok (n := 16) (pv := 1) (cut := [(28, [true, true, true, true, true, false, false, true, false, false]), (54, [true, true, true, true, true, false, false, true, false, false]), (94, [true, false, true, false, true, false, false, true, false, true]), (107, [true, true, true, true, true, false, false, true, false, true]), (140, [true, false, true, false, true, false, false, true, false, true]), (199, [true, true, true, true, true, true, true, true, true, true]), (217, [true, true, true, true, true, true, true, true, true, false]), (252, [true, true, true, true, true, false, true, true, false, false]), (276, [true, false, true, false, true, false, false, true, false, true]), (293, [true, false, true, false, true, false, false, false, true, true]), (296, [true, false, true, false, true, false, false, true, true, true])]) si_ok_288 h
set_option maxRecDepth 100000 in
theorem b288_252 {N : Nat} {X : Nat → Int32} {d : Nat} {x2 x3 x4 x6 x7 : Int} {a0 l1 a1 : Nat} {M : me_M} {Q : me_Q} (h : ∃ d', d = d' + 1 ∧ me_W (mt_G N X) 287 d' 0 [some (.inr (.inl (some (a1), 2, l1))), some (.inl x7), some (.inl x3)] [] M (sx_qI (fun y4 M1 => ∃ d', d = d' + 1 ∧ me_W (mt_G N X) 292 d' 0 [some (.inl x6), some (.inl y4)] [] M1 (sx_qI (fun y8 M5 => me_r y8 ∧ (0 ≤ y8 → me_W (mt_G N X) 288 d 276 [some (.inr (.inl (some (a0), 31, 0))), none, some (.inl x2), none, some (.inl x4), none, none, some (.inl x7), none, some (.inl y8)] [.inl 4] M5 Q) ∧ (y8 < 0 → me_W (mt_G N X) 288 d 276 [some (.inr (.inl (some (a0), 31, 0))), none, some (.inl x2), none, some (.inl x4), none, none, some (.inl x7), none, some (.inl y8)] [.inl (-1)] M5 Q)) (fun e7 M6 => Q (.inl e7) M6))) (fun e3 M2 => Q (.inl e3) M2))) : me_W (mt_G N X) 288 d 252 [some (.inr (.inl (some (a0), 31, 0))), some (.inr (.inl (some (a1), 2, l1))), some (.inl x2), some (.inl x3), some (.inl x4), none, some (.inl x6), some (.inl x7), none, none] [] M Q := sx_ok (n := 12) (pv := 1) (cut := [(28, [true, true, true, true, true, false, false, true, false, false]), (54, [true, true, true, true, true, false, false, true, false, false]), (94, [true, false, true, false, true, false, false, true, false, true]), (107, [true, true, true, true, true, false, false, true, false, true]), (140, [true, false, true, false, true, false, false, true, false, true]), (199, [true, true, true, true, true, true, true, true, true, true]), (217, [true, true, true, true, true, true, true, true, true, false]), (252, [true, true, true, true, true, false, true, true, false, false]), (276, [true, false, true, false, true, false, false, true, false, true]), (293, [true, false, true, false, true, false, false, false, true, true]), (296, [true, false, true, false, true, false, false, true, true, true])]) si_ok_288 h
set_option maxRecDepth 100000 in
theorem b288_276 {N : Nat} {X : Nat → Int32} {d : Nat} {x2 x4 x7 x9 xs0 : Int} {a0 : Nat} {M : me_M} {Q : me_Q} (h : me_r x9 ∧ me_r 300 ∧ (x9 < 300 → me_W (mt_G N X) 288 d 293 [some (.inr (.inl (some (a0), 31, 0))), none, some (.inl x2), none, some (.inl x4), none, none, none, some (.inl xs0), some (.inl x9)] [.inl 0, .inl x7] M Q) ∧ (300 ≤ x9 → me_W (mt_G N X) 288 d 293 [some (.inr (.inl (some (a0), 31, 0))), none, some (.inl x2), none, some (.inl x4), none, none, none, some (.inl xs0), some (.inl x9)] [.inl 1, .inl x7] M Q)) : me_W (mt_G N X) 288 d 276 [some (.inr (.inl (some (a0), 31, 0))), none, some (.inl x2), none, some (.inl x4), none, none, some (.inl x7), none, some (.inl x9)] [.inl xs0] M Q := sx_ok (n := 8) (pv := 1) (cut := [(28, [true, true, true, true, true, false, false, true, false, false]), (54, [true, true, true, true, true, false, false, true, false, false]), (94, [true, false, true, false, true, false, false, true, false, true]), (107, [true, true, true, true, true, false, false, true, false, true]), (140, [true, false, true, false, true, false, false, true, false, true]), (199, [true, true, true, true, true, true, true, true, true, true]), (217, [true, true, true, true, true, true, true, true, true, false]), (252, [true, true, true, true, true, false, true, true, false, false]), (276, [true, false, true, false, true, false, false, true, false, true]), (293, [true, false, true, false, true, false, false, false, true, true]), (296, [true, false, true, false, true, false, false, true, true, true])]) si_ok_288 h
set_option maxRecDepth 100000 in
theorem b288_293 {N : Nat} {X : Nat → Int32} {d : Nat} {x2 x4 x8 x9 xs0 xs1 : Int} {a0 : Nat} {M : me_M} {Q : me_Q} (h : me_W (mt_G N X) 288 d 296 [some (.inr (.inl (some (a0), 31, 0))), none, some (.inl x2), none, some (.inl x4), none, none, some (.inl (xs1 + xs0)), some (.inl x8), some (.inl x9)] [] M Q) : me_W (mt_G N X) 288 d 293 [some (.inr (.inl (some (a0), 31, 0))), none, some (.inl x2), none, some (.inl x4), none, none, none, some (.inl x8), some (.inl x9)] [.inl xs0, .inl xs1] M Q := sx_ok (n := 3) (pv := 1) (cut := [(28, [true, true, true, true, true, false, false, true, false, false]), (54, [true, true, true, true, true, false, false, true, false, false]), (94, [true, false, true, false, true, false, false, true, false, true]), (107, [true, true, true, true, true, false, false, true, false, true]), (140, [true, false, true, false, true, false, false, true, false, true]), (199, [true, true, true, true, true, true, true, true, true, true]), (217, [true, true, true, true, true, true, true, true, true, false]), (252, [true, true, true, true, true, false, true, true, false, false]), (276, [true, false, true, false, true, false, false, true, false, true]), (293, [true, false, true, false, true, false, false, false, true, true]), (296, [true, false, true, false, true, false, false, true, true, true])]) si_ok_288 h
set_option maxRecDepth 100000 in
theorem b288_296 {N : Nat} {X : Nat → Int32} {d : Nat} {x2 x4 x7 x8 x9 : Int} {a0 : Nat} {M : me_M} {Q : me_Q} (h : 0 ≤ me_i M a0 5 ∧ me_i M a0 5 < ((2408 : Nat) : Int) ∧ let M1 : me_M := me_sI M (a0 + 1) (me_i M a0 5).toNat (Int32.ofInt x8); 0 ≤ me_i M1 a0 5 ∧ me_i M1 a0 5 < ((2408 : Nat) : Int) ∧ let M2 : me_M := me_sI M1 (a0 + 2) (me_i M1 a0 5).toNat (Int32.ofInt x9); 0 ≤ me_i M2 a0 5 ∧ me_i M2 a0 5 < ((2408 : Nat) : Int) ∧ let M3 : me_M := me_sI M2 (a0 + 3) (me_i M2 a0 5).toNat (Int32.ofInt x2); 0 ≤ me_i M3 a0 5 ∧ me_i M3 a0 5 < ((2408 : Nat) : Int) ∧ let M4 : me_M := me_sI M3 (a0 + 4) (me_i M3 a0 5).toNat (Int32.ofInt (x7 - x2)); 0 ≤ me_i M4 a0 5 ∧ me_i M4 a0 5 < ((2408 : Nat) : Int) ∧ let M5 : me_M := me_sI M4 (a0 + 5) (me_i M4 a0 5).toNat (Int32.ofInt x4); let M6 : me_M := me_sI M5 a0 5 (Int32.ofInt ((me_i M5 a0 5) + 1)); Q (.inr (some (.inl x7))) M6) : me_W (mt_G N X) 288 d 296 [some (.inr (.inl (some (a0), 31, 0))), none, some (.inl x2), none, some (.inl x4), none, none, some (.inl x7), some (.inl x8), some (.inl x9)] [] M Q := sx_ok (n := 41) (pv := 1) (cut := [(28, [true, true, true, true, true, false, false, true, false, false]), (54, [true, true, true, true, true, false, false, true, false, false]), (94, [true, false, true, false, true, false, false, true, false, true]), (107, [true, true, true, true, true, false, false, true, false, true]), (140, [true, false, true, false, true, false, false, true, false, true]), (199, [true, true, true, true, true, true, true, true, true, true]), (217, [true, true, true, true, true, true, true, true, true, false]), (252, [true, true, true, true, true, false, true, true, false, false]), (276, [true, false, true, false, true, false, false, true, false, true]), (293, [true, false, true, false, true, false, false, false, true, true]), (296, [true, false, true, false, true, false, false, true, true, true])]) si_ok_288 h
set_option maxRecDepth 100000 in
theorem b289_0 {N : Nat} {X : Nat → Int32} {d : Nat} {x0 : Int} {M : me_M} {Q : me_Q} (h : me_r x0 ∧ me_r 97 ∧ (x0 < 97 → me_r x0 ∧ me_r 65 ∧ (x0 < 65 → ((0 : Int) = 0 ∨ (0 : Int) = 1) ∧ Q (.inr (some (.inl 0))) M) ∧ (65 ≤ x0 → me_r x0 ∧ me_r 90 ∧ (90 < x0 → ((0 : Int) = 0 ∨ (0 : Int) = 1) ∧ Q (.inr (some (.inl 0))) M) ∧ (x0 ≤ 90 → ((1 : Int) = 0 ∨ (1 : Int) = 1) ∧ Q (.inr (some (.inl 1))) M))) ∧ (97 ≤ x0 → me_r x0 ∧ me_r 122 ∧ (x0 ≤ 122 → ((1 : Int) = 0 ∨ (1 : Int) = 1) ∧ Q (.inr (some (.inl 1))) M) ∧ (122 < x0 → me_r x0 ∧ me_r 65 ∧ (x0 < 65 → ((0 : Int) = 0 ∨ (0 : Int) = 1) ∧ Q (.inr (some (.inl 0))) M) ∧ (65 ≤ x0 → me_r x0 ∧ me_r 90 ∧ (90 < x0 → ((0 : Int) = 0 ∨ (0 : Int) = 1) ∧ Q (.inr (some (.inl 0))) M) ∧ (x0 ≤ 90 → ((1 : Int) = 0 ∨ (1 : Int) = 1) ∧ Q (.inr (some (.inl 1))) M))))) : me_W (mt_G N X) 289 d 0 [some (.inl x0)] [] M Q := sx_ok (n := 16) (pv := 1) (cut := []) si_ok_289 h
set_option maxRecDepth 100000 in
theorem b290_0 {N : Nat} {X : Nat → Int32} {d : Nat} {x0 : Int} {M : me_M} {Q : me_Q} (h : me_r x0 ∧ me_r 48 ∧ (x0 < 48 → ((0 : Int) = 0 ∨ (0 : Int) = 1) ∧ Q (.inr (some (.inl 0))) M) ∧ (48 ≤ x0 → me_r x0 ∧ me_r 57 ∧ (57 < x0 → ((0 : Int) = 0 ∨ (0 : Int) = 1) ∧ Q (.inr (some (.inl 0))) M) ∧ (x0 ≤ 57 → ((1 : Int) = 0 ∨ (1 : Int) = 1) ∧ Q (.inr (some (.inl 1))) M))) : me_W (mt_G N X) 290 d 0 [some (.inl x0)] [] M Q := sx_ok (n := 10) (pv := 1) (cut := []) si_ok_290 h
set_option maxRecDepth 100000 in
theorem b291_0 {N : Nat} {X : Nat → Int32} {d : Nat} {x1 x2 : Int} {a0 l0 : Nat} {M : me_M} {Q : me_Q} (h : me_W (mt_G N X) 291 d 8 [some (.inr (.inl (some (a0), 2, l0))), some (.inl x1), some (.inl x2), some (.inl 0), some (.inl 0), some (.inl 0), none, none] [] M Q) : me_W (mt_G N X) 291 d 0 [some (.inr (.inl (some (a0), 2, l0))), some (.inl x1), some (.inl x2), none, none, none, none, none] [] M Q := sx_ok (n := 7) (pv := 1) (cut := [(8, [true, true, true, true, true, true, false, false]), (49, [true, true, true, true, true, true, true, true])]) si_ok_291 h
set_option maxRecDepth 100000 in
theorem b291_8 {N : Nat} {X : Nat → Int32} {d : Nat} {x1 x2 x3 x4 x5 : Int} {l0 a0 : Nat} {M : me_M} {Q : me_Q} (h : sx_tx (mt_G N X) (mv_big + 1 + 30) (fun t1 => 4 ≤ d ∧ me_r x5 ∧ me_r (t1.length : Int) ∧ ((t1.length : Int) ≤ x5 → Q (.inr (some (.inl (-1)))) M) ∧ (x5 < (t1.length : Int) → sx_tx (mt_G N X) (mv_big + 1 + 30) (fun t2 => 4 ≤ d ∧ 0 ≤ x5 ∧ x5 < (t2.length : Int) ∧ me_r ((st_ch (t2.getD x5.toNat 0)).toInt) ∧ me_r 32 ∧ (¬ ((st_ch (t2.getD x5.toNat 0)).toInt) = 32 → me_W (mt_G N X) 291 d 8 [some (.inr (.inl (some (a0), 2, l0))), some (.inl x1), some (.inl x2), some (.inl x3), some (.inl x4), some (.inl (x5 + 1)), none, none] [] M Q) ∧ (((st_ch (t2.getD x5.toNat 0)).toInt) = 32 → me_r (x5 - x4) ∧ me_r x2 ∧ (¬ (x5 - x4) = x2 → me_W (mt_G N X) 291 d 49 [some (.inr (.inl (some (a0), 2, l0))), some (.inl x1), some (.inl x2), some (.inl x3), some (.inl x4), some (.inl x5), some (.inl 0), some (.inl 0)] [] M Q) ∧ ((x5 - x4) = x2 → me_W (mt_G N X) 291 d 49 [some (.inr (.inl (some (a0), 2, l0))), some (.inl x1), some (.inl x2), some (.inl x3), some (.inl x4), some (.inl x5), some (.inl 1), some (.inl 0)] [] M Q)))))) : me_W (mt_G N X) 291 d 8 [some (.inr (.inl (some (a0), 2, l0))), some (.inl x1), some (.inl x2), some (.inl x3), some (.inl x4), some (.inl x5), none, none] [] M Q := sx_ok (n := 20) (pv := 1) (cut := [(8, [true, true, true, true, true, true, false, false]), (49, [true, true, true, true, true, true, true, true])]) si_ok_291 h
set_option maxRecDepth 100000 in
theorem b291_49 {N : Nat} {X : Nat → Int32} {d : Nat} {x1 x2 x3 x4 x5 x6 x7 : Int} {l0 a0 : Nat} {M : me_M} {Q : me_Q} (h : me_r x7 ∧ me_r x2 ∧ (x2 ≤ x7 → me_r x6 ∧ (x6 = 0 → me_W (mt_G N X) 291 d 8 [some (.inr (.inl (some (a0), 2, l0))), some (.inl x1), some (.inl x2), some (.inl (x3 + 1)), some (.inl (x5 + 1)), some (.inl (x5 + 1)), none, none] [] M Q) ∧ (¬ x6 = 0 → Q (.inr (some (.inl x3))) M)) ∧ (x7 < x2 → me_r x6 ∧ (x6 = 0 → me_r x6 ∧ (x6 = 0 → me_W (mt_G N X) 291 d 8 [some (.inr (.inl (some (a0), 2, l0))), some (.inl x1), some (.inl x2), some (.inl (x3 + 1)), some (.inl (x5 + 1)), some (.inl (x5 + 1)), none, none] [] M Q) ∧ (¬ x6 = 0 → Q (.inr (some (.inl x3))) M)) ∧ (¬ x6 = 0 → 0 ≤ x1 + x7 ∧ x1 + x7 < ((l0 : Nat) : Int) ∧ (-128 ≤ me_i M a0 (x1 + x7).toNat ∧ me_i M a0 (x1 + x7).toNat ≤ 127 → sx_tx (mt_G N X) (mv_big + 1 + 30) (fun t1 => 4 ≤ d ∧ 0 ≤ x4 + x7 ∧ x4 + x7 < (t1.length : Int) ∧ me_r (me_i M a0 (x1 + x7).toNat) ∧ me_r ((st_ch (t1.getD (x4 + x7).toNat 0)).toInt) ∧ (¬ (me_i M a0 (x1 + x7).toNat) = ((st_ch (t1.getD (x4 + x7).toNat 0)).toInt) → me_W (mt_G N X) 291 d 49 [some (.inr (.inl (some (a0), 2, l0))), some (.inl x1), some (.inl x2), some (.inl x3), some (.inl x4), some (.inl x5), some (.inl 0), some (.inl (x7 + 1))] [] M Q) ∧ ((me_i M a0 (x1 + x7).toNat) = ((st_ch (t1.getD (x4 + x7).toNat 0)).toInt) → me_W (mt_G N X) 291 d 49 [some (.inr (.inl (some (a0), 2, l0))), some (.inl x1), some (.inl x2), some (.inl x3), some (.inl x4), some (.inl x5), some (.inl 1), some (.inl (x7 + 1))] [] M Q)))))) : me_W (mt_G N X) 291 d 49 [some (.inr (.inl (some (a0), 2, l0))), some (.inl x1), some (.inl x2), some (.inl x3), some (.inl x4), some (.inl x5), some (.inl x6), some (.inl x7)] [] M Q := sx_ok (n := 22) (pv := 1) (cut := [(8, [true, true, true, true, true, true, false, false]), (49, [true, true, true, true, true, true, true, true])]) si_ok_291 h
set_option maxRecDepth 100000 in
theorem b292_0 {N : Nat} {X : Nat → Int32} {d : Nat} {x0 x1 : Int} {M : me_M} {Q : me_Q} (h : me_r x0 ∧ (x0 = 33 → me_r x1 ∧ me_r 61 ∧ (¬ x1 = 61 → Q (.inr (some (.inl x0))) M) ∧ (x1 = 61 → Q (.inr (some (.inl 301))) M)) ∧ (¬ x0 = 33 → (x0 = 37 → Q (.inr (some (.inl x0))) M) ∧ (¬ x0 = 37 → (x0 = 38 → me_r x1 ∧ me_r 38 ∧ (¬ x1 = 38 → Q (.inr (some (.inl (-1)))) M) ∧ (x1 = 38 → Q (.inr (some (.inl 304))) M)) ∧ (¬ x0 = 38 → (x0 = 40 → Q (.inr (some (.inl x0))) M) ∧ (¬ x0 = 40 → (x0 = 41 → Q (.inr (some (.inl x0))) M) ∧ (¬ x0 = 41 → (x0 = 42 → Q (.inr (some (.inl x0))) M) ∧ (¬ x0 = 42 → (x0 = 43 → Q (.inr (some (.inl x0))) M) ∧ (¬ x0 = 43 → (x0 = 44 → Q (.inr (some (.inl x0))) M) ∧ (¬ x0 = 44 → (x0 = 45 → Q (.inr (some (.inl x0))) M) ∧ (¬ x0 = 45 → (x0 = 46 → Q (.inr (some (.inl x0))) M) ∧ (¬ x0 = 46 → (x0 = 47 → Q (.inr (some (.inl x0))) M) ∧ (¬ x0 = 47 → (x0 = 59 → Q (.inr (some (.inl x0))) M) ∧ (¬ x0 = 59 → (x0 = 60 → me_r x1 ∧ me_r 61 ∧ (¬ x1 = 61 → Q (.inr (some (.inl x0))) M) ∧ (x1 = 61 → Q (.inr (some (.inl 302))) M)) ∧ (¬ x0 = 60 → (x0 = 61 → me_r x1 ∧ me_r 61 ∧ (¬ x1 = 61 → Q (.inr (some (.inl x0))) M) ∧ (x1 = 61 → Q (.inr (some (.inl 300))) M)) ∧ (¬ x0 = 61 → (x0 = 62 → me_r x1 ∧ me_r 61 ∧ (¬ x1 = 61 → Q (.inr (some (.inl x0))) M) ∧ (x1 = 61 → Q (.inr (some (.inl 303))) M)) ∧ (¬ x0 = 62 → (x0 = 123 → Q (.inr (some (.inl x0))) M) ∧ (¬ x0 = 123 → (x0 = 124 → me_r x1 ∧ me_r 124 ∧ (¬ x1 = 124 → Q (.inr (some (.inl (-1)))) M) ∧ (x1 = 124 → Q (.inr (some (.inl 305))) M)) ∧ (¬ x0 = 124 → (x0 = 125 → Q (.inr (some (.inl x0))) M) ∧ (¬ x0 = 125 → Q (.inr (some (.inl (-1)))) M))))))))))))))))))) : me_W (mt_G N X) 292 d 0 [some (.inl x0), some (.inl x1)] [] M Q := sx_ok (n := 9) (pv := 1) (cut := []) si_ok_292 h
set_option maxRecDepth 100000 in
theorem b293_0 {N : Nat} {X : Nat → Int32} {d : Nat} {a0 : Nat} {M : me_M} {Q : me_Q} (h : 0 ≤ me_i M a0 35 ∧ me_i M a0 35 < ((2408 : Nat) : Int) ∧ me_r (me_i M ((a0 + 7) + 1) (me_i M a0 35).toNat) ∧ me_r (-1) ∧ (¬ (me_i M ((a0 + 7) + 1) (me_i M a0 35).toNat) = (-1) → 0 ≤ me_i M a0 35 ∧ me_i M a0 35 < ((2408 : Nat) : Int) ∧ Q (.inr (some (.inl (me_i M ((a0 + 7) + 1) (me_i M a0 35).toNat)))) M) ∧ ((me_i M ((a0 + 7) + 1) (me_i M a0 35).toNat) = (-1) → ∃ d', d = d' + 1 ∧ me_W (mt_G N X) 294 d' 0 [some (.inr (.inl (some (a0), 29, 0))), some (.inl (me_i M a0 35))] [] M (sx_qI (fun y4 M1 => ∃ d', d = d' + 1 ∧ me_W (mt_G N X) 295 d' 0 [some (.inr (.inl (some (164), 25, 0))), some (.inl 1), some (.inl y4)] [] M1 (sx_qV (fun M5 => 0 ≤ me_i M5 a0 35 ∧ me_i M5 a0 35 < ((2408 : Nat) : Int) ∧ Q (.inr (some (.inl (me_i M5 ((a0 + 7) + 1) (me_i M5 a0 35).toNat)))) M5) (fun e7 M6 => Q (.inl e7) M6))) (fun e3 M2 => Q (.inl e3) M2)))) : me_W (mt_G N X) 293 d 0 [some (.inr (.inl (some (a0), 29, 0)))] [] M Q := sx_ok (n := 24) (pv := 1) (cut := []) si_ok_293 h
set_option maxRecDepth 100000 in
theorem b294_0 {N : Nat} {X : Nat → Int32} {d : Nat} {x1 : Int} {a0 : Nat} {M : me_M} {Q : me_Q} (h : 0 ≤ x1 ∧ x1 < ((2408 : Nat) : Int) ∧ 0 ≤ x1 ∧ x1 < ((2408 : Nat) : Int) ∧ Q (.inr (some (.inl ((10000 * (me_i M ((a0 + 7) + 5) x1.toNat)) + (me_i M ((a0 + 7) + 3) x1.toNat))))) M) : me_W (mt_G N X) 294 d 0 [some (.inr (.inl (some (a0), 29, 0))), some (.inl x1)] [] M Q := sx_ok (n := 15) (pv := 1) (cut := []) si_ok_294 h
set_option maxRecDepth 100000 in
theorem b295_0 {N : Nat} {X : Nat → Int32} {d : Nat} {x1 x2 : Int} {a0 : Nat} {M : me_M} {Q : me_Q} (h : let M1 : me_M := me_sI M a0 3 (Int32.ofInt x1); let M2 : me_M := me_sI M1 a0 4 (Int32.ofInt x2); Q (.inl (a0 + 2)) M2) : me_W (mt_G N X) 295 d 0 [some (.inr (.inl (some (a0), 25, 0))), some (.inl x1), some (.inl x2)] [] M Q := sx_ok (n := 10) (pv := 1) (cut := []) si_ok_295 h
set_option maxRecDepth 100000 in
theorem b299_0 {N : Nat} {X : Nat → Int32} {d : Nat} {a0 : Nat} {M : me_M} {Q : me_Q} (h : ∃ d', d = d' + 1 ∧ me_W (mt_G N X) 300 d' 0 [some (.inr (.inl (some (a0), 29, 0)))] [] M (sx_qV (fun M1 => let M4 : me_M := me_sI M1 a0 35 (Int32.ofInt ((me_i M1 a0 35) + 1)); Q (.inr (some (.inl ((me_i M4 a0 35) - 1)))) M4) (fun e3 M2 => Q (.inl e3) M2))) : me_W (mt_G N X) 299 d 0 [some (.inr (.inl (some (a0), 29, 0)))] [] M Q := sx_ok (n := 14) (pv := 1) (cut := []) si_ok_299 h
set_option maxRecDepth 100000 in
theorem b300_0 {N : Nat} {X : Nat → Int32} {d : Nat} {a0 : Nat} {M : me_M} {Q : me_Q} (h : me_r ((me_i M a0 35) - (me_i M a0 36)) ∧ me_r (me_i M a0 41) ∧ (((me_i M a0 35) - (me_i M a0 36)) < (me_i M a0 41) → Q (.inr none) M) ∧ ((me_i M a0 41) ≤ ((me_i M a0 35) - (me_i M a0 36)) → ∃ d', d = d' + 1 ∧ me_W (mt_G N X) 294 d' 0 [some (.inr (.inl (some (a0), 29, 0))), some (.inl (me_i M a0 35))] [] M (sx_qI (fun y4 M1 => ∃ d', d = d' + 1 ∧ me_W (mt_G N X) 295 d' 0 [some (.inr (.inl (some (164), 25, 0))), some (.inl 3), some (.inl y4)] [] M1 (sx_qV (fun M5 => Q (.inr none) M5) (fun e7 M6 => Q (.inl e7) M6))) (fun e3 M2 => Q (.inl e3) M2)))) : me_W (mt_G N X) 300 d 0 [some (.inr (.inl (some (a0), 29, 0)))] [] M Q := sx_ok (n := 18) (pv := 1) (cut := []) si_ok_300 h
end
section
/-! the reference's leaves: contracts -/
def rl_isL (x : Int) : Prop := 97 ≤ x ∧ x ≤ 122 ∨ 65 ≤ x ∧ x ≤ 90
def rl_isD (x : Int) : Prop := 48 ≤ x ∧ x ≤ 57
theorem c_289 {N : Nat} {X : Nat → Int32} {d : Nat} {x : Int} {M : me_M} (hx : me_r x) : me_W (mt_G N X) 289 d 0 [some (.inl x)] [] M (sx_qI (fun y M' => M' = M ∧ (y = 1 ∧ rl_isL x ∨ y = 0 ∧ ¬ rl_isL x)) nt_E) := by
  refine b289_0 ?_
  simp only [sx_qI, me_r, rl_isL] at hx ⊢
  (repeat' (first | apply And.intro | intro _)) <;> first | trivial | omega | grind
theorem c_290 {N : Nat} {X : Nat → Int32} {d : Nat} {x : Int} {M : me_M} (hx : me_r x) : me_W (mt_G N X) 290 d 0 [some (.inl x)] [] M (sx_qI (fun y M' => M' = M ∧ (y = 1 ∧ rl_isD x ∨ y = 0 ∧ ¬ rl_isD x)) nt_E) := by
  refine b290_0 ?_
  simp only [sx_qI, me_r, rl_isD] at hx ⊢
  (repeat' (first | apply And.intro | intro _)) <;> first | trivial | omega | grind
/-- the place of a token; a0: the program -/
theorem c_294 {N : Nat} {X : Nat → Int32} {d a0 : Nat} {x1 : Int} {M : me_M} (h0 : 0 ≤ x1) (h1 : x1 < 2408) : me_W (mt_G N X) 294 d 0 [some (.inr (.inl (some a0, 29, 0))), some (.inl x1)] [] M (sx_qI (fun y M' => M' = M ∧ y = 10000 * me_i M (a0 + 12) x1.toNat + me_i M (a0 + 10) x1.toNat) nt_E) := by
  refine b294_0 ?_
  simp only [sx_qI]
  (repeat' (first | apply And.intro | intro _)) <;> first | trivial | omega | exact me_i_r | grind
/-- a byte as a number, behind a byte's bounds -/
theorem me_and255 {x : Int} (h0 : -128 ≤ x) (h1 : x ≤ 127) : (Int32.ofInt x &&& Int32.ofInt 255).toInt = x % 256 := by
  have h : ∀ k : Fin 256, (Int32.ofInt ((k.val : Int) - 128) &&& Int32.ofInt 255).toInt = ((k.val : Int) - 128) % 256 := by decide +kernel
  have h2 := h ⟨(x + 128).toNat, by omega⟩
  have e : (((x + 128).toNat : Nat) : Int) - 128 = x := by omega
  simp only [e] at h2
  exact h2
/-- Tokens.at: the byte there, or -1 -/
theorem c_287 {N : Nat} {X : Nat → Int32} {d a0 l0 : Nat} {x1 x2 : Int} {M : me_M} (h0 : 0 ≤ x1) (h1 : me_r x1) (h2 : me_r x2) (h3 : x2 ≤ (l0 : Int)) : me_W (mt_G N X) 287 d 0 [some (.inr (.inl (some a0, 2, l0))), some (.inl x1), some (.inl x2)] [] M (sx_qI (fun y M' => M' = M ∧ -1 ≤ y ∧ y ≤ 255 ∧ (x1 < x2 → y = me_i M a0 x1.toNat % 256) ∧ (x2 ≤ x1 → y = -1)) nt_E) := by
  refine b287_0 ?_
  simp only [sx_qI]
  refine ⟨h1, h2, fun h => ⟨trivial, by omega, by omega, fun _ => by omega, fun _ => trivial⟩, fun h => ⟨h0, by omega, fun hb => ?_⟩⟩
  rw [me_and255 hb.1 hb.2]
  exact ⟨trivial, by omega, by omega, fun _ => rfl, fun _ => by omega⟩
/-- what sign c and the byte behind it are: a code, or -1 -/
def rl_sign (c n : Int) : Int := if c = 61 then (if n = 61 then 300 else c) else if c = 33 then (if n = 61 then 301 else c) else if c = 60 then (if n = 61 then 302 else c) else if c = 62 then (if n = 61 then 303 else c) else if c = 38 then (if n = 38 then 304 else -1) else if c = 124 then (if n = 124 then 305 else -1) else if c = 123 ∨ c = 125 ∨ c = 40 ∨ c = 41 ∨ c = 59 ∨ c = 44 ∨ c = 46 ∨ c = 43 ∨ c = 45 ∨ c = 42 ∨ c = 47 ∨ c = 37 then c else -1
theorem c_292 {N : Nat} {X : Nat → Int32} {d : Nat} {x0 x1 : Int} {M : me_M} (h0 : me_r x0) (h1 : me_r x1) : me_W (mt_G N X) 292 d 0 [some (.inl x0), some (.inl x1)] [] M (sx_qI (fun y M' => M' = M ∧ y = rl_sign x0 x1) nt_E) := by
  refine b292_0 ?_
  simp only [sx_qI, me_r] at h0 h1 ⊢
  (repeat' (first | apply And.intro | intro _)) <;> first | trivial | omega | (unfold rl_sign; repeat' split) <;> first | trivial | omega | grind
end
section
/-! the reference's wordOf -/
def wo_t : List Int32 := (mt_TX.getD 30 (0, 0, 0, [])).2.2.2
def wo_c (k : Nat) : Int := (st_ch (wo_t.getD k 0)).toInt
def wo_b : List Nat := [0, 6, 14, 21, 25, 30, 35, 38, 43, 49, 56, 62, 67, 71, 76, 81, 86, 92]
def wb (w : Nat) : Nat := wo_b.getD w 0
theorem wo_len : wo_t.length = 92 := by decide +kernel
theorem wo_f1 : ∀ w : Fin 17, wb w.val + 1 < wb (w.val + 1) ∧ wb (w.val + 1) ≤ 92 ∧ (wo_c (wb (w.val + 1) - 1) + 0).toNat = 32 := by decide +kernel
theorem wo_f2 : ∀ w : Fin 17, ∀ k : Fin 92, wb w.val ≤ k.val → k.val + 1 < wb (w.val + 1) → ¬ (wo_c k.val).toNat = 32 := by decide +kernel
theorem wo_tx {N : Nat} {X : Nat → Int32} {K : List Int32 → Prop} (h : K wo_t) : sx_tx (mt_G N X) (mv_big + 1 + 30) K := by
  have e : mv_gX2 (mt_G N X) (mv_big + 1 + 30) = some wo_t := rfl
  unfold sx_tx
  rw [e]
  exact h
/-- whether the n bytes from x1 on are the w-th word -/
def rl_is (M : me_M) (a0 : Nat) (x1 n : Int) (w : Nat) : Prop := n + 1 + wb w = wb (w + 1) ∧ ∀ j : Nat, (j : Int) < n → me_i M a0 (x1 + j).toNat = wo_c (wb w + j)
section WO
variable {N : Nat} {X : Nat → Int32} {d a0 l0 : Nat} {x1 x2 : Int} {M : me_M} {Q : me_Q}
theorem wo_49 (w : Nat) (hw : w < 17) (hd : 4 ≤ d) (h1 : 0 ≤ x1) (h2 : 0 ≤ x2) (h3 : x1 + x2 ≤ (l0 : Int)) (hr : me_r x2)
    (Hn : ¬ rl_is M a0 x1 x2 w → ∀ y3 y4 y5 : Int, y3 = (w : Int) + 1 → y4 = wb (w + 1) → y5 = wb (w + 1) → me_W (mt_G N X) 291 d 8 [some (.inr (.inl (some a0, 2, l0))), some (.inl x1), some (.inl x2), some (.inl y3), some (.inl y4), some (.inl y5), none, none] [] M Q)
    (Hy : rl_is M a0 x1 x2 w → ∀ y3 : Int, y3 = w → Q (.inr (some (.inl y3))) M) :
    ∀ (m : Nat) (x3 x4 x5 x6 x7 : Int), x3 = w → x4 = wb w → x5 + 1 = wb (w + 1) → 0 ≤ x7 → x7 ≤ x2 → x2 - x7 ≤ m → (x6 = 0 ∧ ¬ rl_is M a0 x1 x2 w ∨ x6 = 1 ∧ x2 + 1 + wb w = wb (w + 1) ∧ ∀ j : Nat, (j : Int) < x7 → me_i M a0 (x1 + j).toNat = wo_c (wb w + j)) → me_W (mt_G N X) 291 d 49 [some (.inr (.inl (some a0, 2, l0))), some (.inl x1), some (.inl x2), some (.inl x3), some (.inl x4), some (.inl x5), some (.inl x6), some (.inl x7)] [] M Q := by
  obtain ⟨f1, f2, f3⟩ := wo_f1 ⟨w, hw⟩
  dsimp only at f1 f2 f3
  have fg : ∀ {L6 L7 : Option me_V} {y3 y4 y5 : Int}, ¬ rl_is M a0 x1 x2 w → y3 = (w : Int) + 1 → y4 = wb (w + 1) → y5 = wb (w + 1) → me_W (mt_G N X) 291 d 8 [some (.inr (.inl (some a0, 2, l0))), some (.inl x1), some (.inl x2), some (.inl y3), some (.inl y4), some (.inl y5), L6, L7] [] M Q := fun hn e3 e4 e5 => (Hn hn _ _ _ e3 e4 e5).forget fun i v hv => by
    rcases i with _ | _ | _ | _ | _ | _ | _ | _ | i <;> first | exact hv | cases hv
  intro m
  induction m with
  | zero =>
    intro x3 x4 x5 x6 x7 e3 e4 e5 g1 g2 g3 g4
    refine b291_49 ⟨⟨by omega, by have := hr.2; omega⟩, hr, fun _ => ⟨⟨by omega, by omega⟩, fun e => fg (by rcases g4 with g4 | g4; exact g4.2; omega) (by omega) (by omega) (by omega), fun e => Hy ?_ _ e3⟩, fun h => by omega⟩
    rcases g4 with g4 | g4
    · exact absurd g4.1 e
    · exact ⟨g4.2.1, fun j hj => g4.2.2 j (by omega)⟩
  | succ m ih =>
    intro x3 x4 x5 x6 x7 e3 e4 e5 g1 g2 g3 g4
    refine b291_49 ⟨⟨by omega, by have := hr.2; omega⟩, hr, fun _ => ⟨⟨by omega, by omega⟩, fun e => fg (by rcases g4 with g4 | g4; exact g4.2; omega) (by omega) (by omega) (by omega), fun e => Hy ?_ _ e3⟩, fun h => ⟨⟨by omega, by omega⟩, fun e => ⟨⟨by omega, by omega⟩, fun e => fg (by rcases g4 with g4 | g4; exact g4.2; omega) (by omega) (by omega) (by omega), fun e9 => absurd e e9⟩, fun e => ?_⟩⟩
    · rcases g4 with g4 | g4
      · exact absurd g4.1 e
      · exact ⟨g4.2.1, fun j hj => g4.2.2 j (by omega)⟩
    · rcases g4 with g4 | ⟨g4, g5, g6⟩
      · exact absurd g4.1 e
      refine ⟨by omega, by omega, fun hb => wo_tx ⟨hd, by omega, ?_, me_i_r _ _ _, ⟨Int32.le_toInt _, Int32.toInt_lt _⟩, fun z => ?_, fun z => ?_⟩⟩
      · rw [wo_len]
        omega
      · refine ih _ _ _ _ _ e3 e4 e5 (by omega) (by omega) (by omega) (Or.inl ⟨rfl, fun q => z ?_⟩)
        have q2 := q.2 x7.toNat (by omega)
        rw [show x1 + (x7.toNat : Int) = x1 + x7 by omega] at q2
        rw [q2, show (x4 + x7).toNat = wb w + x7.toNat by omega]
        rfl
      · refine ih _ _ _ _ _ e3 e4 e5 (by omega) (by omega) (by omega) (Or.inr ⟨rfl, g5, fun j hj => ?_⟩)
        by_cases hj2 : (j : Int) < x7
        · exact g6 j hj2
        · have ej : (j : Int) = x7 := by omega
          rw [ej, z, show (x4 + x7).toNat = wb w + j by omega]
          rfl
end WO
section WO2
variable {N : Nat} {X : Nat → Int32} {d a0 l0 : Nat} {x1 x2 : Int} {M : me_M} {Q : me_Q}
theorem wo_8 (hd : 4 ≤ d) (h1 : 0 ≤ x1) (h2 : 0 ≤ x2) (h3 : x1 + x2 ≤ (l0 : Int)) (hr : me_r x2) (Hy : ∀ w : Nat, w < 17 → rl_is M a0 x1 x2 w → (∀ v : Nat, v < w → ¬ rl_is M a0 x1 x2 v) → Q (.inr (some (.inl w))) M) (Hz : (∀ v : Nat, v < 17 → ¬ rl_is M a0 x1 x2 v) → Q (.inr (some (.inl (-1)))) M) :
    ∀ (m w : Nat), w + m = 17 → (∀ v : Nat, v < w → ¬ rl_is M a0 x1 x2 v) → ∀ (n : Nat) (x3 x4 x5 : Int), x3 = w → x4 = wb w → wb w ≤ x5 → (x5 < wb (w + 1) ∨ m = 0 ∧ x5 = 92) → (wb (w + 1) : Int) - x5 ≤ n → me_W (mt_G N X) 291 d 8 [some (.inr (.inl (some a0, 2, l0))), some (.inl x1), some (.inl x2), some (.inl x3), some (.inl x4), some (.inl x5), none, none] [] M Q := by
  intro m
  induction m with
  | zero =>
    intro w hw hv n x3 x4 x5 e3 e4 g1 g2 g3
    have ew : w = 17 := by omega
    subst ew
    have e17 : wb 17 = 92 := rfl
    have e18 : wb (17 + 1) = 0 := rfl
    have e5 : x5 = 92 := by omega
    subst e5
    refine b291_8 (wo_tx ⟨hd, ⟨by omega, by omega⟩, ⟨by rw [wo_len]; omega, by rw [wo_len]; omega⟩, fun _ => Hz hv, fun h => ?_⟩)
    rw [wo_len] at h
    omega
  | succ m ih =>
    intro w hw hv n
    have hw17 : w < 17 := by omega
    obtain ⟨f1, f2, f3⟩ := wo_f1 ⟨w, hw17⟩
    dsimp only at f1 f2 f3
    induction n with
    | zero =>
      intro x3 x4 x5 e3 e4 g1 g2 g3
      omega
    | succ n ihn =>
      intro x3 x4 x5 e3 e4 g1 g2 g3
      have g2 : x5 < wb (w + 1) := by omega
      have hx5 : x5 < 92 := by omega
      refine b291_8 (wo_tx ⟨hd, ⟨by omega, by omega⟩, ⟨by rw [wo_len]; omega, by rw [wo_len]; omega⟩, fun h => ?_, fun _ => wo_tx ⟨hd, by omega, by rw [wo_len]; omega, ⟨Int32.le_toInt _, Int32.toInt_lt _⟩, ⟨by omega, by omega⟩, fun z => ?_, fun z => ?_⟩⟩)
      · rw [wo_len] at h
        omega
      · have hne : x5 + 1 ≠ wb (w + 1) := fun e => by
          have e2 : x5.toNat = wb (w + 1) - 1 := by omega
          have z2 : ¬ wo_c x5.toNat = 32 := z
          rw [e2] at z2
          omega
        exact ihn _ _ _ e3 e4 (by omega) (Or.inl (by omega)) (by omega)
      · have he : x5 + 1 = wb (w + 1) := by
          have q := wo_f2 ⟨w, hw17⟩ ⟨x5.toNat, by omega⟩
          dsimp only at q
          have z2 : wo_c x5.toNat = 32 := z
          by_cases c : x5.toNat + 1 < wb (w + 1)
          · have := q (by omega) c
            rw [z2] at this
            exact absurd rfl this
          · omega
        have nx : ¬ rl_is M a0 x1 x2 w → ∀ y3 y4 y5 : Int, y3 = (w : Int) + 1 → y4 = wb (w + 1) → y5 = wb (w + 1) → me_W (mt_G N X) 291 d 8 [some (.inr (.inl (some a0, 2, l0))), some (.inl x1), some (.inl x2), some (.inl y3), some (.inl y4), some (.inl y5), none, none] [] M Q := fun hn y3 y4 y5 k3 k4 k5 => by
          have hv2 : ∀ v : Nat, v < w + 1 → ¬ rl_is M a0 x1 x2 v := fun v hv3 => by
            rcases Nat.lt_or_ge v w with c | c
            · exact hv v c
            · have : v = w := by omega
              rw [this]
              exact hn
          refine ih (w + 1) (by omega) hv2 92 y3 y4 y5 (by omega) k4 (by omega) ?_ ?_
          · by_cases c : m = 0
            · refine Or.inr ⟨c, ?_⟩
              have : w = 16 := by omega
              subst this
              have e17 : wb (16 + 1) = 92 := rfl
              omega
            · have q := wo_f1 ⟨w + 1, by omega⟩
              dsimp only at q
              exact Or.inl (by omega)
          · by_cases c : m = 0
            · have : w = 16 := by omega
              subst this
              have e18 : wb (16 + 1 + 1) = 0 := rfl
              omega
            · have q := wo_f1 ⟨w + 1, by omega⟩
              dsimp only at q
              omega
        have ys : rl_is M a0 x1 x2 w → ∀ y3 : Int, y3 = w → Q (.inr (some (.inl y3))) M := fun h y3 e => by
          rw [e]
          exact Hy w hw17 h hv
        refine ⟨⟨by omega, by omega⟩, hr, fun c => ?_, fun c => ?_⟩
        · exact wo_49 w hw17 hd h1 h2 h3 hr nx ys x2.toNat x3 x4 x5 0 0 e3 e4 he (by omega) h2 (by omega) (Or.inl ⟨rfl, fun q => c (by have := q.1; omega)⟩)
        · exact wo_49 w hw17 hd h1 h2 h3 hr nx ys x2.toNat x3 x4 x5 1 0 e3 e4 he (by omega) h2 (by omega) (Or.inr ⟨rfl, by omega, fun j hj => by omega⟩)
/-- wordOf: the number of the word that the bytes are, or -1 -/
theorem c_291 (hd : 4 ≤ d) (h1 : 0 ≤ x1) (h2 : 0 ≤ x2) (h3 : x1 + x2 ≤ (l0 : Int)) (hr : me_r x2) : me_W (mt_G N X) 291 d 0 [some (.inr (.inl (some a0, 2, l0))), some (.inl x1), some (.inl x2), none, none, none, none, none] [] M (sx_qI (fun y M' => M' = M ∧ ((∃ w : Nat, y = w ∧ w < 17 ∧ rl_is M a0 x1 x2 w ∧ ∀ v : Nat, v < w → ¬ rl_is M a0 x1 x2 v) ∨ y = -1 ∧ ∀ v : Nat, v < 17 → ¬ rl_is M a0 x1 x2 v)) nt_E) := by
  refine b291_0 (wo_8 hd h1 h2 h3 hr (fun w hw hy hv => ⟨rfl, Or.inl ⟨w, rfl, hw, hy, hv⟩⟩) (fun hz => ⟨rfl, Or.inr ⟨rfl, hz⟩⟩) 17 0 rfl (fun v hv => absurd hv (Nat.not_lt_zero v)) 92 0 0 0 rfl rfl (by decide) (Or.inl (by decide)) (by decide))
end WO2
end
section
/-! the reference's Tokens.one: what token begins at a place -/
/-- the byte at k, or -1 from the end on -/
def rl_at (M : me_M) (a : Nat) (e k : Int) : Int := if k < e then me_i M a k.toNat % 256 else -1
theorem rl_at_b {M : me_M} {a : Nat} {e k : Int} : -1 ≤ rl_at M a e k ∧ rl_at M a e k ≤ 255 := by
  unfold rl_at
  split <;> omega
def rl_LD (c : Int) : Prop := rl_isL c ∨ rl_isD c
def rl_ends (T : Int → Int) (p : Int → Prop) (k n : Int) : Prop := k < n ∧ (∀ i, k < i → i < n → p (T i)) ∧ ¬ p (T n)
def rl_isT (T : Int → Int) (k n : Int) (w : Nat) : Prop := n + 1 + wb w = wb (w + 1) ∧ ∀ j : Nat, (j : Int) < n → T (k + j) = wo_c (wb w + j)
def rl_code (T : Int → Int) (k n y : Int) : Prop := (∃ w : Nat, y = w ∧ w < 17 ∧ rl_isT T k n w ∧ ∀ v : Nat, v < w → ¬ rl_isT T k n v) ∨ y = -1 ∧ ∀ v : Nat, v < 17 → ¬ rl_isT T k n v
/-- the token that begins at k: sort, code, where it ends; r: in a recipe -/
def rl_tok (T : Int → Int) (r k so co n : Int) : Prop :=
  rl_isL (T k) ∧ rl_ends T rl_LD k n ∧ rl_code T k (n - k) co ∧ so = (if 0 ≤ co then 3 else if 12 < n - k then -1 else 1) ∨
  rl_isD (T k) ∧ rl_ends T rl_isD k n ∧ co = T k ∧ so = (if 9 < n - k then -1 else 2) ∨
  ¬ rl_isL (T k) ∧ ¬ rl_isD (T k) ∧ (
    (¬ r = 0 ∧ T k = 36 ∧ 97 ≤ T (k + 1) ∧ T (k + 1) ≤ 122) ∧ so = 5 ∧ co = T (k + 1) ∧ n = k + 2 ∨
    ¬ (¬ r = 0 ∧ T k = 36 ∧ 97 ≤ T (k + 1) ∧ T (k + 1) ≤ 122) ∧ (
      (¬ r = 0 ∧ T k = 58) ∧ so = 4 ∧ co = 58 ∧ n = k + 1 ∨
      ¬ (¬ r = 0 ∧ T k = 58) ∧ (
        (¬ r = 0 ∧ T k = 45 ∧ T (k + 1) = 62) ∧ so = 4 ∧ co = 306 ∧ n = k + 2 ∨
        ¬ (¬ r = 0 ∧ T k = 45 ∧ T (k + 1) = 62) ∧ co = rl_sign (T k) (T (k + 1)) ∧ so = (if co < 0 then -1 else 4) ∧ n = k + 1 + (if 300 ≤ co then 1 else 0))))
theorem wo_c_f : ∀ k : Fin 92, 0 ≤ wo_c k.val ∧ wo_c k.val ≤ 127 := by decide +kernel
theorem wo_c_b (k : Nat) : 0 ≤ wo_c k ∧ wo_c k ≤ 127 := by
  rcases Nat.lt_or_ge k 92 with h | h
  · exact wo_c_f ⟨k, h⟩
  · unfold wo_c
    rw [List.getD_eq_getElem?_getD, List.getElem?_eq_none (by rw [wo_len]; exact h)]
    decide +kernel
section ONE
variable {N : Nat} {X : Nat → Int32} {d a0 a1 l1 : Nat} {x2 x3 x4 : Int} {M : me_M} {Q : me_Q}
theorem c_287a {x1 : Int} (h0 : 0 ≤ x1) (h1 : me_r x1) (h2 : me_r x3) (h3 : x3 ≤ (l1 : Int)) : me_W (mt_G N X) 287 d 0 [some (.inr (.inl (some a1, 2, l1))), some (.inl x1), some (.inl x3)] [] M (sx_qI (fun y M' => M' = M ∧ y = rl_at M a1 x3 x1) nt_E) :=
  (c_287 h0 h1 h2 h3).mono fun o M' _ q => by
    rcases o with a | _ | y | ⟨p, w⟩ | j <;> first | exact q | exact q.elim | skip
    obtain ⟨e, _, _, q1, q2⟩ := q
    refine ⟨e, ?_⟩
    unfold rl_at
    split
    · exact q1 (by omega)
    · exact q2 (by omega)
theorem one_28s {x7 : Int} (hd : 6 ≤ d) (h0 : 0 ≤ x2) (h3 : x3 ≤ (l1 : Int)) (h4 : l1 ≤ 134217728) (hL : rl_isL (rl_at M a1 x3 x2)) (hb : ∀ j, -128 ≤ me_i M a1 j ∧ me_i M a1 j ≤ 127) (hk : x2 < x7) (hk3 : x7 ≤ x3) (hi : ∀ i, x2 < i → i < x7 → rl_LD (rl_at M a1 x3 i))
    (H : ∀ (x7 x8 x9 : Int), (∀ r, rl_tok (rl_at M a1 x3) r x2 x8 x9 x7) → me_W (mt_G N X) 288 d 296 [some (.inr (.inl (some a0, 31, 0))), none, some (.inl x2), none, some (.inl x4), none, none, some (.inl x7), some (.inl x8), some (.inl x9)] [] M Q)
    (IH : rl_LD (rl_at M a1 x3 x7) → me_W (mt_G N X) 288 d 54 [some (.inr (.inl (some a0, 31, 0))), some (.inr (.inl (some a1, 2, l1))), some (.inl x2), some (.inl x3), some (.inl x4), none, none, some (.inl x7), none, none] [] M Q) :
    me_W (mt_G N X) 288 d 28 [some (.inr (.inl (some a0, 31, 0))), some (.inr (.inl (some a1, 2, l1))), some (.inl x2), some (.inl x3), some (.inl x4), none, none, some (.inl x7), none, none] [] M Q := by
  have b7 := rl_at_b (M := M) (a := a1) (e := x3) (k := x7)
  refine b288_28 (ca_I (by omega) (c_287a (by omega) ⟨by omega, by omega⟩ ⟨by omega, by omega⟩ h3) (fun y M1 _ h => ?_) nt_E_no)
  obtain ⟨rfl, rfl⟩ := h
  refine ca_I (by omega) (c_289 ⟨by omega, by omega⟩) (fun y8 M5 _ h => ?_) nt_E_no
  obtain ⟨rfl, h8⟩ := h
  refine ⟨⟨by omega, by omega⟩, fun z => IH (Or.inl (by rcases h8 with h8 | h8; exact h8.2; exact absurd h8.1 z)), fun z => ?_⟩
  have n8 : ¬ rl_isL (rl_at M5 a1 x3 x7) := by
    rcases h8 with h8 | h8
    · omega
    · exact h8.2
  refine ca_I (by omega) (c_287a (by omega) ⟨by omega, by omega⟩ ⟨by omega, by omega⟩ h3) (fun y M1 _ h => ?_) nt_E_no
  obtain ⟨rfl, rfl⟩ := h
  refine ca_I (by omega) (c_290 ⟨by omega, by omega⟩) (fun y8 M5 _ h => ?_) nt_E_no
  obtain ⟨rfl, h9⟩ := h
  refine ⟨⟨by omega, by omega⟩, fun z => ?_, fun z => IH (Or.inr (by rcases h9 with h9 | h9; exact h9.2; exact absurd h9.1 z))⟩
  have n9 : ¬ rl_isD (rl_at M5 a1 x3 x7) := by
    rcases h9 with h9 | h9
    · omega
    · exact h9.2
  have hends : rl_ends (rl_at M5 a1 x3) rl_LD x2 x7 := ⟨hk, hi, fun q => q.elim n8 n9⟩
  refine ca_I (by omega) (c_291 (by omega) h0 (by omega) (by omega) ⟨by omega, by omega⟩) (fun y20 M17 _ h => ?_) nt_E_no
  obtain ⟨rfl, h20⟩ := h
  have hw : ∀ w, rl_is M17 a1 x2 (x7 - x2) w ↔ rl_isT (rl_at M17 a1 x3) x2 (x7 - x2) w := by
    intro w
    refine and_congr Iff.rfl (forall_congr' fun j => imp_congr_right fun hj => ?_)
    have e1 : rl_at M17 a1 x3 (x2 + j) = me_i M17 a1 (x2 + (j : Int)).toNat % 256 := by
      unfold rl_at
      rw [if_pos (by omega)]
    have e2 := hb (x2 + (j : Int)).toNat
    have e3 := wo_c_b (wb w + j)
    rw [e1]
    omega
  have hco : rl_code (rl_at M17 a1 x3) x2 (x7 - x2) y20 := by
    rcases h20 with ⟨w, e, q1, q2, q3⟩ | ⟨e, q⟩
    · exact Or.inl ⟨w, e, q1, (hw w).mp q2, fun v hv => fun z => q3 v hv ((hw v).mpr z)⟩
    · exact Or.inr ⟨e, fun v hv => fun z => q v hv ((hw v).mpr z)⟩
  have hr20 : -1 ≤ y20 ∧ y20 < 17 := by
    rcases h20 with ⟨w, e, q1, q2, q3⟩ | ⟨e, q⟩ <;> omega
  refine ⟨⟨by omega, by omega⟩, fun z => ⟨⟨by omega, by omega⟩, ⟨by omega, by omega⟩, fun q => ?_, fun q => ?_⟩, fun z => ?_⟩
  · exact b288_94 (H _ _ _ fun r => Or.inl ⟨hL, hends, hco, by rw [if_neg (by omega), if_neg (by omega)]⟩)
  · exact b288_94 (H _ _ _ fun r => Or.inl ⟨hL, hends, hco, by rw [if_neg (by omega), if_pos (by omega)]⟩)
  · exact b288_94 (H _ _ _ fun r => Or.inl ⟨hL, hends, hco, by rw [if_pos (by omega)]⟩)
theorem one_28 (hd : 6 ≤ d) (h0 : 0 ≤ x2) (h3 : x3 ≤ (l1 : Int)) (h4 : l1 ≤ 134217728) (hL : rl_isL (rl_at M a1 x3 x2)) (hb : ∀ j, -128 ≤ me_i M a1 j ∧ me_i M a1 j ≤ 127)
    (H : ∀ (x7 x8 x9 : Int), (∀ r, rl_tok (rl_at M a1 x3) r x2 x8 x9 x7) → me_W (mt_G N X) 288 d 296 [some (.inr (.inl (some a0, 31, 0))), none, some (.inl x2), none, some (.inl x4), none, none, some (.inl x7), some (.inl x8), some (.inl x9)] [] M Q) :
    ∀ (m : Nat) (x7 : Int), x2 < x7 → x7 ≤ x3 → x3 - x7 ≤ m → (∀ i, x2 < i → i < x7 → rl_LD (rl_at M a1 x3 i)) → me_W (mt_G N X) 288 d 28 [some (.inr (.inl (some a0, 31, 0))), some (.inr (.inl (some a1, 2, l1))), some (.inl x2), some (.inl x3), some (.inl x4), none, none, some (.inl x7), none, none] [] M Q := by
  have hin : ∀ x7, rl_LD (rl_at M a1 x3 x7) → x7 < x3 := fun x7 z => by
    rcases Int.lt_or_le x7 x3 with c | c
    · exact c
    · have e : rl_at M a1 x3 x7 = -1 := by
        unfold rl_at
        rw [if_neg (by omega)]
      rw [e] at z
      unfold rl_LD rl_isL rl_isD at z
      omega
  intro m
  induction m with
  | zero =>
    intro x7 k1 k2 k3 k4
    exact one_28s hd h0 h3 h4 hL hb k1 k2 k4 H fun z => by have := hin x7 z; omega
  | succ m ih =>
    intro x7 k1 k2 k3 k4
    refine one_28s hd h0 h3 h4 hL hb k1 k2 k4 H fun z => b288_54 (ih (x7 + 1) (by omega) (by have := hin x7 z; omega) (by omega) fun i i1 i2 => ?_)
    rcases Int.lt_or_le i x7 with c | c
    · exact k4 i i1 c
    · have e : i = x7 := by omega
      rw [e]
      exact z
theorem one_107 (hd : 6 ≤ d) (h0 : 0 ≤ x2) (h3 : x3 ≤ (l1 : Int)) (h4 : l1 ≤ 134217728) (hD : rl_isD (rl_at M a1 x3 x2))
    (H : ∀ (x7 x8 x9 : Int), (∀ r, rl_tok (rl_at M a1 x3) r x2 x8 x9 x7) → me_W (mt_G N X) 288 d 296 [some (.inr (.inl (some a0, 31, 0))), none, some (.inl x2), none, some (.inl x4), none, none, some (.inl x7), some (.inl x8), some (.inl x9)] [] M Q) :
    ∀ (m : Nat) (x7 : Int), x2 < x7 → x7 ≤ x3 → x3 - x7 ≤ m → (∀ i, x2 < i → i < x7 → rl_isD (rl_at M a1 x3 i)) → me_W (mt_G N X) 288 d 107 [some (.inr (.inl (some a0, 31, 0))), some (.inr (.inl (some a1, 2, l1))), some (.inl x2), some (.inl x3), some (.inl x4), none, none, some (.inl x7), none, some (.inl (rl_at M a1 x3 x2))] [] M Q := by
  intro m
  induction m with
  | zero =>
    intro x7 k1 k2 k3 k4
    have b7 := rl_at_b (M := M) (a := a1) (e := x3) (k := x7)
    refine b288_107 (ca_I (by omega) (c_287a (by omega) ⟨by omega, by omega⟩ ⟨by omega, by omega⟩ h3) (fun y M1 _ h => ?_) nt_E_no)
    obtain ⟨rfl, rfl⟩ := h
    have e : rl_at M1 a1 x3 x7 = -1 := by
      unfold rl_at
      rw [if_neg (by omega)]
    rw [e]
    refine ca_I (by omega) (c_290 ⟨by omega, by omega⟩) (fun y8 M5 _ h => ?_) nt_E_no
    obtain ⟨rfl, h9⟩ := h
    have n9 : ¬ rl_isD (-1) := by
      unfold rl_isD
      omega
    have e8 : y8 = 0 := by
      rcases h9 with h9 | h9
      · exact absurd h9.2 n9
      · exact h9.1
    have hends : rl_ends (rl_at M5 a1 x3) rl_isD x2 x7 := ⟨k1, k4, by rw [e]; exact n9⟩
    refine ⟨⟨by omega, by omega⟩, fun _ => ⟨⟨by omega, by omega⟩, ⟨by omega, by omega⟩, fun q => ?_, fun q => ?_⟩, fun z => absurd e8 z⟩
    · exact b288_140 (H _ _ _ fun r => Or.inr (Or.inl ⟨hD, hends, rfl, by rw [if_neg (by omega)]⟩))
    · exact b288_140 (H _ _ _ fun r => Or.inr (Or.inl ⟨hD, hends, rfl, by rw [if_pos (by omega)]⟩))
  | succ m ih =>
    intro x7 k1 k2 k3 k4
    have b7 := rl_at_b (M := M) (a := a1) (e := x3) (k := x7)
    refine b288_107 (ca_I (by omega) (c_287a (by omega) ⟨by omega, by omega⟩ ⟨by omega, by omega⟩ h3) (fun y M1 _ h => ?_) nt_E_no)
    obtain ⟨rfl, rfl⟩ := h
    refine ca_I (by omega) (c_290 ⟨by omega, by omega⟩) (fun y8 M5 _ h => ?_) nt_E_no
    obtain ⟨rfl, h9⟩ := h
    refine ⟨⟨by omega, by omega⟩, fun z => ?_, fun z => ?_⟩
    · have n9 : ¬ rl_isD (rl_at M5 a1 x3 x7) := by
        rcases h9 with h9 | h9
        · omega
        · exact h9.2
      have hends : rl_ends (rl_at M5 a1 x3) rl_isD x2 x7 := ⟨k1, k4, n9⟩
      refine ⟨⟨by omega, by omega⟩, ⟨by omega, by omega⟩, fun q => ?_, fun q => ?_⟩
      · exact b288_140 (H _ _ _ fun r => Or.inr (Or.inl ⟨hD, hends, rfl, by rw [if_neg (by omega)]⟩))
      · exact b288_140 (H _ _ _ fun r => Or.inr (Or.inl ⟨hD, hends, rfl, by rw [if_pos (by omega)]⟩))
    · have z9 : rl_isD (rl_at M5 a1 x3 x7) := by
        rcases h9 with h9 | h9
        · exact h9.2
        · exact absurd h9.1 z
      have hlt : x7 < x3 := by
        rcases Int.lt_or_le x7 x3 with c | c
        · exact c
        · have e : rl_at M5 a1 x3 x7 = -1 := by
            unfold rl_at
            rw [if_neg (by omega)]
          rw [e] at z9
          unfold rl_isD at z9
          omega
      refine ih (x7 + 1) (by omega) (by omega) (by omega) fun i i1 i2 => ?_
      rcases Int.lt_or_le i x7 with c | c
      · exact k4 i i1 c
      · have e : i = x7 := by omega
        rw [e]
        exact z9
end ONE
end
section
/-! the reference's Tokens.one: its contract -/
/-- a token more: a0 the tokens, n how many there were -/
def tk_put (M : me_M) (a0 n : Nat) (so co k sz f : Int) : me_M := me_sI (me_sI (me_sI (me_sI (me_sI (me_sI M (a0 + 1) n (Int32.ofInt so)) (a0 + 2) n (Int32.ofInt co)) (a0 + 3) n (Int32.ofInt k)) (a0 + 4) n (Int32.ofInt sz)) (a0 + 5) n (Int32.ofInt f)) a0 5 (Int32.ofInt ((n : Int) + 1))
section ONE2
variable {N : Nat} {X : Nat → Int32} {d a0 a1 l1 : Nat} {x2 x3 x4 x5 : Int} {M : me_M} {Q : me_Q}
theorem one_296 {x7 x8 x9 : Int} (n : Nat) (hn : me_i M a0 5 = n) (hc : n < 2408) (hQ : Q (.inr (some (.inl x7))) (tk_put M a0 n x8 x9 x2 (x7 - x2) x4)) : me_W (mt_G N X) 288 d 296 [some (.inr (.inl (some a0, 31, 0))), none, some (.inl x2), none, some (.inl x4), none, none, some (.inl x7), some (.inl x8), some (.inl x9)] [] M Q := by
  refine b288_296 ⟨by omega, by omega, ?_⟩
  intro M1
  have e1 : me_i M1 a0 5 = n := by
    show me_i (me_sI _ _ _ _) _ _ = _
    rw [me_i_sI, if_neg (by omega), hn]
  refine ⟨by omega, by omega, ?_⟩
  intro M2
  have e2 : me_i M2 a0 5 = n := by
    show me_i (me_sI _ _ _ _) _ _ = _
    rw [me_i_sI, if_neg (by omega), e1]
  refine ⟨by omega, by omega, ?_⟩
  intro M3
  have e3 : me_i M3 a0 5 = n := by
    show me_i (me_sI _ _ _ _) _ _ = _
    rw [me_i_sI, if_neg (by omega), e2]
  refine ⟨by omega, by omega, ?_⟩
  intro M4
  have e4 : me_i M4 a0 5 = n := by
    show me_i (me_sI _ _ _ _) _ _ = _
    rw [me_i_sI, if_neg (by omega), e3]
  refine ⟨by omega, by omega, ?_⟩
  intro M5
  have e5 : me_i M5 a0 5 = n := by
    show me_i (me_sI _ _ _ _) _ _ = _
    rw [me_i_sI, if_neg (by omega), e4]
  intro M6
  have e : M6 = tk_put M a0 n x8 x9 x2 (x7 - x2) x4 := by
    show me_sI (me_sI M4 _ _ _) _ _ _ = _
    rw [e5, e4]
    show me_sI (me_sI (me_sI M3 _ _ _) _ _ _) _ _ _ = _
    rw [e3]
    show me_sI (me_sI (me_sI (me_sI M2 _ _ _) _ _ _) _ _ _) _ _ _ = _
    rw [e2]
    show me_sI (me_sI (me_sI (me_sI (me_sI M1 _ _ _) _ _ _) _ _ _) _ _ _) _ _ _ = _
    rw [e1]
    show me_sI (me_sI (me_sI (me_sI (me_sI (me_sI M _ _ _) _ _ _) _ _ _) _ _ _) _ _ _) _ _ _ = _
    rw [hn]
    rfl
  rw [e]
  exact hQ
/-- one: the token at k is put behind the others; its end comes back -/
theorem c_288 (hd : 7 ≤ d) (h0 : 0 ≤ x2) (h2 : x2 < x3) (h3 : x3 ≤ (l1 : Int)) (h5 : me_r x5) (n : Nat) (hn : me_i M a0 5 = n) (hc : n < 2408) : me_W (mt_G N X) 288 d 0 [some (.inr (.inl (some a0, 31, 0))), some (.inr (.inl (some a1, 2, l1))), some (.inl x2), some (.inl x3), some (.inl x4), some (.inl x5), none, none, none, none] [] M (sx_qI (fun y M' => ∃ so co, rl_tok (rl_at M a1 x3) x5 x2 so co y ∧ M' = tk_put M a0 n so co x2 (y - x2) x4) nt_E) := by
  refine me_W.known fun kn => ?_
  have ka := kn.loc (i := 1) rfl
  have h4 : l1 ≤ 134217728 := kn.len ka
  have hb := kn.byte ka rfl
  clear kn ka
  have b7 := rl_at_b (M := M) (a := a1) (e := x3) (k := x2)
  have b8 := rl_at_b (M := M) (a := a1) (e := x3) (k := x2 + 1)
  have HQ : ∀ (x7 x8 x9 : Int), rl_tok (rl_at M a1 x3) x5 x2 x8 x9 x7 → me_W (mt_G N X) 288 d 296 [some (.inr (.inl (some a0, 31, 0))), none, some (.inl x2), none, some (.inl x4), none, none, some (.inl x7), some (.inl x8), some (.inl x9)] [] M (sx_qI (fun y M' => ∃ so co, rl_tok (rl_at M a1 x3) x5 x2 so co y ∧ M' = tk_put M a0 n so co x2 (y - x2) x4) nt_E) := fun x7 x8 x9 h => one_296 n hn hc ⟨x8, x9, h, rfl⟩
  refine b288_0 (ca_I (by omega) (c_287a h0 ⟨by omega, by omega⟩ ⟨by omega, by omega⟩ h3) (fun y M1 _ h => ?_) nt_E_no)
  obtain ⟨rfl, rfl⟩ := h
  refine ca_I (by omega) (c_289 ⟨by omega, by omega⟩) (fun y8 M5 _ h => ?_) nt_E_no
  obtain ⟨rfl, h8⟩ := h
  refine ⟨⟨by omega, by omega⟩, fun z8 => ?_, fun z8 => ?_⟩
  rotate_left
  · have hL : rl_isL (rl_at M5 a1 x3 x2) := by
      rcases h8 with h8 | h8
      · exact h8.2
      · exact absurd h8.1 z8
    exact one_28 (by omega) h0 h3 h4 hL hb (fun x7 x8 x9 h => HQ _ _ _ (h x5)) (x3 - x2).toNat (x2 + 1) (by omega) (by omega) (by omega) fun i i1 i2 => by omega
  have nL : ¬ rl_isL (rl_at M5 a1 x3 x2) := by
    rcases h8 with h8 | h8
    · omega
    · exact h8.2
  refine ca_I (by omega) (c_290 ⟨by omega, by omega⟩) (fun y12 M9 _ h => ?_) nt_E_no
  obtain ⟨rfl, h12⟩ := h
  refine ⟨⟨by omega, by omega⟩, fun z12 => ?_, fun z12 => ?_⟩
  rotate_left
  · have hD : rl_isD (rl_at M9 a1 x3 x2) := by
      rcases h12 with h12 | h12
      · exact h12.2
      · exact absurd h12.1 z12
    exact one_107 (by omega) h0 h3 h4 hD (fun x7 x8 x9 h => HQ _ _ _ (h x5)) (x3 - x2).toNat (x2 + 1) (by omega) (by omega) (by omega) fun i i1 i2 => by omega
  have nD : ¬ rl_isD (rl_at M9 a1 x3 x2) := by
    rcases h12 with h12 | h12
    · omega
    · exact h12.2
  generalize hQ9 : (sx_qI (fun y M' => ∃ so co, rl_tok (rl_at M9 a1 x3) x5 x2 so co y ∧ M' = tk_put M9 a0 n so co x2 (y - x2) x4) nt_E) = Q9 at *
  have K252 : ¬ (¬ x5 = 0 ∧ rl_at M9 a1 x3 x2 = 36 ∧ 97 ≤ rl_at M9 a1 x3 (x2 + 1) ∧ rl_at M9 a1 x3 (x2 + 1) ≤ 122) → ¬ (¬ x5 = 0 ∧ rl_at M9 a1 x3 x2 = 58) → ¬ (¬ x5 = 0 ∧ rl_at M9 a1 x3 x2 = 45 ∧ rl_at M9 a1 x3 (x2 + 1) = 62) → me_W (mt_G N X) 288 d 252 [some (.inr (.inl (some a0, 31, 0))), some (.inr (.inl (some a1, 2, l1))), some (.inl x2), some (.inl x3), some (.inl x4), none, some (.inl (rl_at M9 a1 x3 x2)), some (.inl (x2 + 1)), none, none] [] M9 Q9 := fun n1 n2 n3 => by
    refine b288_252 (ca_I (by omega) (c_287a (by omega) ⟨by omega, by omega⟩ ⟨by omega, by omega⟩ h3) (fun y M1 _ h => ?_) nt_E_no)
    obtain ⟨rfl, rfl⟩ := h
    refine ca_I (by omega) (c_292 ⟨by omega, by omega⟩ ⟨by omega, by omega⟩) (fun y8 M5 _ h => ?_) nt_E_no
    obtain ⟨rfl, h⟩ := h
    have hs : -1 ≤ y8 ∧ y8 ≤ 305 := by
      rw [h]
      unfold rl_sign
      repeat' split
      all_goals omega
    refine ⟨⟨by omega, by omega⟩, fun z => ?_, fun z => ?_⟩
    · refine b288_276 ⟨⟨by omega, by omega⟩, ⟨by omega, by omega⟩, fun q => b288_293 (HQ _ _ _ ?_), fun q => b288_293 (HQ _ _ _ ?_)⟩
      · exact Or.inr (Or.inr ⟨nL, nD, Or.inr ⟨n1, Or.inr ⟨n2, Or.inr ⟨n3, h, by rw [if_neg (by omega)], by rw [if_neg (by omega)]⟩⟩⟩⟩)
      · exact Or.inr (Or.inr ⟨nL, nD, Or.inr ⟨n1, Or.inr ⟨n2, Or.inr ⟨n3, h, by rw [if_neg (by omega)], by rw [if_pos (by omega)]⟩⟩⟩⟩)
    · refine b288_276 ⟨⟨by omega, by omega⟩, ⟨by omega, by omega⟩, fun q => b288_293 (HQ _ _ _ ?_), fun q => by omega⟩
      exact Or.inr (Or.inr ⟨nL, nD, Or.inr ⟨n1, Or.inr ⟨n2, Or.inr ⟨n3, h, by rw [if_pos (by omega)], by rw [if_neg (by omega)]⟩⟩⟩⟩)
  have K199 : ¬ (¬ x5 = 0 ∧ rl_at M9 a1 x3 x2 = 36 ∧ 97 ≤ rl_at M9 a1 x3 (x2 + 1) ∧ rl_at M9 a1 x3 (x2 + 1) ≤ 122) → me_W (mt_G N X) 288 d 199 [some (.inr (.inl (some a0, 31, 0))), some (.inr (.inl (some a1, 2, l1))), some (.inl x2), some (.inl x3), some (.inl x4), some (.inl x5), some (.inl (rl_at M9 a1 x3 x2)), some (.inl (x2 + 1)), some (.inl 4), some (.inl (rl_at M9 a1 x3 x2))] [] M9 Q9 := fun n1 => by
    have K217 : ¬ (¬ x5 = 0 ∧ rl_at M9 a1 x3 x2 = 58) → me_W (mt_G N X) 288 d 217 [some (.inr (.inl (some a0, 31, 0))), some (.inr (.inl (some a1, 2, l1))), some (.inl x2), some (.inl x3), some (.inl x4), some (.inl x5), some (.inl (rl_at M9 a1 x3 x2)), some (.inl (x2 + 1)), some (.inl 4), none] [] M9 Q9 := fun n2 => by
      refine b288_217 ⟨h5, fun q => K252 n1 n2 (fun z => z.1 q), fun q => ⟨⟨by omega, by omega⟩, ⟨by omega, by omega⟩, fun q2 => K252 n1 n2 (fun z => q2 z.2.1), fun q2 => ?_⟩⟩
      refine ca_I (by omega) (c_287a (by omega) ⟨by omega, by omega⟩ ⟨by omega, by omega⟩ h3) (fun y M1 _ h => ?_) nt_E_no
      obtain ⟨rfl, rfl⟩ := h
      refine ⟨⟨by omega, by omega⟩, ⟨by omega, by omega⟩, fun q3 => K252 n1 n2 (fun z => q3 z.2.2), fun q3 => HQ _ _ _ ?_⟩
      exact Or.inr (Or.inr ⟨nL, nD, Or.inr ⟨n1, Or.inr ⟨n2, Or.inl ⟨⟨q, q2, q3⟩, rfl, rfl, by omega⟩⟩⟩⟩)
    refine b288_199 ⟨h5, fun q => K217 (fun z => z.1 q), fun q => ⟨⟨by omega, by omega⟩, ⟨by omega, by omega⟩, fun q2 => K217 (fun z => q2 z.2), fun q2 => HQ _ _ _ ?_⟩⟩
    exact Or.inr (Or.inr ⟨nL, nD, Or.inr ⟨n1, Or.inl ⟨⟨q, q2⟩, rfl, q2, rfl⟩⟩⟩)
  refine ⟨h5, fun q => K199 (fun z => z.1 q), fun q => ⟨⟨by omega, by omega⟩, ⟨by omega, by omega⟩, fun q2 => K199 (fun z => q2 z.2.1), fun q2 => ?_⟩⟩
  refine ca_I (by omega) (c_287a (by omega) ⟨by omega, by omega⟩ ⟨by omega, by omega⟩ h3) (fun y M1 _ h => ?_) nt_E_no
  obtain ⟨rfl, rfl⟩ := h
  refine ⟨⟨by omega, by omega⟩, ⟨by omega, by omega⟩, fun q3 => K199 (fun z => by omega), fun q3 => ?_⟩
  refine ca_I (by omega) (c_287a (by omega) ⟨by omega, by omega⟩ ⟨by omega, by omega⟩ h3) (fun y M1 _ h => ?_) nt_E_no
  obtain ⟨rfl, rfl⟩ := h
  refine ⟨⟨by omega, by omega⟩, ⟨by omega, by omega⟩, fun q4 => K199 (fun z => by omega), fun q4 => ?_⟩
  refine ca_I (by omega) (c_287a (by omega) ⟨by omega, by omega⟩ ⟨by omega, by omega⟩ h3) (fun y M1 _ h => ?_) nt_E_no
  obtain ⟨rfl, rfl⟩ := h
  exact HQ _ _ _ (Or.inr (Or.inr ⟨nL, nD, Or.inl ⟨⟨q, q2, q3, q4⟩, rfl, rfl, by omega⟩⟩))
end ONE2
end
section
/-! the reference's Tokens.cut: all tokens of a text -/
/-- from k on behind blanks and remarks; true: within a remark -/
def rl_sk (T : Int → Int) : Nat → Bool → Int → Int
  | 0, _, k => k
  | n + 1, true, k => if T k = 10 then rl_sk T n false (k + 1) else rl_sk T n true (k + 1)
  | n + 1, false, k => if T k = 9 ∨ T k = 10 ∨ T k = 13 ∨ T k = 32 then rl_sk T n false (k + 1) else if T k = 47 ∧ T (k + 1) = 47 then rl_sk T n true (k + 1) else k
def rl_K (T : Int → Int) (e k : Int) : Int := rl_sk T (e - k).toNat false k
def rl_R (T : Int → Int) (e k : Int) : Int := rl_sk T (e - k).toNat true k
section SK
variable {T : Int → Int} {e k : Int}
theorem rl_fu (h : k < e) : (e - k).toNat = (e - (k + 1)).toNat + 1 := by omega
theorem rl_K_e : rl_K T e e = e := by
  unfold rl_K
  rw [show (e - e).toNat = 0 by omega]
  rfl
theorem rl_R_e : rl_R T e e = e := by
  unfold rl_R
  rw [show (e - e).toNat = 0 by omega]
  rfl
theorem rl_K_b (h : k < e) (hb : T k = 9 ∨ T k = 10 ∨ T k = 13 ∨ T k = 32) : rl_K T e k = rl_K T e (k + 1) := by
  unfold rl_K
  rw [rl_fu h, rl_sk, if_pos hb]
theorem rl_K_r (h : k < e) (h1 : T k = 47) (h2 : T (k + 1) = 47) : rl_K T e k = rl_R T e k := by
  unfold rl_K rl_R
  rw [rl_fu h, rl_sk, rl_sk, if_neg (by omega), if_pos ⟨h1, h2⟩, if_neg (by omega)]
theorem rl_R_n (h : k < e) (h1 : T k = 10) : rl_R T e k = rl_K T e k := by
  unfold rl_K rl_R
  rw [rl_fu h, rl_sk, rl_sk, if_pos h1, if_pos (by omega)]
theorem rl_R_s (h : k < e) (h1 : ¬ T k = 10) : rl_R T e k = rl_R T e (k + 1) := by
  unfold rl_R
  rw [rl_fu h, rl_sk, if_neg h1]
theorem rl_K_t (h : k < e) (h1 : ¬ (T k = 9 ∨ T k = 10 ∨ T k = 13 ∨ T k = 32)) (h2 : ¬ (T k = 47 ∧ T (k + 1) = 47)) : rl_K T e k = k := by
  unfold rl_K
  rw [rl_fu h, rl_sk, if_neg h1, if_neg h2]
end SK
/-- the tokens from k on (sort, code, where it begins, where it ends), and where the next would begin -/
def rl_toks (T : Int → Int) (e r : Int) : Int → List (Int × Int × Int × Int) → Int → Prop
  | k, [], p => p = rl_K T e k
  | k, t :: l, p => rl_K T e k = t.2.2.1 ∧ t.2.2.1 < e ∧ rl_tok T r t.2.2.1 t.1 t.2.1 t.2.2.2 ∧ rl_toks T e r t.2.2.2 l p
theorem rl_toks_K {T : Int → Int} {e r k k' p : Int} {l : List (Int × Int × Int × Int)} (hk : rl_K T e k = rl_K T e k') (h : rl_toks T e r k l p) : rl_toks T e r k' l p := by
  cases l with
  | nil =>
    unfold rl_toks at h ⊢
    rw [h, hk]
  | cons t l =>
    unfold rl_toks at h ⊢
    rw [← hk]
    exact h
/-- a token ends within the text -/
theorem rl_tok_n {T : Int → Int} {e r k so co n : Int} (hT : ∀ i, e ≤ i → T i = -1) (hk : k < e) (h : rl_tok T r k so co n) : k < n ∧ n ≤ e := by
  have h1 : ∀ i, 0 ≤ T i → i < e := fun i z => by
    rcases Int.lt_or_le i e with c | c
    · exact c
    · rw [hT i c] at z
      omega
  rcases h with ⟨_, ⟨q1, q2, _⟩, _⟩ | ⟨_, ⟨q1, q2, _⟩, _⟩ | ⟨_, _, h⟩
  · refine ⟨q1, ?_⟩
    rcases Int.lt_or_le (k + 1) n with c | c
    · have := q2 (n - 1) (by omega) (by omega)
      have := h1 (n - 1) (by unfold rl_LD rl_isL rl_isD at this; omega)
      omega
    · omega
  · refine ⟨q1, ?_⟩
    rcases Int.lt_or_le (k + 1) n with c | c
    · have := q2 (n - 1) (by omega) (by omega)
      have := h1 (n - 1) (by unfold rl_isD at this; omega)
      omega
    · omega
  · rcases h with ⟨q, _, _, rfl⟩ | ⟨_, h⟩
    · have := h1 (k + 1) (by omega)
      omega
    rcases h with ⟨q, _, _, rfl⟩ | ⟨_, h⟩
    · omega
    rcases h with ⟨q, _, _, rfl⟩ | ⟨_, h2, h3, rfl⟩
    · have := h1 (k + 1) (by omega)
      omega
    · split
      · rename_i c
        have : 0 ≤ T (k + 1) := by
          rw [h2] at c
          unfold rl_sign at c
          repeat' split at c
          all_goals omega
        have := h1 (k + 1) this
        omega
      · omega
def tk_puts (M : me_M) (a0 n : Nat) (f : Int) : List (Int × Int × Int × Int) → me_M
  | [] => M
  | t :: l => tk_puts (tk_put M a0 n t.1 t.2.1 t.2.2.1 (t.2.2.2 - t.2.2.1) f) a0 (n + 1) f l
/-- the end of a text behind its tokens -/
def tk_end (M : me_M) (a0 n : Nat) (e f : Int) : me_M := me_sI (me_sI (me_sI (me_sI (me_sI M (a0 + 1) n (Int32.ofInt 0)) (a0 + 2) n (Int32.ofInt (-1))) (a0 + 3) n (Int32.ofInt e)) (a0 + 4) n (Int32.ofInt 0)) (a0 + 5) n (Int32.ofInt f)
theorem tk_put_i {M : me_M} {a0 n b j : Nat} {so co k sz f : Int} (hb : b < a0 ∨ a0 + 5 < b) : me_i (tk_put M a0 n so co k sz f) b j = me_i M b j := by
  unfold tk_put
  rw [me_i_sI, if_neg (by omega), me_i_sI, if_neg (by omega), me_i_sI, if_neg (by omega), me_i_sI, if_neg (by omega), me_i_sI, if_neg (by omega), me_i_sI, if_neg (by omega)]
theorem tk_put_c {M : me_M} {a0 n : Nat} {so co k sz f : Int} (hn : n < 2147483647) : me_i (tk_put M a0 n so co k sz f) a0 5 = (n + 1 : Nat) := by
  unfold tk_put
  rw [me_i_sI, if_pos ⟨rfl, rfl⟩, me_to ⟨by omega, by omega⟩]
  omega
theorem tk_put_at {M : me_M} {a0 n b : Nat} {e so co k sz f : Int} (hb : b < a0 ∨ a0 + 5 < b) : rl_at (tk_put M a0 n so co k sz f) b e = rl_at M b e := by
  funext i
  unfold rl_at
  rw [tk_put_i hb]
theorem rl_at_e {M : me_M} {b : Nat} {e : Int} : ∀ i, e ≤ i → rl_at M b e i = -1 := fun i h => by
  unfold rl_at
  rw [if_neg (by omega)]
end
section
/-! the reference's Tokens.cut: its contract -/
/-- the tokens of a text from k on; c: how many there were, most: of the file, beyond which none is cut -/
def rl_cutQ (M : me_M) (a0 a1 c : Nat) (e f r most k : Int) : me_M → Prop := fun M' => ∃ l p, rl_toks (rl_at M a1 e) e r k l p ∧ (l.length : Int) ≤ most ∧ (p = e ∨ (l.length : Int) = most) ∧ M' = tk_end (tk_puts M a0 c f l) a0 (c + l.length) e f
section CUT
variable {N : Nat} {X : Nat → Int32} {d a0 a1 l1 : Nat} {x2 x3 x4 x5 x6 : Int}
theorem cut_end {M : me_M} {Q : me_Q} (n : Nat) (hn : me_i M a0 5 = n) (hc : n < 2408) (hQ : Q (.inr none) (tk_end M a0 n x2 x3)) : 0 ≤ me_i M a0 5 ∧ me_i M a0 5 < ((2408 : Nat) : Int) ∧ let M1 : me_M := me_sI M (a0 + 1) (me_i M a0 5).toNat (Int32.ofInt 0); 0 ≤ me_i M1 a0 5 ∧ me_i M1 a0 5 < ((2408 : Nat) : Int) ∧ let M2 : me_M := me_sI M1 (a0 + 2) (me_i M1 a0 5).toNat (Int32.ofInt (-1)); 0 ≤ me_i M2 a0 5 ∧ me_i M2 a0 5 < ((2408 : Nat) : Int) ∧ let M3 : me_M := me_sI M2 (a0 + 3) (me_i M2 a0 5).toNat (Int32.ofInt x2); 0 ≤ me_i M3 a0 5 ∧ me_i M3 a0 5 < ((2408 : Nat) : Int) ∧ let M4 : me_M := me_sI M3 (a0 + 4) (me_i M3 a0 5).toNat (Int32.ofInt 0); 0 ≤ me_i M4 a0 5 ∧ me_i M4 a0 5 < ((2408 : Nat) : Int) ∧ let M5 : me_M := me_sI M4 (a0 + 5) (me_i M4 a0 5).toNat (Int32.ofInt x3); Q (.inr none) M5 := by
  refine ⟨by omega, by omega, ?_⟩
  intro M1
  have e1 : me_i M1 a0 5 = n := by
    show me_i (me_sI _ _ _ _) _ _ = _
    rw [me_i_sI, if_neg (by omega), hn]
  refine ⟨by omega, by omega, ?_⟩
  intro M2
  have e2 : me_i M2 a0 5 = n := by
    show me_i (me_sI _ _ _ _) _ _ = _
    rw [me_i_sI, if_neg (by omega), e1]
  refine ⟨by omega, by omega, ?_⟩
  intro M3
  have e3 : me_i M3 a0 5 = n := by
    show me_i (me_sI _ _ _ _) _ _ = _
    rw [me_i_sI, if_neg (by omega), e2]
  refine ⟨by omega, by omega, ?_⟩
  intro M4
  have e4 : me_i M4 a0 5 = n := by
    show me_i (me_sI _ _ _ _) _ _ = _
    rw [me_i_sI, if_neg (by omega), e3]
  refine ⟨by omega, by omega, ?_⟩
  intro M5
  have e : M5 = tk_end M a0 n x2 x3 := by
    show me_sI M4 _ _ _ = _
    rw [e4]
    show me_sI (me_sI M3 _ _ _) _ _ _ = _
    rw [e3]
    show me_sI (me_sI (me_sI M2 _ _ _) _ _ _) _ _ _ = _
    rw [e2]
    show me_sI (me_sI (me_sI (me_sI M1 _ _ _) _ _ _) _ _ _) _ _ _ = _
    rw [e1]
    show me_sI (me_sI (me_sI (me_sI (me_sI M _ _ _) _ _ _) _ _ _) _ _ _) _ _ _ = _
    rw [hn]
    rfl
  rw [e]
  exact hQ
theorem cut_88 {M : me_M} {Q : me_Q} (h1 : x2 ≤ (l1 : Int)) (h4 : l1 ≤ 134217728) : ∀ (m : Nat) (x7 : Int), 0 ≤ x7 → x7 ≤ x2 → x2 - x7 ≤ m →
    (∀ y, x7 ≤ y → y ≤ x2 → rl_R (rl_at M a1 x2) x2 x7 = rl_K (rl_at M a1 x2) x2 y → me_W (mt_G N X) 286 d 9 [some (.inr (.inl (some a0, 31, 0))), some (.inr (.inl (some a1, 2, l1))), some (.inl x2), some (.inl x3), some (.inl x4), some (.inl x5), some (.inl x6), some (.inl y), none] [] M Q) →
    me_W (mt_G N X) 286 d 88 [some (.inr (.inl (some a0, 31, 0))), some (.inr (.inl (some a1, 2, l1))), some (.inl x2), some (.inl x3), some (.inl x4), some (.inl x5), some (.inl x6), some (.inl x7), none] [] M Q := by
  intro m
  induction m with
  | zero =>
    intro x7 k1 k2 k3 H
    have e : x7 = x2 := by omega
    subst e
    exact b286_88 ⟨⟨by omega, by omega⟩, ⟨by omega, by omega⟩, fun _ => H _ (by omega) (by omega) (by rw [rl_R_e, rl_K_e]), fun q => by omega⟩
  | succ m ih =>
    intro x7 k1 k2 k3 H
    refine b286_88 ⟨⟨by omega, by omega⟩, ⟨by omega, by omega⟩, fun q => H _ (by omega) (by omega) ?_, fun q => ⟨k1, by omega, fun hb => ⟨me_i_r _ _ _, ⟨by omega, by omega⟩, fun z => H _ (by omega) (by omega) ?_, fun z => ih (x7 + 1) (by omega) (by omega) (by omega) fun y y1 y2 y3 => H y (by omega) y2 ?_⟩⟩⟩
    · rw [show x7 = x2 by omega, rl_R_e, rl_K_e]
    · refine rl_R_n q ?_
      unfold rl_at
      rw [if_pos q, z]
      rfl
    · rw [rl_R_s q, y3]
      unfold rl_at
      rw [if_pos q]
      omega
theorem rl_cutQ_K {M M' : me_M} {c : Nat} {k k' r most : Int} (hk : rl_K (rl_at M a1 x2) x2 k = rl_K (rl_at M a1 x2) x2 k') (h : rl_cutQ M a0 a1 c x2 x3 r most k M') : rl_cutQ M a0 a1 c x2 x3 r most k' M' := by
  obtain ⟨l, p, q1, q2, q3, q4⟩ := h
  exact ⟨l, p, rl_toks_K hk q1, q2, q3, q4⟩
theorem rl_cutQ_nil {M : me_M} {c : Nat} {k r most : Int} (h0 : 0 ≤ most) (h : x2 = rl_K (rl_at M a1 x2) x2 k ∨ most = 0) : rl_cutQ M a0 a1 c x2 x3 r most k (tk_end M a0 c x2 x3) := by
  refine ⟨[], rl_K (rl_at M a1 x2) x2 k, rfl, h0, ?_, rfl⟩
  rcases h with h | h
  · exact Or.inl h.symm
  · exact Or.inr h.symm
theorem rl_cutQ_cons {M M' : me_M} {c : Nat} {k r most so co y : Int} (hne : a1 < a0 ∨ a0 + 5 < a1) (hK : rl_K (rl_at M a1 x2) x2 k = k) (hk : k < x2) (ht : rl_tok (rl_at M a1 x2) r k so co y) (h : rl_cutQ (tk_put M a0 c so co k (y - k) x3) a0 a1 (c + 1) x2 x3 r (most - 1) y M') : rl_cutQ M a0 a1 c x2 x3 r most k M' := by
  obtain ⟨l, p, q1, q2, q3, q4⟩ := h
  rw [tk_put_at hne] at q1
  have hl : (((so, co, k, y) :: l).length : Int) = l.length + 1 := by
    rw [List.length_cons]
    omega
  refine ⟨(so, co, k, y) :: l, p, ⟨hK, hk, ht, q1⟩, by omega, ?_, ?_⟩
  · rcases q3 with q3 | q3
    · exact Or.inl q3
    · exact Or.inr (by omega)
  · rw [q4, List.length_cons, show c + (l.length + 1) = c + 1 + l.length by omega]
    rfl
theorem c_286w {Q : me_Q} (hd : 8 ≤ d) (h1 : x2 ≤ (l1 : Int)) (h4 : l1 ≤ 134217728) (hr : me_r x4) (hne : a1 < a0 ∨ a0 + 5 < a1) (h5 : 0 ≤ x5 ∧ x5 ≤ 600) (k4 : 0 ≤ x6) (k7 : x6 + x5 + 1 < 2408) : ∀ (m : Nat) (M : me_M) (x7 : Int) (n : Nat), (∀ j, -128 ≤ me_i M a1 j ∧ me_i M a1 j ≤ 127) → me_i M a0 5 = n → 0 ≤ x7 → x7 ≤ x2 → x2 - x7 ≤ m → x6 ≤ n → (n : Int) ≤ x6 + x5 + 1 → (∀ M', rl_cutQ M a0 a1 n x2 x3 x4 (x6 + x5 + 1 - n) x7 M' → Q (.inr none) M') → me_W (mt_G N X) 286 d 9 [some (.inr (.inl (some a0, 31, 0))), some (.inr (.inl (some a1, 2, l1))), some (.inl x2), some (.inl x3), some (.inl x4), some (.inl x5), some (.inl x6), some (.inl x7), none] [] M Q := by
  intro m
  induction m with
  | zero =>
    intro M x7 n hb hn k1 k2 k3 k5 k6 H
    refine b286_9 ⟨⟨by omega, by omega⟩, ⟨by omega, by omega⟩, fun q => cut_end n hn (by omega) (H _ (rl_cutQ_nil (by omega) (Or.inl ?_))), fun q => by omega⟩
    rw [show x7 = x2 by omega, rl_K_e]
  | succ m ih =>
    intro M x7 n hb hn k1 k2 k3 k5 k6 H
    have hrn := me_i_r M a0 5
    have bl : x7 < x2 → ∀ c, me_i M a1 x7.toNat = c → c = 9 ∨ c = 10 ∨ c = 13 ∨ c = 32 → me_W (mt_G N X) 286 d 9 [some (.inr (.inl (some a0, 31, 0))), some (.inr (.inl (some a1, 2, l1))), some (.inl x2), some (.inl x3), some (.inl x4), some (.inl x5), some (.inl x6), some (.inl (x7 + 1)), none] [] M Q := fun q c ec hc => by
      have eT : rl_at M a1 x2 x7 = me_i M a1 x7.toNat % 256 := by
        unfold rl_at
        rw [if_pos q]
      exact ih M (x7 + 1) n hb hn (by omega) (by omega) (by omega) k5 k6 fun M' h => H M' (rl_cutQ_K (rl_K_b q (by rw [eT, ec]; omega)).symm h)
    have tok : x7 < x2 → (n : Int) ≤ x6 + x5 → rl_K (rl_at M a1 x2) x2 x7 = x7 → ∃ d', d = d' + 1 ∧ me_W (mt_G N X) 288 d' 0 [some (.inr (.inl (some a0, 31, 0))), some (.inr (.inl (some a1, 2, l1))), some (.inl x7), some (.inl x2), some (.inl x3), some (.inl x4), none, none, none, none] [] M (sx_qI (fun y14 M11 => me_W (mt_G N X) 286 d 9 [some (.inr (.inl (some a0, 31, 0))), some (.inr (.inl (some a1, 2, l1))), some (.inl x2), some (.inl x3), some (.inl x4), some (.inl x5), some (.inl x6), some (.inl y14), none] [] M11 Q) (fun e M => Q (.inl e) M)) := fun q qn hK => by
      refine ca_I (by omega) (c_288 (by omega) k1 q h1 hr n hn (by omega)) (fun y M1 _ h => ?_) nt_E_no
      obtain ⟨so, co, ht, rfl⟩ := h
      obtain ⟨y1, y2⟩ := rl_tok_n rl_at_e q ht
      refine ih (tk_put M a0 n so co x7 (y - x7) x3) y (n + 1) (fun j => by rw [tk_put_i hne]; exact hb j) (tk_put_c (by omega)) (by omega) y2 (by omega) (by omega) (by omega) fun M' h => H M' (rl_cutQ_cons hne hK q ht ?_)
      rw [show x6 + x5 + 1 - (n : Int) - 1 = x6 + x5 + 1 - ((n + 1 : Nat) : Int) by omega]
      exact h
    refine b286_9 ⟨⟨by omega, by omega⟩, ⟨by omega, by omega⟩, fun q => cut_end n hn (by omega) (H _ (rl_cutQ_nil (by omega) (Or.inl ?_))), fun q => ⟨⟨by omega, by omega⟩, ⟨by omega, by omega⟩, fun q2 => cut_end n hn (by omega) (H _ (rl_cutQ_nil (by omega) (Or.inr (by omega)))), fun q2 => ⟨k1, by omega, fun hb7 => ?_⟩⟩⟩
    · rw [show x7 = x2 by omega, rl_K_e]
    have eT : rl_at M a1 x2 x7 = me_i M a1 x7.toNat % 256 := by
      unfold rl_at
      rw [if_pos q]
    refine ⟨me_i_r _ _ _, ⟨by omega, by omega⟩, fun z => bl q _ z (by omega), fun z9 => ⟨me_i_r _ _ _, ⟨by omega, by omega⟩, fun z => bl q _ z (by omega), fun z10 => ⟨me_i_r _ _ _, ⟨by omega, by omega⟩, fun z => bl q _ z (by omega), fun z13 => ⟨me_i_r _ _ _, ⟨by omega, by omega⟩, fun z32 => ⟨me_i_r _ _ _, ⟨by omega, by omega⟩, fun z47 => tok q (by omega) (rl_K_t q (by rw [eT]; omega) (by rw [eT]; omega)), fun z47 => ?_⟩, fun z => bl q _ z (by omega)⟩⟩⟩⟩
    have b8 := rl_at_b (M := M) (a := a1) (e := x2) (k := x7 + 1)
    refine ca_I (by omega) (c_287a (by omega) ⟨by omega, by omega⟩ ⟨by omega, by omega⟩ h1) (fun y M1 _ h => ?_) nt_E_no
    obtain ⟨rfl, rfl⟩ := h
    refine ⟨⟨by omega, by omega⟩, ⟨by omega, by omega⟩, fun z => tok q (by omega) (rl_K_t q (by rw [eT]; omega) (by rw [eT]; omega)), fun z => ?_⟩
    have hKR : rl_K (rl_at M1 a1 x2) x2 x7 = rl_R (rl_at M1 a1 x2) x2 (x7 + 1) := by
      rw [rl_K_r q (by rw [eT]; omega) z, rl_R_s q (by rw [eT]; omega)]
    refine b286_88 ⟨⟨by omega, by omega⟩, ⟨by omega, by omega⟩, fun z9 => by omega, fun _ => ⟨k1, by omega, fun _ => ⟨me_i_r _ _ _, ⟨by omega, by omega⟩, fun z9 => by omega, fun _ => ?_⟩⟩⟩
    exact cut_88 h1 h4 (x2 - (x7 + 1)).toNat (x7 + 1) (by omega) (by omega) (by omega) fun y y1 y2 y3 => ih M1 y n hb hn (by omega) y2 (by omega) k5 k6 fun M' h => H M' (rl_cutQ_K (hKR.trans y3).symm h)
/-- cut: all tokens of a text behind those that were there -/
theorem c_286 {M : me_M} {n : Nat} (hd : 8 ≤ d) (h0 : 0 ≤ x2) (h1 : x2 ≤ (l1 : Int)) (hr : me_r x4) (hne : a1 < a0 ∨ a0 + 5 < a1) (h5 : 0 ≤ x5 ∧ x5 ≤ 600) (hn : me_i M a0 5 = n) (k7 : (n : Int) + x5 + 1 < 2408) : me_W (mt_G N X) 286 d 0 [some (.inr (.inl (some a0, 31, 0))), some (.inr (.inl (some a1, 2, l1))), some (.inl x2), some (.inl x3), some (.inl x4), some (.inl x5), none, none, none] [] M (sx_qV (rl_cutQ M a0 a1 n x2 x3 x4 (x5 + 1) 0) nt_E) := by
  refine me_W.known fun kn => ?_
  have ka := kn.loc (i := 1) rfl
  have h4 : l1 ≤ 134217728 := kn.len ka
  have hb := kn.byte ka rfl
  refine b286_0 ?_
  rw [hn]
  refine c_286w (x6 := n) hd h1 h4 hr hne h5 (by omega) k7 x2.toNat M 0 n hb hn (by omega) h0 (by omega) (by omega) (by omega) fun M' h => ?_
  rw [show (n : Int) + x5 + 1 - n = x5 + 1 by omega] at h
  exact h
end CUT
end
section
/-! the reference's parser: instructions (30.sx.py) -/
def si_296 : List (Nat × Instr × Nat) := [(0, .aload_n 0, 1), (1, .invokevirtual 153, 3), (4, .iconst 3, 1), (5, .if_icmp .ne 23, 3), (8, .aload_n 0, 1), (9, .getfield 27, 3), (12, .getfield 166, 3), (15, .aload_n 0, 1), (16, .getfield 141, 3), (19, .iaload, 1), (20, .iload_n 1, 1), (21, .if_icmp .ne 7, 3), (24, .iconst 1, 1), (25, .goto 4, 3), (28, .iconst 0, 1), (29, .ireturn, 1)]
set_option maxRecDepth 100000 in
theorem si_ok_296 : si_296.all (si_is 296) = true := by decide +kernel
def si_297 : List (Nat × Instr × Nat) := [(0, .aload_n 0, 1), (1, .invokevirtual 153, 3), (4, .pop, 1), (5, .aload_n 0, 1), (6, .getfield 3, 3), (9, .iconst 2, 1), (10, .aload_n 0, 1), (11, .aload_n 0, 1), (12, .getfield 141, 3), (15, .invokevirtual 145, 3), (18, .invokevirtual 149, 3), (21, .return_, 1)]
set_option maxRecDepth 100000 in
theorem si_ok_297 : si_297.all (si_is 297) = true := by decide +kernel
def si_298 : List (Nat × Instr × Nat) := [(0, .aload_n 0, 1), (1, .invokevirtual 173, 3), (4, .istore_n 2, 1), (5, .aload_n 0, 1), (6, .iload_n 1, 1), (7, .aload_n 0, 1), (8, .getfield 207, 3), (11, .iadd, 1), (12, .bipush 8, 2), (14, .if_icmp .lt 7, 3), (17, .iconst 1, 1), (18, .goto 4, 3), (21, .iconst 0, 1), (22, .invokevirtual 185, 3), (25, .istore_n 3, 1), (26, .iconst (-1), 1), (27, .istore 4, 2), (29, .aload_n 0, 1), (30, .iconst 0, 1), (31, .iload_n 3, 1), (32, .iconst (-1), 1), (33, .iconst (-1), 1), (34, .iconst 0, 1), (35, .iload_n 2, 1), (36, .invokevirtual 222, 3), (39, .istore 5, 2), (41, .aload_n 0, 1), (42, .iconst 1, 1), (43, .invokevirtual 226, 3), (46, .ifCond .eq 18, 3), (49, .aload_n 0, 1), (50, .invokevirtual 229, 3), (53, .istore 4, 2), (55, .aload_n 0, 1), (56, .getfield 73, 3), (59, .iload 5, 2), (61, .iload 4, 2), (63, .iastore, 1), (64, .aload_n 0, 1), (65, .bipush 123, 2), (67, .invokevirtual 232, 3), (70, .iconst 0, 1), (71, .istore 6, 2), (73, .aload_n 0, 1), (74, .bipush 125, 2), (76, .invokevirtual 179, 3), (79, .ifCond .ne 17, 3), (82, .aload_n 0, 1), (83, .iload 5, 2), (85, .iload 6, 2), (87, .invokevirtual 235, 3), (90, .iinc 6 1, 3), (93, .goto (-20), 3), (96, .aload_n 0, 1), (97, .getfield 89, 3), (100, .iload 5, 2), (102, .aload_n 0, 1), (103, .getfield 141, 3), (106, .iconst 1, 1), (107, .isub, 1), (108, .iastore, 1), (109, .return_, 1)]
set_option maxRecDepth 100000 in
theorem si_ok_298 : si_298.all (si_is 298) = true := by decide +kernel
def si_301 : List (Nat × Instr × Nat) := [(0, .aload_n 0, 1), (1, .invokevirtual 153, 3), (4, .iconst 1, 1), (5, .if_icmp .eq 7, 3), (8, .aload_n 0, 1), (9, .invokevirtual 182, 3), (12, .iload_n 1, 1), (13, .ifCond .eq 19, 3), (16, .aload_n 0, 1), (17, .getfield 3, 3), (20, .iconst 3, 1), (21, .aload_n 0, 1), (22, .aload_n 0, 1), (23, .getfield 141, 3), (26, .invokevirtual 145, 3), (29, .invokevirtual 149, 3), (32, .aload_n 0, 1), (33, .invokevirtual 173, 3), (36, .ireturn, 1)]
set_option maxRecDepth 100000 in
theorem si_ok_301 : si_301.all (si_is 301) = true := by decide +kernel
def si_302 : List (Nat × Instr × Nat) := [(0, .aload_n 0, 1), (1, .dup, 1), (2, .getfield 201, 3), (5, .dup_x1, 1), (6, .iconst 1, 1), (7, .iadd, 1), (8, .putfield 201, 3), (11, .istore 7, 2), (13, .aload_n 0, 1), (14, .getfield 67, 3), (17, .iload 7, 2), (19, .iload_n 1, 1), (20, .iastore, 1), (21, .aload_n 0, 1), (22, .getfield 70, 3), (25, .iload 7, 2), (27, .iload_n 2, 1), (28, .iastore, 1), (29, .aload_n 0, 1), (30, .getfield 73, 3), (33, .iload 7, 2), (35, .iload_n 3, 1), (36, .iastore, 1), (37, .aload_n 0, 1), (38, .getfield 76, 3), (41, .iload 7, 2), (43, .iload 4, 2), (45, .iastore, 1), (46, .aload_n 0, 1), (47, .getfield 79, 3), (50, .iload 7, 2), (52, .iload 5, 2), (54, .bastore, 1), (55, .aload_n 0, 1), (56, .getfield 83, 3), (59, .iload 7, 2), (61, .iconst (-1), 1), (62, .iastore, 1), (63, .aload_n 0, 1), (64, .getfield 86, 3), (67, .iload 7, 2), (69, .iload 6, 2), (71, .iastore, 1), (72, .aload_n 0, 1), (73, .getfield 89, 3), (76, .iload 7, 2), (78, .iload 6, 2), (80, .iastore, 1), (81, .aload_n 0, 1), (82, .getfield 92, 3), (85, .iload 7, 2), (87, .bipush (-5), 2), (89, .iastore, 1), (90, .aload_n 0, 1), (91, .getfield 95, 3), (94, .iload 7, 2), (96, .iconst 0, 1), (97, .iastore, 1), (98, .iload 7, 2), (100, .ireturn, 1)]
set_option maxRecDepth 100000 in
theorem si_ok_302 : si_302.all (si_is 302) = true := by decide +kernel
def si_303 : List (Nat × Instr × Nat) := [(0, .aload_n 0, 1), (1, .iload_n 1, 1), (2, .invokevirtual 176, 3), (5, .ifCond .ne 5, 3), (8, .iconst 0, 1), (9, .ireturn, 1), (10, .aload_n 0, 1), (11, .invokevirtual 173, 3), (14, .pop, 1), (15, .iconst 1, 1), (16, .ireturn, 1)]
set_option maxRecDepth 100000 in
theorem si_ok_303 : si_303.all (si_is 303) = true := by decide +kernel
def si_304 : List (Nat × Instr × Nat) := [(0, .aload_n 0, 1), (1, .iconst 0, 1), (2, .invokevirtual 185, 3), (5, .ireturn, 1)]
set_option maxRecDepth 100000 in
theorem si_ok_304 : si_304.all (si_is 304) = true := by decide +kernel
def si_305 : List (Nat × Instr × Nat) := [(0, .aload_n 0, 1), (1, .iload_n 1, 1), (2, .invokevirtual 179, 3), (5, .ifCond .ne 7, 3), (8, .aload_n 0, 1), (9, .invokevirtual 182, 3), (12, .return_, 1)]
set_option maxRecDepth 100000 in
theorem si_ok_305 : si_305.all (si_is 305) = true := by decide +kernel
def si_306 : List (Nat × Instr × Nat) := [(0, .aload_n 0, 1), (1, .iload_n 1, 1), (2, .invokevirtual 169, 3), (5, .ifCond .ne 5, 3), (8, .iconst 0, 1), (9, .ireturn, 1), (10, .aload_n 0, 1), (11, .invokevirtual 173, 3), (14, .pop, 1), (15, .iconst 1, 1), (16, .ireturn, 1)]
set_option maxRecDepth 100000 in
theorem si_ok_306 : si_306.all (si_is 306) = true := by decide +kernel
def si_307 : List (Nat × Instr × Nat) := [(0, .aload_n 0, 1), (1, .invokevirtual 153, 3), (4, .iconst 4, 1), (5, .if_icmp .ne 23, 3), (8, .aload_n 0, 1), (9, .getfield 27, 3), (12, .getfield 166, 3), (15, .aload_n 0, 1), (16, .getfield 141, 3), (19, .iaload, 1), (20, .iload_n 1, 1), (21, .if_icmp .ne 7, 3), (24, .iconst 1, 1), (25, .goto 4, 3), (28, .iconst 0, 1), (29, .ireturn, 1)]
set_option maxRecDepth 100000 in
theorem si_ok_307 : si_307.all (si_is 307) = true := by decide +kernel
def si_308 : List (Nat × Instr × Nat) := [(0, .aload_n 0, 1), (1, .getfield 141, 3), (4, .istore_n 3, 1), (5, .aload_n 0, 1), (6, .iconst 2, 1), (7, .invokevirtual 226, 3), (10, .istore 4, 2), (12, .aload_n 0, 1), (13, .iconst 5, 1), (14, .invokevirtual 176, 3), (17, .istore 5, 2), (19, .iload 5, 2), (21, .ifCond .ne 14, 3), (24, .aload_n 0, 1), (25, .invokevirtual 238, 3), (28, .ifCond .ne 7, 3), (31, .aload_n 0, 1), (32, .invokevirtual 182, 3), (35, .aload_n 0, 1), (36, .invokevirtual 173, 3), (39, .istore 6, 2), (41, .aload_n 0, 1), (42, .iload_n 2, 1), (43, .bipush 24, 2), (45, .if_icmp .lt 7, 3), (48, .iconst 1, 1), (49, .goto 4, 3), (52, .iconst 0, 1), (53, .invokevirtual 185, 3), (56, .istore 7, 2), (58, .aload_n 0, 1), (59, .aload_n 0, 1), (60, .getfield 201, 3), (63, .putfield 195, 3), (66, .aload_n 0, 1), (67, .iconst 0, 1), (68, .putfield 189, 3), (71, .iload 5, 2), (73, .ifCond .ne 12, 3), (76, .aload_n 0, 1), (77, .bipush 40, 2), (79, .invokevirtual 169, 3), (82, .ifCond .eq 168, 3), (85, .aload_n 0, 1), (86, .iconst 2, 1), (87, .iload 7, 2), (89, .iload 6, 2), (91, .iload_n 1, 1), (92, .iload 4, 2), (94, .iload_n 3, 1), (95, .invokevirtual 222, 3), (98, .istore 8, 2), (100, .aload_n 0, 1), (101, .bipush 40, 2), (103, .invokevirtual 232, 3), (106, .aload_n 0, 1), (107, .bipush 41, 2), (109, .invokevirtual 179, 3), (112, .ifCond .ne 100, 3), (115, .aload_n 0, 1), (116, .invokevirtual 238, 3), (119, .ifCond .ne 7, 3), (122, .aload_n 0, 1), (123, .invokevirtual 182, 3), (126, .aload_n 0, 1), (127, .getfield 141, 3), (130, .istore 9, 2), (132, .aload_n 0, 1), (133, .invokevirtual 173, 3), (136, .istore 10, 2), (138, .aload_n 0, 1), (139, .aload_n 0, 1), (140, .getfield 95, 3), (143, .iload 8, 2), (145, .iaload, 1), (146, .bipush 8, 2), (148, .if_icmp .ne 7, 3), (151, .iconst 1, 1), (152, .goto 4, 3), (155, .iconst 0, 1), (156, .invokevirtual 185, 3), (159, .istore 11, 2), (161, .aload_n 0, 1), (162, .iconst 3, 1), (163, .iload 11, 2), (165, .iload 10, 2), (167, .iload 8, 2), (169, .iconst 0, 1), (170, .iload 9, 2), (172, .invokevirtual 222, 3), (175, .istore 12, 2), (177, .aload_n 0, 1), (178, .getfield 89, 3), (181, .iload 12, 2), (183, .iload 11, 2), (185, .iastore, 1), (186, .aload_n 0, 1), (187, .getfield 95, 3), (190, .iload 8, 2), (192, .dup2, 1), (193, .iaload, 1), (194, .iconst 1, 1), (195, .iadd, 1), (196, .iastore, 1), (197, .aload_n 0, 1), (198, .bipush 44, 2), (200, .invokevirtual 179, 3), (203, .ifCond .ne (-88), 3), (206, .aload_n 0, 1), (207, .bipush 41, 2), (209, .invokevirtual 232, 3), (212, .aload_n 0, 1), (213, .bipush 123, 2), (215, .invokevirtual 169, 3), (218, .ifCond .ne 7, 3), (221, .aload_n 0, 1), (222, .invokevirtual 182, 3), (225, .aload_n 0, 1), (226, .getfield 83, 3), (229, .iload 8, 2), (231, .aload_n 0, 1), (232, .invokevirtual 242, 3), (235, .iastore, 1), (236, .aload_n 0, 1), (237, .getfield 89, 3), (240, .iload 8, 2), (242, .aload_n 0, 1), (243, .getfield 141, 3), (246, .iconst 1, 1), (247, .isub, 1), (248, .iastore, 1), (249, .return_, 1), (250, .aload_n 0, 1), (251, .iconst 1, 1), (252, .iload 7, 2), (254, .iload 6, 2), (256, .iload_n 1, 1), (257, .iload 4, 2), (259, .iload_n 3, 1), (260, .invokevirtual 222, 3), (263, .istore 8, 2), (265, .aload_n 0, 1), (266, .bipush 61, 2), (268, .invokevirtual 179, 3), (271, .ifCond .eq 14, 3), (274, .aload_n 0, 1), (275, .getfield 83, 3), (278, .iload 8, 2), (280, .aload_n 0, 1), (281, .invokevirtual 245, 3), (284, .iastore, 1), (285, .aload_n 0, 1), (286, .bipush 59, 2), (288, .invokevirtual 232, 3), (291, .aload_n 0, 1), (292, .getfield 89, 3), (295, .iload 8, 2), (297, .aload_n 0, 1), (298, .getfield 141, 3), (301, .iconst 1, 1), (302, .isub, 1), (303, .iastore, 1), (304, .return_, 1)]
set_option maxRecDepth 100000 in
theorem si_ok_308 : si_308.all (si_is 308) = true := by decide +kernel
def si_309 : List (Nat × Instr × Nat) := [(0, .aload_n 0, 1), (1, .invokevirtual 153, 3), (4, .iconst 1, 1), (5, .if_icmp .eq 43, 3), (8, .aload_n 0, 1), (9, .invokevirtual 153, 3), (12, .iconst 3, 1), (13, .if_icmp .ne 39, 3), (16, .aload_n 0, 1), (17, .getfield 27, 3), (20, .getfield 166, 3), (23, .aload_n 0, 1), (24, .getfield 141, 3), (27, .iaload, 1), (28, .iconst 3, 1), (29, .if_icmp .eq 19, 3), (32, .aload_n 0, 1), (33, .getfield 27, 3), (36, .getfield 166, 3), (39, .aload_n 0, 1), (40, .getfield 141, 3), (43, .iaload, 1), (44, .iconst 4, 1), (45, .if_icmp .ne 7, 3), (48, .iconst 1, 1), (49, .goto 4, 3), (52, .iconst 0, 1), (53, .ireturn, 1)]
set_option maxRecDepth 100000 in
theorem si_ok_309 : si_309.all (si_is 309) = true := by decide +kernel
def si_310 : List (Nat × Instr × Nat) := [(0, .aload_n 0, 1), (1, .getfield 141, 3), (4, .istore_n 1, 1), (5, .aload_n 0, 1), (6, .bipush 123, 2), (8, .invokevirtual 232, 3), (11, .aload_n 0, 1), (12, .invokevirtual 248, 3), (15, .iconst (-1), 1), (16, .istore_n 2, 1), (17, .iconst (-1), 1), (18, .istore_n 3, 1), (19, .aload_n 0, 1), (20, .bipush 125, 2), (22, .invokevirtual 169, 3), (25, .ifCond .ne 33, 3), (28, .aload_n 0, 1), (29, .invokevirtual 251, 3), (32, .istore 4, 2), (34, .iload_n 3, 1), (35, .ifCond .ge 9, 3), (38, .iload 4, 2), (40, .istore_n 2, 1), (41, .goto 11, 3), (44, .aload_n 0, 1), (45, .getfield 55, 3), (48, .iload_n 3, 1), (49, .iload 4, 2), (51, .iastore, 1), (52, .iload 4, 2), (54, .istore_n 3, 1), (55, .goto (-36), 3), (58, .aload_n 0, 1), (59, .invokevirtual 173, 3), (62, .pop, 1), (63, .aload_n 0, 1), (64, .dup, 1), (65, .getfield 189, 3), (68, .iconst 1, 1), (69, .isub, 1), (70, .putfield 189, 3), (73, .aload_n 0, 1), (74, .bipush 20, 2), (76, .iload_n 2, 1), (77, .iconst (-1), 1), (78, .iconst (-1), 1), (79, .iconst (-1), 1), (80, .iload_n 1, 1), (81, .invokevirtual 254, 3), (84, .ireturn, 1)]
set_option maxRecDepth 100000 in
theorem si_ok_310 : si_310.all (si_is 310) = true := by decide +kernel
def si_311 : List (Nat × Instr × Nat) := [(0, .aload_n 0, 1), (1, .dup, 1), (2, .getfield 189, 3), (5, .iconst 1, 1), (6, .iadd, 1), (7, .putfield 189, 3), (10, .aload_n 0, 1), (11, .getfield 189, 3), (14, .bipush 20, 2), (16, .if_icmp .le 37, 3), (19, .aload_n 0, 1), (20, .bipush 125, 2), (22, .invokevirtual 169, 3), (25, .ifCond .ne 28, 3), (28, .aload_n 0, 1), (29, .bipush 41, 2), (31, .invokevirtual 169, 3), (34, .ifCond .ne 19, 3), (37, .aload_n 0, 1), (38, .getfield 3, 3), (41, .iconst 3, 1), (42, .aload_n 0, 1), (43, .aload_n 0, 1), (44, .getfield 141, 3), (47, .invokevirtual 145, 3), (50, .invokevirtual 149, 3), (53, .return_, 1)]
set_option maxRecDepth 100000 in
theorem si_ok_311 : si_311.all (si_is 311) = true := by decide +kernel
def si_312 : List (Nat × Instr × Nat) := [(0, .aload_n 0, 1), (1, .getfield 141, 3), (4, .istore_n 1, 1), (5, .aload_n 0, 1), (6, .bipush 123, 2), (8, .invokevirtual 169, 3), (11, .ifCond .eq 8, 3), (14, .aload_n 0, 1), (15, .invokevirtual 242, 3), (18, .ireturn, 1), (19, .aload_n 0, 1), (20, .invokevirtual 258, 3), (23, .ifCond .eq 86, 3), (26, .aload_n 0, 1), (27, .invokevirtual 173, 3), (30, .istore_n 2, 1), (31, .aload_n 0, 1), (32, .invokevirtual 229, 3), (35, .istore_n 3, 1), (36, .aload_n 0, 1), (37, .iconst 4, 1), (38, .iload_n 3, 1), (39, .iload_n 2, 1), (40, .aload_n 0, 1), (41, .getfield 195, 3), (44, .iconst 0, 1), (45, .iload_n 1, 1), (46, .invokevirtual 222, 3), (49, .istore 4, 2), (51, .aload_n 0, 1), (52, .bipush 61, 2), (54, .invokevirtual 232, 3), (57, .aload_n 0, 1), (58, .invokevirtual 245, 3), (61, .istore 5, 2), (63, .aload_n 0, 1), (64, .bipush 59, 2), (66, .invokevirtual 232, 3), (69, .aload_n 0, 1), (70, .bipush 21, 2), (72, .iload 5, 2), (74, .iload 4, 2), (76, .iconst (-1), 1), (77, .iconst (-1), 1), (78, .iload_n 1, 1), (79, .invokevirtual 254, 3), (82, .istore 6, 2), (84, .aload_n 0, 1), (85, .getfield 83, 3), (88, .iload 4, 2), (90, .iload 6, 2), (92, .iastore, 1), (93, .aload_n 0, 1), (94, .getfield 89, 3), (97, .iload 4, 2), (99, .aload_n 0, 1), (100, .getfield 141, 3), (103, .iconst 1, 1), (104, .isub, 1), (105, .iastore, 1), (106, .iload 6, 2), (108, .ireturn, 1), (109, .aload_n 0, 1), (110, .bipush 6, 2), (112, .invokevirtual 226, 3), (115, .ifCond .eq 45, 3), (118, .aload_n 0, 1), (119, .invokevirtual 261, 3), (122, .istore_n 2, 1), (123, .aload_n 0, 1), (124, .invokevirtual 264, 3), (127, .istore_n 3, 1), (128, .aload_n 0, 1), (129, .bipush 7, 2), (131, .invokevirtual 226, 3), (134, .ifCond .eq 10, 3), (137, .aload_n 0, 1), (138, .invokevirtual 264, 3), (141, .goto 4, 3), (144, .iconst (-1), 1), (145, .istore 4, 2), (147, .aload_n 0, 1), (148, .bipush 24, 2), (150, .iload_n 2, 1), (151, .iload_n 3, 1), (152, .iload 4, 2), (154, .iconst (-1), 1), (155, .iload_n 1, 1), (156, .invokevirtual 254, 3), (159, .ireturn, 1), (160, .aload_n 0, 1), (161, .bipush 8, 2), (163, .invokevirtual 226, 3), (166, .ifCond .eq 25, 3), (169, .aload_n 0, 1), (170, .invokevirtual 261, 3), (173, .istore_n 2, 1), (174, .aload_n 0, 1), (175, .invokevirtual 264, 3), (178, .istore_n 3, 1), (179, .aload_n 0, 1), (180, .bipush 25, 2), (182, .iload_n 2, 1), (183, .iload_n 3, 1), (184, .iconst (-1), 1), (185, .iconst (-1), 1), (186, .iload_n 1, 1), (187, .invokevirtual 254, 3), (190, .ireturn, 1), (191, .aload_n 0, 1), (192, .bipush 9, 2), (194, .invokevirtual 226, 3), (197, .ifCond .eq 39, 3), (200, .aload_n 0, 1), (201, .bipush 59, 2), (203, .invokevirtual 169, 3), (206, .ifCond .eq 7, 3), (209, .iconst (-1), 1), (210, .goto 7, 3), (213, .aload_n 0, 1), (214, .invokevirtual 245, 3), (217, .istore_n 2, 1), (218, .aload_n 0, 1), (219, .bipush 59, 2), (221, .invokevirtual 232, 3), (224, .aload_n 0, 1), (225, .bipush 26, 2), (227, .iload_n 2, 1), (228, .iconst (-1), 1), (229, .iconst (-1), 1), (230, .iconst (-1), 1), (231, .iload_n 1, 1), (232, .invokevirtual 254, 3), (235, .ireturn, 1), (236, .aload_n 0, 1), (237, .bipush 10, 2), (239, .invokevirtual 226, 3), (242, .ifCond .eq 26, 3), (245, .aload_n 0, 1), (246, .invokevirtual 245, 3), (249, .istore_n 2, 1), (250, .aload_n 0, 1), (251, .bipush 59, 2), (253, .invokevirtual 232, 3), (256, .aload_n 0, 1), (257, .bipush 27, 2), (259, .iload_n 2, 1), (260, .iconst (-1), 1), (261, .iconst (-1), 1), (262, .iconst (-1), 1), (263, .iload_n 1, 1), (264, .invokevirtual 254, 3), (267, .ireturn, 1), (268, .aload_n 0, 1), (269, .invokevirtual 245, 3), (272, .istore_n 2, 1), (273, .aload_n 0, 1), (274, .bipush 61, 2), (276, .invokevirtual 179, 3), (279, .ifCond .eq 26, 3), (282, .aload_n 0, 1), (283, .invokevirtual 245, 3), (286, .istore_n 3, 1), (287, .aload_n 0, 1), (288, .bipush 59, 2), (290, .invokevirtual 232, 3), (293, .aload_n 0, 1), (294, .bipush 22, 2), (296, .iload_n 2, 1), (297, .iload_n 3, 1), (298, .iconst (-1), 1), (299, .iconst (-1), 1), (300, .iload_n 1, 1), (301, .invokevirtual 254, 3), (304, .ireturn, 1), (305, .aload_n 0, 1), (306, .bipush 59, 2), (308, .invokevirtual 232, 3), (311, .aload_n 0, 1), (312, .bipush 23, 2), (314, .iload_n 2, 1), (315, .iconst (-1), 1), (316, .iconst (-1), 1), (317, .iconst (-1), 1), (318, .iload_n 1, 1), (319, .invokevirtual 254, 3), (322, .ireturn, 1)]
set_option maxRecDepth 100000 in
theorem si_ok_312 : si_312.all (si_is 312) = true := by decide +kernel
def si_313 : List (Nat × Instr × Nat) := [(0, .aload_n 0, 1), (1, .invokevirtual 153, 3), (4, .iconst 3, 1), (5, .if_icmp .ne 41, 3), (8, .aload_n 0, 1), (9, .getfield 27, 3), (12, .getfield 166, 3), (15, .aload_n 0, 1), (16, .getfield 141, 3), (19, .iaload, 1), (20, .iconst 3, 1), (21, .if_icmp .eq 19, 3), (24, .aload_n 0, 1), (25, .getfield 27, 3), (28, .getfield 166, 3), (31, .aload_n 0, 1), (32, .getfield 141, 3), (35, .iaload, 1), (36, .iconst 4, 1), (37, .if_icmp .ne 7, 3), (40, .iconst 1, 1), (41, .goto 4, 3), (44, .iconst 0, 1), (45, .ireturn, 1), (46, .aload_n 0, 1), (47, .invokevirtual 153, 3), (50, .iconst 1, 1), (51, .if_icmp .ne 25, 3), (54, .aload_n 0, 1), (55, .getfield 27, 3), (58, .getfield 140, 3), (61, .aload_n 0, 1), (62, .getfield 141, 3), (65, .iconst 1, 1), (66, .iadd, 1), (67, .iaload, 1), (68, .iconst 1, 1), (69, .if_icmp .ne 7, 3), (72, .iconst 1, 1), (73, .goto 4, 3), (76, .iconst 0, 1), (77, .ireturn, 1)]
set_option maxRecDepth 100000 in
theorem si_ok_313 : si_313.all (si_is 313) = true := by decide +kernel
def si_314 : List (Nat × Instr × Nat) := [(0, .aload_n 0, 1), (1, .iconst 1, 1), (2, .invokevirtual 267, 3), (5, .ireturn, 1)]
set_option maxRecDepth 100000 in
theorem si_ok_314 : si_314.all (si_is 314) = true := by decide +kernel
def si_315 : List (Nat × Instr × Nat) := [(0, .aload_n 0, 1), (1, .getfield 141, 3), (4, .istore_n 2, 1), (5, .iload_n 1, 1), (6, .bipush 6, 2), (8, .if_icmp .le 8, 3), (11, .aload_n 0, 1), (12, .invokevirtual 270, 3), (15, .ireturn, 1), (16, .aload_n 0, 1), (17, .iload_n 1, 1), (18, .iconst 1, 1), (19, .iadd, 1), (20, .invokevirtual 267, 3), (23, .istore_n 3, 1), (24, .aload_n 0, 1), (25, .invokevirtual 153, 3), (28, .iconst 4, 1), (29, .if_icmp .ne 63, 3), (32, .aload_n 0, 1), (33, .aload_n 0, 1), (34, .getfield 27, 3), (37, .getfield 166, 3), (40, .aload_n 0, 1), (41, .getfield 141, 3), (44, .iaload, 1), (45, .invokevirtual 273, 3), (48, .iload_n 1, 1), (49, .if_icmp .ne 43, 3), (52, .aload_n 0, 1), (53, .getfield 27, 3), (56, .getfield 166, 3), (59, .aload_n 0, 1), (60, .invokevirtual 173, 3), (63, .iaload, 1), (64, .istore 4, 2), (66, .aload_n 0, 1), (67, .iload_n 1, 1), (68, .iconst 1, 1), (69, .iadd, 1), (70, .invokevirtual 267, 3), (73, .istore 5, 2), (75, .aload_n 0, 1), (76, .bipush 15, 2), (78, .iload_n 3, 1), (79, .iload 5, 2), (81, .iload 4, 2), (83, .iconst (-1), 1), (84, .iload_n 2, 1), (85, .invokevirtual 254, 3), (88, .istore_n 3, 1), (89, .goto (-65), 3), (92, .iload_n 3, 1), (93, .ireturn, 1)]
set_option maxRecDepth 100000 in
theorem si_ok_315 : si_315.all (si_is 315) = true := by decide +kernel
def si_316 : List (Nat × Instr × Nat) := [(0, .aload_n 0, 1), (1, .getfield 141, 3), (4, .istore_n 1, 1), (5, .aload_n 0, 1), (6, .bipush 45, 2), (8, .invokevirtual 169, 3), (11, .ifCond .ne 12, 3), (14, .aload_n 0, 1), (15, .bipush 33, 2), (17, .invokevirtual 169, 3), (20, .ifCond .eq 55, 3), (23, .aload_n 0, 1), (24, .bipush 45, 2), (26, .invokevirtual 169, 3), (29, .istore_n 2, 1), (30, .aload_n 0, 1), (31, .invokevirtual 173, 3), (34, .pop, 1), (35, .aload_n 0, 1), (36, .invokevirtual 248, 3), (39, .aload_n 0, 1), (40, .invokevirtual 270, 3), (43, .istore_n 3, 1), (44, .aload_n 0, 1), (45, .dup, 1), (46, .getfield 189, 3), (49, .iconst 1, 1), (50, .isub, 1), (51, .putfield 189, 3), (54, .aload_n 0, 1), (55, .iload_n 2, 1), (56, .ifCond .eq 8, 3), (59, .bipush 13, 2), (61, .goto 5, 3), (64, .bipush 14, 2), (66, .iload_n 3, 1), (67, .iconst (-1), 1), (68, .iconst (-1), 1), (69, .iconst (-1), 1), (70, .iload_n 1, 1), (71, .invokevirtual 254, 3), (74, .ireturn, 1), (75, .aload_n 0, 1), (76, .invokevirtual 276, 3), (79, .istore_n 2, 1), (80, .aload_n 0, 1), (81, .bipush 46, 2), (83, .invokevirtual 169, 3), (86, .ifCond .eq 59, 3), (89, .aload_n 0, 1), (90, .invokevirtual 173, 3), (93, .pop, 1), (94, .aload_n 0, 1), (95, .invokevirtual 229, 3), (98, .istore_n 3, 1), (99, .aload_n 0, 1), (100, .bipush 40, 2), (102, .invokevirtual 169, 3), (105, .ifCond .eq 25, 3), (108, .aload_n 0, 1), (109, .invokevirtual 279, 3), (112, .istore 4, 2), (114, .aload_n 0, 1), (115, .bipush 12, 2), (117, .iload_n 2, 1), (118, .iload 4, 2), (120, .iconst (-1), 1), (121, .iload_n 3, 1), (122, .iload_n 1, 1), (123, .invokevirtual 254, 3), (126, .istore_n 2, 1), (127, .goto 15, 3), (130, .aload_n 0, 1), (131, .bipush 11, 2), (133, .iload_n 2, 1), (134, .iconst (-1), 1), (135, .iconst (-1), 1), (136, .iload_n 3, 1), (137, .iload_n 1, 1), (138, .invokevirtual 254, 3), (141, .istore_n 2, 1), (142, .goto (-62), 3), (145, .iload_n 2, 1), (146, .ireturn, 1)]
set_option maxRecDepth 100000 in
theorem si_ok_316 : si_316.all (si_is 316) = true := by decide +kernel
def si_317 : List (Nat × Instr × Nat) := [(0, .aload_n 0, 1), (1, .dup, 1), (2, .getfield 192, 3), (5, .dup_x1, 1), (6, .iconst 1, 1), (7, .iadd, 1), (8, .putfield 192, 3), (11, .istore 7, 2), (13, .aload_n 0, 1), (14, .getfield 34, 3), (17, .iload 7, 2), (19, .iload_n 1, 1), (20, .iastore, 1), (21, .aload_n 0, 1), (22, .getfield 37, 3), (25, .iload 7, 2), (27, .iload_n 2, 1), (28, .iastore, 1), (29, .aload_n 0, 1), (30, .getfield 40, 3), (33, .iload 7, 2), (35, .iload_n 3, 1), (36, .iastore, 1), (37, .aload_n 0, 1), (38, .getfield 43, 3), (41, .iload 7, 2), (43, .iload 4, 2), (45, .iastore, 1), (46, .aload_n 0, 1), (47, .getfield 46, 3), (50, .iload 7, 2), (52, .iload 5, 2), (54, .iastore, 1), (55, .aload_n 0, 1), (56, .getfield 49, 3), (59, .iload 7, 2), (61, .iload 6, 2), (63, .iastore, 1), (64, .aload_n 0, 1), (65, .getfield 52, 3), (68, .iload 7, 2), (70, .aload_n 0, 1), (71, .getfield 141, 3), (74, .iconst 1, 1), (75, .isub, 1), (76, .iastore, 1), (77, .aload_n 0, 1), (78, .getfield 55, 3), (81, .iload 7, 2), (83, .iconst (-1), 1), (84, .iastore, 1), (85, .aload_n 0, 1), (86, .getfield 58, 3), (89, .iload 7, 2), (91, .iconst (-1), 1), (92, .iastore, 1), (93, .aload_n 0, 1), (94, .getfield 61, 3), (97, .iload 7, 2), (99, .bipush (-5), 2), (101, .iastore, 1), (102, .aload_n 0, 1), (103, .getfield 64, 3), (106, .iload 7, 2), (108, .aload_n 0, 1), (109, .getfield 195, 3), (112, .iastore, 1), (113, .aload_n 0, 1), (114, .iload 7, 2), (116, .iload_n 2, 1), (117, .invokevirtual 198, 3), (120, .iload_n 1, 1), (121, .bipush 15, 2), (123, .if_icmp .ne 7, 3), (126, .iload_n 3, 1), (127, .ifCond .lt 38, 3), (130, .aload_n 0, 1), (131, .iload 7, 2), (133, .iload_n 1, 1), (134, .bipush 8, 2), (136, .if_icmp .eq 21, 3), (139, .iload_n 1, 1), (140, .bipush 9, 2), (142, .if_icmp .eq 15, 3), (145, .iload_n 1, 1), (146, .bipush 11, 2), (148, .if_icmp .eq 9, 3), (151, .iload_n 1, 1), (152, .bipush 21, 2), (154, .if_icmp .ne 7, 3), (157, .iconst (-1), 1), (158, .goto 4, 3), (161, .iload_n 3, 1), (162, .invokevirtual 198, 3), (165, .aload_n 0, 1), (166, .iload 7, 2), (168, .iload_n 1, 1), (169, .bipush 15, 2), (171, .if_icmp .ne 7, 3), (174, .iconst (-1), 1), (175, .goto 5, 3), (178, .iload 4, 2), (180, .invokevirtual 198, 3), (183, .iload 7, 2), (185, .ireturn, 1)]
set_option maxRecDepth 100000 in
theorem si_ok_317 : si_317.all (si_is 317) = true := by decide +kernel
def si_318 : List (Nat × Instr × Nat) := [(0, .iload_n 2, 1), (1, .istore_n 3, 1), (2, .iload_n 3, 1), (3, .ifCond .lt 20, 3), (6, .aload_n 0, 1), (7, .getfield 58, 3), (10, .iload_n 3, 1), (11, .iload_n 1, 1), (12, .iastore, 1), (13, .aload_n 0, 1), (14, .getfield 55, 3), (17, .iload_n 3, 1), (18, .iaload, 1), (19, .istore_n 3, 1), (20, .goto (-18), 3), (23, .return_, 1)]
set_option maxRecDepth 100000 in
theorem si_ok_318 : si_318.all (si_is 318) = true := by decide +kernel
def si_319 : List (Nat × Instr × Nat) := [(0, .aload_n 0, 1), (1, .getfield 141, 3), (4, .istore_n 1, 1), (5, .aload_n 0, 1), (6, .invokevirtual 153, 3), (9, .istore_n 2, 1), (10, .iload_n 2, 1), (11, .iconst 2, 1), (12, .if_icmp .ne 19, 3), (15, .aload_n 0, 1), (16, .invokevirtual 173, 3), (19, .pop, 1), (20, .aload_n 0, 1), (21, .iconst 1, 1), (22, .iconst (-1), 1), (23, .iconst (-1), 1), (24, .iconst (-1), 1), (25, .iload_n 1, 1), (26, .iload_n 1, 1), (27, .invokevirtual 254, 3), (30, .ireturn, 1), (31, .iload_n 2, 1), (32, .iconst 1, 1), (33, .if_icmp .ne 46, 3), (36, .aload_n 0, 1), (37, .invokevirtual 173, 3), (40, .pop, 1), (41, .aload_n 0, 1), (42, .bipush 40, 2), (44, .invokevirtual 169, 3), (47, .ifCond .eq 20, 3), (50, .aload_n 0, 1), (51, .invokevirtual 279, 3), (54, .istore_n 3, 1), (55, .aload_n 0, 1), (56, .bipush 8, 2), (58, .iload_n 3, 1), (59, .iconst (-1), 1), (60, .iconst (-1), 1), (61, .iload_n 1, 1), (62, .iload_n 1, 1), (63, .invokevirtual 254, 3), (66, .ireturn, 1), (67, .aload_n 0, 1), (68, .bipush 7, 2), (70, .iconst (-1), 1), (71, .iconst (-1), 1), (72, .iconst (-1), 1), (73, .iload_n 1, 1), (74, .iload_n 1, 1), (75, .invokevirtual 254, 3), (78, .ireturn, 1), (79, .iload_n 2, 1), (80, .iconst 5, 1), (81, .if_icmp .ne 14, 3), (84, .aload_n 0, 1), (85, .invokevirtual 173, 3), (88, .pop, 1), (89, .aload_n 0, 1), (90, .iload_n 1, 1), (91, .invokevirtual 282, 3), (94, .ireturn, 1), (95, .iload_n 2, 1), (96, .iconst 3, 1), (97, .if_icmp .ne 134, 3), (100, .aload_n 0, 1), (101, .getfield 27, 3), (104, .getfield 166, 3), (107, .aload_n 0, 1), (108, .getfield 141, 3), (111, .iaload, 1), (112, .istore_n 3, 1), (113, .iload_n 3, 1), (114, .bipush 15, 2), (116, .if_icmp .ne 7, 3), (119, .iconst 2, 1), (120, .goto 45, 3), (123, .iload_n 3, 1), (124, .bipush 16, 2), (126, .if_icmp .ne 7, 3), (129, .iconst 3, 1), (130, .goto 35, 3), (133, .iload_n 3, 1), (134, .bipush 14, 2), (136, .if_icmp .ne 7, 3), (139, .iconst 4, 1), (140, .goto 25, 3), (143, .iload_n 3, 1), (144, .bipush 13, 2), (146, .if_icmp .ne 7, 3), (149, .iconst 5, 1), (150, .goto 15, 3), (153, .iload_n 3, 1), (154, .bipush 11, 2), (156, .if_icmp .ne 8, 3), (159, .bipush 6, 2), (161, .goto 4, 3), (164, .iconst (-1), 1), (165, .istore 4, 2), (167, .iload 4, 2), (169, .ifCond .le 20, 3), (172, .aload_n 0, 1), (173, .invokevirtual 173, 3), (176, .pop, 1), (177, .aload_n 0, 1), (178, .iload 4, 2), (180, .iconst (-1), 1), (181, .iconst (-1), 1), (182, .iconst (-1), 1), (183, .iconst (-1), 1), (184, .iload_n 1, 1), (185, .invokevirtual 254, 3), (188, .ireturn, 1), (189, .iload_n 3, 1), (190, .bipush 12, 2), (192, .if_icmp .ne 39, 3), (195, .aload_n 0, 1), (196, .invokevirtual 173, 3), (199, .pop, 1), (200, .aload_n 0, 1), (201, .invokevirtual 229, 3), (204, .istore 5, 2), (206, .aload_n 0, 1), (207, .bipush 40, 2), (209, .invokevirtual 232, 3), (212, .aload_n 0, 1), (213, .bipush 41, 2), (215, .invokevirtual 232, 3), (218, .aload_n 0, 1), (219, .bipush 9, 2), (221, .iconst (-1), 1), (222, .iconst (-1), 1), (223, .iconst (-1), 1), (224, .iload 5, 2), (226, .iload_n 1, 1), (227, .invokevirtual 254, 3), (230, .ireturn, 1), (231, .aload_n 0, 1), (232, .bipush 40, 2), (234, .invokevirtual 169, 3), (237, .ifCond .ne 7, 3), (240, .aload_n 0, 1), (241, .invokevirtual 182, 3), (244, .aload_n 0, 1), (245, .invokevirtual 173, 3), (248, .pop, 1), (249, .aload_n 0, 1), (250, .invokevirtual 248, 3), (253, .aload_n 0, 1), (254, .invokevirtual 245, 3), (257, .istore_n 3, 1), (258, .aload_n 0, 1), (259, .dup, 1), (260, .getfield 189, 3), (263, .iconst 1, 1), (264, .isub, 1), (265, .putfield 189, 3), (268, .aload_n 0, 1), (269, .bipush 41, 2), (271, .invokevirtual 232, 3), (274, .aload_n 0, 1), (275, .bipush 10, 2), (277, .iload_n 3, 1), (278, .iconst (-1), 1), (279, .iconst (-1), 1), (280, .iconst (-1), 1), (281, .iload_n 1, 1), (282, .invokevirtual 254, 3), (285, .ireturn, 1)]
set_option maxRecDepth 100000 in
theorem si_ok_319 : si_319.all (si_is 319) = true := by decide +kernel
def si_320 : List (Nat × Instr × Nat) := [(0, .aload_n 0, 1), (1, .bipush 40, 2), (3, .invokevirtual 232, 3), (6, .iconst (-1), 1), (7, .istore_n 1, 1), (8, .iconst (-1), 1), (9, .istore_n 2, 1), (10, .aload_n 0, 1), (11, .bipush 41, 2), (13, .invokevirtual 179, 3), (16, .ifCond .eq 5, 3), (19, .iconst (-1), 1), (20, .ireturn, 1), (21, .aload_n 0, 1), (22, .invokevirtual 248, 3), (25, .aload_n 0, 1), (26, .invokevirtual 245, 3), (29, .istore_n 3, 1), (30, .iload_n 2, 1), (31, .ifCond .ge 8, 3), (34, .iload_n 3, 1), (35, .istore_n 1, 1), (36, .goto 10, 3), (39, .aload_n 0, 1), (40, .getfield 55, 3), (43, .iload_n 2, 1), (44, .iload_n 3, 1), (45, .iastore, 1), (46, .iload_n 3, 1), (47, .istore_n 2, 1), (48, .aload_n 0, 1), (49, .bipush 44, 2), (51, .invokevirtual 179, 3), (54, .ifCond .ne (-29), 3), (57, .aload_n 0, 1), (58, .dup, 1), (59, .getfield 189, 3), (62, .iconst 1, 1), (63, .isub, 1), (64, .putfield 189, 3), (67, .aload_n 0, 1), (68, .bipush 41, 2), (70, .invokevirtual 232, 3), (73, .iload_n 1, 1), (74, .ireturn, 1)]
set_option maxRecDepth 100000 in
theorem si_ok_320 : si_320.all (si_is 320) = true := by decide +kernel
def si_321 : List (Nat × Instr × Nat) := [(0, .aload_n 0, 1), (1, .getfield 27, 3), (4, .getfield 166, 3), (7, .iload_n 1, 1), (8, .iaload, 1), (9, .bipush 97, 2), (11, .isub, 1), (12, .istore_n 2, 1), (13, .aload_n 0, 1), (14, .getfield 291, 3), (17, .iload_n 2, 1), (18, .ishr, 1), (19, .iconst 1, 1), (20, .iand, 1), (21, .iconst 1, 1), (22, .if_icmp .ne 7, 3), (25, .iconst 1, 1), (26, .goto 4, 3), (29, .iconst 0, 1), (30, .istore_n 3, 1), (31, .aload_n 0, 1), (32, .getfield 294, 3), (35, .ifCond .eq 13, 3), (38, .iload_n 3, 1), (39, .ifCond .ne 9, 3), (42, .aload_n 0, 1), (43, .iconst 4, 1), (44, .iload_n 1, 1), (45, .invokevirtual 297, 3), (48, .aload_n 0, 1), (49, .getfield 294, 3), (52, .ifCond .ne 83, 3), (55, .aload_n 0, 1), (56, .bipush 58, 2), (58, .invokevirtual 179, 3), (61, .ifCond .eq 74, 3), (64, .aload_n 0, 1), (65, .invokevirtual 238, 3), (68, .ifCond .ne 7, 3), (71, .aload_n 0, 1), (72, .invokevirtual 182, 3), (75, .iload_n 3, 1), (76, .ifCond .eq 9, 3), (79, .aload_n 0, 1), (80, .iconst 4, 1), (81, .iload_n 1, 1), (82, .invokevirtual 297, 3), (85, .aload_n 0, 1), (86, .invokevirtual 173, 3), (89, .istore 4, 2), (91, .aload_n 0, 1), (92, .getfield 113, 3), (95, .iload_n 2, 1), (96, .aload_n 0, 1), (97, .getfield 3, 3), (100, .getfield 300, 3), (103, .aload_n 0, 1), (104, .getfield 27, 3), (107, .iload 4, 2), (109, .aload_n 0, 1), (110, .invokestatic 304, 3), (113, .iastore, 1), (114, .aload_n 0, 1), (115, .getfield 113, 3), (118, .iload_n 2, 1), (119, .iaload, 1), (120, .bipush (-5), 2), (122, .if_icmp .ne 10, 3), (125, .aload_n 0, 1), (126, .iconst 5, 1), (127, .iload 4, 2), (129, .invokevirtual 297, 3), (132, .goto 14, 3), (135, .iload_n 3, 1), (136, .ifCond .ne 10, 3), (139, .aload_n 0, 1), (140, .getfield 113, 3), (143, .iload_n 2, 1), (144, .iconst (-1), 1), (145, .iastore, 1), (146, .aload_n 0, 1), (147, .dup, 1), (148, .getfield 291, 3), (151, .iconst 1, 1), (152, .iload_n 2, 1), (153, .ishl, 1), (154, .ior, 1), (155, .putfield 291, 3), (158, .aload_n 0, 1), (159, .bipush 16, 2), (161, .iconst (-1), 1), (162, .iconst (-1), 1), (163, .iconst (-1), 1), (164, .iload_n 1, 1), (165, .iload_n 1, 1), (166, .invokevirtual 254, 3), (169, .ireturn, 1)]
set_option maxRecDepth 100000 in
theorem si_ok_321 : si_321.all (si_is 321) = true := by decide +kernel
def si_322 : List (Nat × Instr × Nat) := [(0, .aload_n 0, 1), (1, .getfield 285, 3), (4, .ifCond .ne 17, 3), (7, .aload_n 0, 1), (8, .iload_n 1, 1), (9, .putfield 285, 3), (12, .aload_n 0, 1), (13, .aload_n 0, 1), (14, .iload_n 2, 1), (15, .invokevirtual 145, 3), (18, .putfield 288, 3), (21, .return_, 1)]
set_option maxRecDepth 100000 in
theorem si_ok_322 : si_322.all (si_is 322) = true := by decide +kernel
def si_323 : List (Nat × Instr × Nat) := [(0, .aload_n 1, 1), (1, .getfield 32, 3), (4, .iload_n 2, 1), (5, .iaload, 1), (6, .iconst 3, 1), (7, .if_icmp .ne 9, 3), (10, .aload_n 1, 1), (11, .iload_n 2, 1), (12, .invokestatic 35, 3), (15, .ireturn, 1), (16, .aload_n 0, 1), (17, .aload_n 3, 1), (18, .iload_n 2, 1), (19, .invokevirtual 39, 3), (22, .istore 4, 2), (24, .iload 4, 2), (26, .ifCond .ge 8, 3), (29, .bipush (-5), 2), (31, .goto 8, 3), (34, .bipush 10, 2), (36, .iload 4, 2), (38, .iadd, 1), (39, .ireturn, 1)]
set_option maxRecDepth 100000 in
theorem si_ok_323 : si_323.all (si_is 323) = true := by decide +kernel
def si_324 : List (Nat × Instr × Nat) := [(0, .aload_n 0, 1), (1, .getfield 26, 3), (4, .iload_n 1, 1), (5, .iaload, 1), (6, .iconst 3, 1), (7, .if_icmp .ne 7, 3), (10, .iconst 0, 1), (11, .goto 18, 3), (14, .aload_n 0, 1), (15, .getfield 26, 3), (18, .iload_n 1, 1), (19, .iaload, 1), (20, .iconst 4, 1), (21, .if_icmp .ne 7, 3), (24, .iconst 1, 1), (25, .goto 4, 3), (28, .iconst 3, 1), (29, .ireturn, 1)]
set_option maxRecDepth 100000 in
theorem si_ok_324 : si_324.all (si_is 324) = true := by decide +kernel
def si_325 : List (Nat × Instr × Nat) := [(0, .iconst 0, 1), (1, .istore_n 3, 1), (2, .iload_n 3, 1), (3, .aload_n 0, 1), (4, .getfield 313, 3), (7, .if_icmp .ge 31, 3), (10, .aload_n 0, 1), (11, .aload_n 0, 1), (12, .getfield 70, 3), (15, .aload_n 0, 1), (16, .getfield 98, 3), (19, .iload_n 3, 1), (20, .iaload, 1), (21, .iaload, 1), (22, .aload_n 1, 1), (23, .iload_n 2, 1), (24, .invokevirtual 316, 3), (27, .ifCond .eq 5, 3), (30, .iload_n 3, 1), (31, .ireturn, 1), (32, .iinc 3 1, 3), (35, .goto (-33), 3), (38, .iconst (-1), 1), (39, .ireturn, 1)]
set_option maxRecDepth 100000 in
theorem si_ok_325 : si_325.all (si_is 325) = true := by decide +kernel
def si_326 : List (Nat × Instr × Nat) := [(0, .aload_n 0, 1), (1, .getfield 27, 3), (4, .getfield 308, 3), (7, .iload_n 1, 1), (8, .iaload, 1), (9, .aload_n 2, 1), (10, .getfield 27, 3), (13, .getfield 308, 3), (16, .iload_n 3, 1), (17, .iaload, 1), (18, .if_icmp .ne 7, 3), (21, .iconst 1, 1), (22, .goto 4, 3), (25, .iconst 0, 1), (26, .istore 4, 2), (28, .iconst 0, 1), (29, .istore 5, 2), (31, .iload 5, 2), (33, .aload_n 0, 1), (34, .getfield 27, 3), (37, .getfield 308, 3), (40, .iload_n 1, 1), (41, .iaload, 1), (42, .if_icmp .ge 38, 3), (45, .iload 4, 2), (47, .ifCond .eq 33, 3), (50, .aload_n 0, 1), (51, .iload_n 1, 1), (52, .iload 5, 2), (54, .invokevirtual 309, 3), (57, .aload_n 2, 1), (58, .iload_n 3, 1), (59, .iload 5, 2), (61, .invokevirtual 309, 3), (64, .if_icmp .ne 7, 3), (67, .iconst 1, 1), (68, .goto 4, 3), (71, .iconst 0, 1), (72, .istore 4, 2), (74, .iinc 5 1, 3), (77, .goto (-46), 3), (80, .iload 4, 2), (82, .ireturn, 1)]
set_option maxRecDepth 100000 in
theorem si_ok_326 : si_326.all (si_is 326) = true := by decide +kernel
def si_327 : List (Nat × Instr × Nat) := [(0, .aload_n 0, 1), (1, .getfield 17, 3), (4, .aload_n 0, 1), (5, .getfield 27, 3), (8, .getfield 134, 3), (11, .iload_n 1, 1), (12, .iaload, 1), (13, .aaload, 1), (14, .aload_n 0, 1), (15, .getfield 27, 3), (18, .getfield 137, 3), (21, .iload_n 1, 1), (22, .iaload, 1), (23, .iload_n 2, 1), (24, .iadd, 1), (25, .baload, 1), (26, .ireturn, 1)]
set_option maxRecDepth 100000 in
theorem si_ok_327 : si_327.all (si_is 327) = true := by decide +kernel
def si_328 : List (Nat × Instr × Nat) := [(0, .iload_n 1, 1), (1, .lookupswitch 128 #[(37, 125), (42, 125), (43, 123), (45, 123), (47, 125), (60, 121), (62, 121), (300, 119), (301, 119), (302, 121), (303, 121), (304, 117), (305, 115)], 115), (116, .iconst 1, 1), (117, .ireturn, 1), (118, .iconst 2, 1), (119, .ireturn, 1), (120, .iconst 3, 1), (121, .ireturn, 1), (122, .iconst 4, 1), (123, .ireturn, 1), (124, .iconst 5, 1), (125, .ireturn, 1), (126, .bipush 6, 2), (128, .ireturn, 1), (129, .iconst 0, 1), (130, .ireturn, 1)]
set_option maxRecDepth 100000 in
theorem si_ok_328 : si_328.all (si_is 328) = true := by decide +kernel
def si_329 : List (Nat × Instr × Nat) := [(0, .aload_n 0, 1), (1, .bipush 40, 2), (3, .invokevirtual 232, 3), (6, .aload_n 0, 1), (7, .invokevirtual 248, 3), (10, .aload_n 0, 1), (11, .invokevirtual 245, 3), (14, .istore_n 1, 1), (15, .aload_n 0, 1), (16, .dup, 1), (17, .getfield 189, 3), (20, .iconst 1, 1), (21, .isub, 1), (22, .putfield 189, 3), (25, .aload_n 0, 1), (26, .bipush 41, 2), (28, .invokevirtual 232, 3), (31, .iload_n 1, 1), (32, .ireturn, 1)]
set_option maxRecDepth 100000 in
theorem si_ok_329 : si_329.all (si_is 329) = true := by decide +kernel
def si_330 : List (Nat × Instr × Nat) := [(0, .aload_n 0, 1), (1, .invokevirtual 248, 3), (4, .aload_n 0, 1), (5, .invokevirtual 251, 3), (8, .istore_n 1, 1), (9, .aload_n 0, 1), (10, .dup, 1), (11, .getfield 189, 3), (14, .iconst 1, 1), (15, .isub, 1), (16, .putfield 189, 3), (19, .iload_n 1, 1), (20, .ireturn, 1)]
set_option maxRecDepth 100000 in
theorem si_ok_330 : si_330.all (si_is 330) = true := by decide +kernel
end
section
/-! the reference's parser: blocks (blocks.py) -/
set_option maxRecDepth 100000 in
theorem b296_0 {N : Nat} {X : Nat → Int32} {d : Nat} {x1 : Int} {a0 : Nat} {M : me_M} {Q : me_Q} (h : ∃ d', d = d' + 1 ∧ me_W (mt_G N X) 293 d' 0 [some (.inr (.inl (some a0, 29, 0)))] [] M (sx_qI (fun y4 M1 => me_r y4 ∧ me_r 3 ∧ (¬ y4 = 3 → ((0 : Int) = 0 ∨ (0 : Int) = 1) ∧ Q (.inr (some (.inl 0))) M1) ∧ (y4 = 3 → 0 ≤ me_i M1 a0 35 ∧ me_i M1 a0 35 < ((2408 : Nat) : Int) ∧ me_r (me_i M1 (a0 + 9) (me_i M1 a0 35).toNat) ∧ me_r x1 ∧ (¬ (me_i M1 (a0 + 9) (me_i M1 a0 35).toNat) = x1 → ((0 : Int) = 0 ∨ (0 : Int) = 1) ∧ Q (.inr (some (.inl 0))) M1) ∧ ((me_i M1 (a0 + 9) (me_i M1 a0 35).toNat) = x1 → ((1 : Int) = 0 ∨ (1 : Int) = 1) ∧ Q (.inr (some (.inl 1))) M1))) (fun e3 M2 => Q (.inl e3) M2))) : me_W (mt_G N X) 296 d 0 [some (.inr (.inl (some a0, 29, 0))), some (.inl x1)] [] M Q := sx_ok (n := 16) (pv := 1) (cut := []) si_ok_296 h
set_option maxRecDepth 100000 in
theorem b297_0 {N : Nat} {X : Nat → Int32} {d : Nat} {a0 : Nat} {M : me_M} {Q : me_Q} (h : ∃ d', d = d' + 1 ∧ me_W (mt_G N X) 293 d' 0 [some (.inr (.inl (some a0, 29, 0)))] [] M (sx_qI (fun y4 M1 => ∃ d', d = d' + 1 ∧ me_W (mt_G N X) 294 d' 0 [some (.inr (.inl (some a0, 29, 0))), some (.inl (me_i M1 a0 35))] [] M1 (sx_qI (fun y8 M5 => ∃ d', d = d' + 1 ∧ me_W (mt_G N X) 295 d' 0 [some (.inr (.inl (some (164), 25, 0))), some (.inl 2), some (.inl y8)] [] M5 (sx_qV (fun M9 => Q (.inr none) M9) (fun e11 M10 => Q (.inl e11) M10))) (fun e7 M6 => Q (.inl e7) M6))) (fun e3 M2 => Q (.inl e3) M2))) : me_W (mt_G N X) 297 d 0 [some (.inr (.inl (some a0, 29, 0)))] [] M Q := sx_ok (n := 13) (pv := 1) (cut := []) si_ok_297 h
set_option maxRecDepth 100000 in
theorem b298_0 {N : Nat} {X : Nat → Int32} {d : Nat} {x1 : Int} {a0 : Nat} {M : me_M} {Q : me_Q} (h : ∃ d', d = d' + 1 ∧ me_W (mt_G N X) 299 d' 0 [some (.inr (.inl (some a0, 29, 0)))] [] M (sx_qI (fun y4 M1 => me_r (x1 + (me_i M1 a0 39)) ∧ me_r 8 ∧ ((x1 + (me_i M1 a0 39)) < 8 → ∃ d', d = d' + 1 ∧ me_W (mt_G N X) 301 d' 0 [some (.inr (.inl (some a0, 29, 0))), some (.inl 0)] [] M1 (sx_qI (fun y8 M5 => ∃ d', d = d' + 1 ∧ me_W (mt_G N X) 302 d' 0 [some (.inr (.inl (some a0, 29, 0))), some (.inl 0), some (.inl y8), some (.inl (-1)), some (.inl (-1)), some (.inl 0), some (.inl y4), none] [] M5 (sx_qI (fun y12 M9 => ∃ d', d = d' + 1 ∧ me_W (mt_G N X) 303 d' 0 [some (.inr (.inl (some a0, 29, 0))), some (.inl 1)] [] M9 (sx_qI (fun y16 M13 => me_r y16 ∧ (y16 = 0 → ∃ d', d = d' + 1 ∧ me_W (mt_G N X) 305 d' 0 [some (.inr (.inl (some a0, 29, 0))), some (.inl 123)] [] M13 (sx_qV (fun M17 => me_W (mt_G N X) 298 d 73 [some (.inr (.inl (some a0, 29, 0))), none, none, none, none, some (.inl y12), some (.inl 0)] [] M17 Q) (fun e19 M18 => Q (.inl e19) M18))) ∧ (¬ y16 = 0 → ∃ d', d = d' + 1 ∧ me_W (mt_G N X) 304 d' 0 [some (.inr (.inl (some a0, 29, 0)))] [] M13 (sx_qI (fun y23 M20 => 0 ≤ y12 ∧ y12 < ((2408 : Nat) : Int) ∧ let M24 : me_M := me_sI M20 (a0 + 27) y12.toNat (Int32.ofInt y23); ∃ d', d = d' + 1 ∧ me_W (mt_G N X) 305 d' 0 [some (.inr (.inl (some a0, 29, 0))), some (.inl 123)] [] M24 (sx_qV (fun M25 => me_W (mt_G N X) 298 d 73 [some (.inr (.inl (some a0, 29, 0))), none, none, none, none, some (.inl y12), some (.inl 0)] [] M25 Q) (fun e27 M26 => Q (.inl e27) M26))) (fun e22 M21 => Q (.inl e22) M21)))) (fun e15 M14 => Q (.inl e15) M14))) (fun e11 M10 => Q (.inl e11) M10))) (fun e7 M6 => Q (.inl e7) M6))) ∧ (8 ≤ (x1 + (me_i M1 a0 39)) → ∃ d', d = d' + 1 ∧ me_W (mt_G N X) 301 d' 0 [some (.inr (.inl (some a0, 29, 0))), some (.inl 1)] [] M1 (sx_qI (fun y31 M28 => ∃ d', d = d' + 1 ∧ me_W (mt_G N X) 302 d' 0 [some (.inr (.inl (some a0, 29, 0))), some (.inl 0), some (.inl y31), some (.inl (-1)), some (.inl (-1)), some (.inl 0), some (.inl y4), none] [] M28 (sx_qI (fun y35 M32 => ∃ d', d = d' + 1 ∧ me_W (mt_G N X) 303 d' 0 [some (.inr (.inl (some a0, 29, 0))), some (.inl 1)] [] M32 (sx_qI (fun y39 M36 => me_r y39 ∧ (y39 = 0 → ∃ d', d = d' + 1 ∧ me_W (mt_G N X) 305 d' 0 [some (.inr (.inl (some a0, 29, 0))), some (.inl 123)] [] M36 (sx_qV (fun M40 => me_W (mt_G N X) 298 d 73 [some (.inr (.inl (some a0, 29, 0))), none, none, none, none, some (.inl y35), some (.inl 0)] [] M40 Q) (fun e42 M41 => Q (.inl e42) M41))) ∧ (¬ y39 = 0 → ∃ d', d = d' + 1 ∧ me_W (mt_G N X) 304 d' 0 [some (.inr (.inl (some a0, 29, 0)))] [] M36 (sx_qI (fun y46 M43 => 0 ≤ y35 ∧ y35 < ((2408 : Nat) : Int) ∧ let M47 : me_M := me_sI M43 (a0 + 27) y35.toNat (Int32.ofInt y46); ∃ d', d = d' + 1 ∧ me_W (mt_G N X) 305 d' 0 [some (.inr (.inl (some a0, 29, 0))), some (.inl 123)] [] M47 (sx_qV (fun M48 => me_W (mt_G N X) 298 d 73 [some (.inr (.inl (some a0, 29, 0))), none, none, none, none, some (.inl y35), some (.inl 0)] [] M48 Q) (fun e50 M49 => Q (.inl e50) M49))) (fun e45 M44 => Q (.inl e45) M44)))) (fun e38 M37 => Q (.inl e38) M37))) (fun e34 M33 => Q (.inl e34) M33))) (fun e30 M29 => Q (.inl e30) M29)))) (fun e3 M2 => Q (.inl e3) M2))) : me_W (mt_G N X) 298 d 0 [some (.inr (.inl (some a0, 29, 0))), some (.inl x1), none, none, none, none, none] [] M Q := sx_ok (n := 43) (pv := 1) (cut := [(73, [true, false, false, false, false, true, true])]) si_ok_298 h
set_option maxRecDepth 100000 in
theorem b298_73 {N : Nat} {X : Nat → Int32} {d : Nat} {x5 x6 : Int} {a0 : Nat} {M : me_M} {Q : me_Q} (h : ∃ d', d = d' + 1 ∧ me_W (mt_G N X) 306 d' 0 [some (.inr (.inl (some a0, 29, 0))), some (.inl 125)] [] M (sx_qI (fun y4 M1 => me_r y4 ∧ (¬ y4 = 0 → 0 ≤ x5 ∧ x5 < ((2408 : Nat) : Int) ∧ let M5 : me_M := me_sI M1 (a0 + 32) x5.toNat (Int32.ofInt ((me_i M1 a0 35) - 1)); Q (.inr none) M5) ∧ (y4 = 0 → ∃ d', d = d' + 1 ∧ me_W (mt_G N X) 308 d' 0 [some (.inr (.inl (some a0, 29, 0))), some (.inl x5), some (.inl x6), none, none, none, none, none, none, none, none, none, none] [] M1 (sx_qV (fun M6 => me_W (mt_G N X) 298 d 73 [some (.inr (.inl (some a0, 29, 0))), none, none, none, none, some (.inl x5), some (.inl (x6 + 1))] [] M6 Q) (fun e8 M7 => Q (.inl e8) M7)))) (fun e3 M2 => Q (.inl e3) M2))) : me_W (mt_G N X) 298 d 73 [some (.inr (.inl (some a0, 29, 0))), none, none, none, none, some (.inl x5), some (.inl x6)] [] M Q := sx_ok (n := 14) (pv := 1) (cut := [(73, [true, false, false, false, false, true, true])]) si_ok_298 h
set_option maxRecDepth 100000 in
theorem b301_0 {N : Nat} {X : Nat → Int32} {d : Nat} {x1 : Int} {a0 : Nat} {M : me_M} {Q : me_Q} (h : ∃ d', d = d' + 1 ∧ me_W (mt_G N X) 293 d' 0 [some (.inr (.inl (some a0, 29, 0)))] [] M (sx_qI (fun y4 M1 => me_r y4 ∧ me_r 1 ∧ (y4 = 1 → me_r x1 ∧ (x1 = 0 → ∃ d', d = d' + 1 ∧ me_W (mt_G N X) 299 d' 0 [some (.inr (.inl (some a0, 29, 0)))] [] M1 (sx_qI (fun y8 M5 => Q (.inr (some (.inl y8))) M5) (fun e7 M6 => Q (.inl e7) M6))) ∧ (¬ x1 = 0 → ∃ d', d = d' + 1 ∧ me_W (mt_G N X) 294 d' 0 [some (.inr (.inl (some a0, 29, 0))), some (.inl (me_i M1 a0 35))] [] M1 (sx_qI (fun y12 M9 => ∃ d', d = d' + 1 ∧ me_W (mt_G N X) 295 d' 0 [some (.inr (.inl (some (164), 25, 0))), some (.inl 3), some (.inl y12)] [] M9 (sx_qV (fun M13 => ∃ d', d = d' + 1 ∧ me_W (mt_G N X) 299 d' 0 [some (.inr (.inl (some a0, 29, 0)))] [] M13 (sx_qI (fun y19 M16 => Q (.inr (some (.inl y19))) M16) (fun e18 M17 => Q (.inl e18) M17))) (fun e15 M14 => Q (.inl e15) M14))) (fun e11 M10 => Q (.inl e11) M10)))) ∧ (¬ y4 = 1 → ∃ d', d = d' + 1 ∧ me_W (mt_G N X) 297 d' 0 [some (.inr (.inl (some a0, 29, 0)))] [] M1 (sx_qV (fun M20 => me_r x1 ∧ (x1 = 0 → ∃ d', d = d' + 1 ∧ me_W (mt_G N X) 299 d' 0 [some (.inr (.inl (some a0, 29, 0)))] [] M20 (sx_qI (fun y26 M23 => Q (.inr (some (.inl y26))) M23) (fun e25 M24 => Q (.inl e25) M24))) ∧ (¬ x1 = 0 → ∃ d', d = d' + 1 ∧ me_W (mt_G N X) 294 d' 0 [some (.inr (.inl (some a0, 29, 0))), some (.inl (me_i M20 a0 35))] [] M20 (sx_qI (fun y30 M27 => ∃ d', d = d' + 1 ∧ me_W (mt_G N X) 295 d' 0 [some (.inr (.inl (some (164), 25, 0))), some (.inl 3), some (.inl y30)] [] M27 (sx_qV (fun M31 => ∃ d', d = d' + 1 ∧ me_W (mt_G N X) 299 d' 0 [some (.inr (.inl (some a0, 29, 0)))] [] M31 (sx_qI (fun y37 M34 => Q (.inr (some (.inl y37))) M34) (fun e36 M35 => Q (.inl e36) M35))) (fun e33 M32 => Q (.inl e33) M32))) (fun e29 M28 => Q (.inl e29) M28)))) (fun e22 M21 => Q (.inl e22) M21)))) (fun e3 M2 => Q (.inl e3) M2))) : me_W (mt_G N X) 301 d 0 [some (.inr (.inl (some a0, 29, 0))), some (.inl x1)] [] M Q := sx_ok (n := 20) (pv := 1) (cut := []) si_ok_301 h
set_option maxRecDepth 100000 in
theorem b302_0 {N : Nat} {X : Nat → Int32} {d : Nat} {x1 x2 x3 x4 x5 x6 : Int} {a0 : Nat} {M : me_M} {Q : me_Q} (h : let M1 : me_M := me_sI M a0 16 (Int32.ofInt ((me_i M a0 16) + 1)); 0 ≤ me_i M a0 16 ∧ me_i M a0 16 < ((2408 : Nat) : Int) ∧ let M2 : me_M := me_sI M1 (a0 + 25) (me_i M a0 16).toNat (Int32.ofInt x1); 0 ≤ me_i M a0 16 ∧ me_i M a0 16 < ((2408 : Nat) : Int) ∧ let M3 : me_M := me_sI M2 (a0 + 26) (me_i M a0 16).toNat (Int32.ofInt x2); 0 ≤ me_i M a0 16 ∧ me_i M a0 16 < ((2408 : Nat) : Int) ∧ let M4 : me_M := me_sI M3 (a0 + 27) (me_i M a0 16).toNat (Int32.ofInt x3); 0 ≤ me_i M a0 16 ∧ me_i M a0 16 < ((2408 : Nat) : Int) ∧ let M5 : me_M := me_sI M4 (a0 + 28) (me_i M a0 16).toNat (Int32.ofInt x4); 0 ≤ me_i M a0 16 ∧ me_i M a0 16 < ((2408 : Nat) : Int) ∧ let M6 : me_M := me_sI M5 (a0 + 29) (me_i M a0 16).toNat (me_nar 2 x5); 0 ≤ me_i M a0 16 ∧ me_i M a0 16 < ((2408 : Nat) : Int) ∧ let M7 : me_M := me_sI M6 (a0 + 30) (me_i M a0 16).toNat (Int32.ofInt (-1)); 0 ≤ me_i M a0 16 ∧ me_i M a0 16 < ((2408 : Nat) : Int) ∧ let M8 : me_M := me_sI M7 (a0 + 31) (me_i M a0 16).toNat (Int32.ofInt x6); 0 ≤ me_i M a0 16 ∧ me_i M a0 16 < ((2408 : Nat) : Int) ∧ let M9 : me_M := me_sI M8 (a0 + 32) (me_i M a0 16).toNat (Int32.ofInt x6); 0 ≤ me_i M a0 16 ∧ me_i M a0 16 < ((2408 : Nat) : Int) ∧ let M10 : me_M := me_sI M9 (a0 + 33) (me_i M a0 16).toNat (Int32.ofInt (-5)); 0 ≤ me_i M a0 16 ∧ me_i M a0 16 < ((2408 : Nat) : Int) ∧ let M11 : me_M := me_sI M10 (a0 + 34) (me_i M a0 16).toNat (Int32.ofInt 0); Q (.inr (some (.inl (me_i M a0 16)))) M11) : me_W (mt_G N X) 302 d 0 [some (.inr (.inl (some a0, 29, 0))), some (.inl x1), some (.inl x2), some (.inl x3), some (.inl x4), some (.inl x5), some (.inl x6), none] [] M Q := sx_ok (n := 61) (pv := 1) (cut := []) si_ok_302 h
set_option maxRecDepth 100000 in
theorem b303_0 {N : Nat} {X : Nat → Int32} {d : Nat} {x1 : Int} {a0 : Nat} {M : me_M} {Q : me_Q} (h : ∃ d', d = d' + 1 ∧ me_W (mt_G N X) 296 d' 0 [some (.inr (.inl (some a0, 29, 0))), some (.inl x1)] [] M (sx_qI (fun y4 M1 => me_r y4 ∧ (¬ y4 = 0 → ∃ d', d = d' + 1 ∧ me_W (mt_G N X) 299 d' 0 [some (.inr (.inl (some a0, 29, 0)))] [] M1 (sx_qI (fun y8 M5 => ((1 : Int) = 0 ∨ (1 : Int) = 1) ∧ Q (.inr (some (.inl 1))) M5) (fun e7 M6 => Q (.inl e7) M6))) ∧ (y4 = 0 → ((0 : Int) = 0 ∨ (0 : Int) = 1) ∧ Q (.inr (some (.inl 0))) M1)) (fun e3 M2 => Q (.inl e3) M2))) : me_W (mt_G N X) 303 d 0 [some (.inr (.inl (some a0, 29, 0))), some (.inl x1)] [] M Q := sx_ok (n := 10) (pv := 1) (cut := []) si_ok_303 h
set_option maxRecDepth 100000 in
theorem b304_0 {N : Nat} {X : Nat → Int32} {d : Nat} {a0 : Nat} {M : me_M} {Q : me_Q} (h : ∃ d', d = d' + 1 ∧ me_W (mt_G N X) 301 d' 0 [some (.inr (.inl (some a0, 29, 0))), some (.inl 0)] [] M (sx_qI (fun y4 M1 => Q (.inr (some (.inl y4))) M1) (fun e3 M2 => Q (.inl e3) M2))) : me_W (mt_G N X) 304 d 0 [some (.inr (.inl (some a0, 29, 0)))] [] M Q := sx_ok (n := 5) (pv := 1) (cut := []) si_ok_304 h
set_option maxRecDepth 100000 in
theorem b305_0 {N : Nat} {X : Nat → Int32} {d : Nat} {x1 : Int} {a0 : Nat} {M : me_M} {Q : me_Q} (h : ∃ d', d = d' + 1 ∧ me_W (mt_G N X) 306 d' 0 [some (.inr (.inl (some a0, 29, 0))), some (.inl x1)] [] M (sx_qI (fun y4 M1 => me_r y4 ∧ (¬ y4 = 0 → Q (.inr none) M1) ∧ (y4 = 0 → ∃ d', d = d' + 1 ∧ me_W (mt_G N X) 297 d' 0 [some (.inr (.inl (some a0, 29, 0)))] [] M1 (sx_qV (fun M5 => Q (.inr none) M5) (fun e7 M6 => Q (.inl e7) M6)))) (fun e3 M2 => Q (.inl e3) M2))) : me_W (mt_G N X) 305 d 0 [some (.inr (.inl (some a0, 29, 0))), some (.inl x1)] [] M Q := sx_ok (n := 8) (pv := 1) (cut := []) si_ok_305 h
set_option maxRecDepth 100000 in
theorem b306_0 {N : Nat} {X : Nat → Int32} {d : Nat} {x1 : Int} {a0 : Nat} {M : me_M} {Q : me_Q} (h : ∃ d', d = d' + 1 ∧ me_W (mt_G N X) 307 d' 0 [some (.inr (.inl (some a0, 29, 0))), some (.inl x1)] [] M (sx_qI (fun y4 M1 => me_r y4 ∧ (¬ y4 = 0 → ∃ d', d = d' + 1 ∧ me_W (mt_G N X) 299 d' 0 [some (.inr (.inl (some a0, 29, 0)))] [] M1 (sx_qI (fun y8 M5 => ((1 : Int) = 0 ∨ (1 : Int) = 1) ∧ Q (.inr (some (.inl 1))) M5) (fun e7 M6 => Q (.inl e7) M6))) ∧ (y4 = 0 → ((0 : Int) = 0 ∨ (0 : Int) = 1) ∧ Q (.inr (some (.inl 0))) M1)) (fun e3 M2 => Q (.inl e3) M2))) : me_W (mt_G N X) 306 d 0 [some (.inr (.inl (some a0, 29, 0))), some (.inl x1)] [] M Q := sx_ok (n := 10) (pv := 1) (cut := []) si_ok_306 h
set_option maxRecDepth 100000 in
theorem b307_0 {N : Nat} {X : Nat → Int32} {d : Nat} {x1 : Int} {a0 : Nat} {M : me_M} {Q : me_Q} (h : ∃ d', d = d' + 1 ∧ me_W (mt_G N X) 293 d' 0 [some (.inr (.inl (some a0, 29, 0)))] [] M (sx_qI (fun y4 M1 => me_r y4 ∧ me_r 4 ∧ (¬ y4 = 4 → ((0 : Int) = 0 ∨ (0 : Int) = 1) ∧ Q (.inr (some (.inl 0))) M1) ∧ (y4 = 4 → 0 ≤ me_i M1 a0 35 ∧ me_i M1 a0 35 < ((2408 : Nat) : Int) ∧ me_r (me_i M1 (a0 + 9) (me_i M1 a0 35).toNat) ∧ me_r x1 ∧ (¬ (me_i M1 (a0 + 9) (me_i M1 a0 35).toNat) = x1 → ((0 : Int) = 0 ∨ (0 : Int) = 1) ∧ Q (.inr (some (.inl 0))) M1) ∧ ((me_i M1 (a0 + 9) (me_i M1 a0 35).toNat) = x1 → ((1 : Int) = 0 ∨ (1 : Int) = 1) ∧ Q (.inr (some (.inl 1))) M1))) (fun e3 M2 => Q (.inl e3) M2))) : me_W (mt_G N X) 307 d 0 [some (.inr (.inl (some a0, 29, 0))), some (.inl x1)] [] M Q := sx_ok (n := 16) (pv := 1) (cut := []) si_ok_307 h
set_option maxRecDepth 100000 in
theorem b308_0 {N : Nat} {X : Nat → Int32} {d : Nat} {x1 x2 : Int} {a0 : Nat} {M : me_M} {Q : me_Q} (h : ∃ d', d = d' + 1 ∧ me_W (mt_G N X) 303 d' 0 [some (.inr (.inl (some a0, 29, 0))), some (.inl 2)] [] M (sx_qI (fun y4 M1 => ∃ d', d = d' + 1 ∧ me_W (mt_G N X) 296 d' 0 [some (.inr (.inl (some a0, 29, 0))), some (.inl 5)] [] M1 (sx_qI (fun y8 M5 => me_r y8 ∧ (¬ y8 = 0 → me_W (mt_G N X) 308 d 35 [some (.inr (.inl (some a0, 29, 0))), some (.inl x1), some (.inl x2), some (.inl (me_i M a0 35)), some (.inl y4), some (.inl y8), none, none, none, none, none, none, none] [] M5 Q) ∧ (y8 = 0 → ∃ d', d = d' + 1 ∧ me_W (mt_G N X) 309 d' 0 [some (.inr (.inl (some a0, 29, 0)))] [] M5 (sx_qI (fun y12 M9 => me_r y12 ∧ (¬ y12 = 0 → me_W (mt_G N X) 308 d 35 [some (.inr (.inl (some a0, 29, 0))), some (.inl x1), some (.inl x2), some (.inl (me_i M a0 35)), some (.inl y4), some (.inl y8), none, none, none, none, none, none, none] [] M9 Q) ∧ (y12 = 0 → ∃ d', d = d' + 1 ∧ me_W (mt_G N X) 297 d' 0 [some (.inr (.inl (some a0, 29, 0)))] [] M9 (sx_qV (fun M13 => me_W (mt_G N X) 308 d 35 [some (.inr (.inl (some a0, 29, 0))), some (.inl x1), some (.inl x2), some (.inl (me_i M a0 35)), some (.inl y4), some (.inl y8), none, none, none, none, none, none, none] [] M13 Q) (fun e15 M14 => Q (.inl e15) M14)))) (fun e11 M10 => Q (.inl e11) M10)))) (fun e7 M6 => Q (.inl e7) M6))) (fun e3 M2 => Q (.inl e3) M2))) : me_W (mt_G N X) 308 d 0 [some (.inr (.inl (some a0, 29, 0))), some (.inl x1), some (.inl x2), none, none, none, none, none, none, none, none, none, none] [] M Q := sx_ok (n := 19) (pv := 1) (cut := [(35, [true, true, true, true, true, true, false, false, false, false, false, false, false]), (53, [true, true, false, true, true, true, true, false, false, false, false, false, false]), (85, [true, true, false, true, true, false, true, true, false, false, false, false, false]), (115, [true, false, false, false, false, false, false, false, true, false, false, false, false]), (126, [true, false, false, false, false, false, false, false, true, false, false, false, false]), (156, [true, false, false, false, false, false, false, false, true, true, true, false, false]), (212, [true, false, false, false, false, false, false, false, true, false, false, false, false]), (225, [true, false, false, false, false, false, false, false, true, false, false, false, false]), (285, [true, false, false, false, false, false, false, false, true, false, false, false, false])]) si_ok_308 h
set_option maxRecDepth 100000 in
theorem b308_35 {N : Nat} {X : Nat → Int32} {d : Nat} {x1 x2 x3 x4 x5 : Int} {a0 : Nat} {M : me_M} {Q : me_Q} (h : ∃ d', d = d' + 1 ∧ me_W (mt_G N X) 299 d' 0 [some (.inr (.inl (some a0, 29, 0)))] [] M (sx_qI (fun y4 M1 => me_r x2 ∧ me_r 24 ∧ (x2 < 24 → me_W (mt_G N X) 308 d 53 [some (.inr (.inl (some a0, 29, 0))), some (.inl x1), none, some (.inl x3), some (.inl x4), some (.inl x5), some (.inl y4), none, none, none, none, none, none] [.inl 0, .inr (.inl (some a0, 29, 0))] M1 Q) ∧ (24 ≤ x2 → me_W (mt_G N X) 308 d 53 [some (.inr (.inl (some a0, 29, 0))), some (.inl x1), none, some (.inl x3), some (.inl x4), some (.inl x5), some (.inl y4), none, none, none, none, none, none] [.inl 1, .inr (.inl (some a0, 29, 0))] M1 Q)) (fun e3 M2 => Q (.inl e3) M2))) : me_W (mt_G N X) 308 d 35 [some (.inr (.inl (some a0, 29, 0))), some (.inl x1), some (.inl x2), some (.inl x3), some (.inl x4), some (.inl x5), none, none, none, none, none, none, none] [] M Q := sx_ok (n := 10) (pv := 1) (cut := [(35, [true, true, true, true, true, true, false, false, false, false, false, false, false]), (53, [true, true, false, true, true, true, true, false, false, false, false, false, false]), (85, [true, true, false, true, true, false, true, true, false, false, false, false, false]), (115, [true, false, false, false, false, false, false, false, true, false, false, false, false]), (126, [true, false, false, false, false, false, false, false, true, false, false, false, false]), (156, [true, false, false, false, false, false, false, false, true, true, true, false, false]), (212, [true, false, false, false, false, false, false, false, true, false, false, false, false]), (225, [true, false, false, false, false, false, false, false, true, false, false, false, false]), (285, [true, false, false, false, false, false, false, false, true, false, false, false, false])]) si_ok_308 h
set_option maxRecDepth 100000 in
theorem b308_53 {N : Nat} {X : Nat → Int32} {d : Nat} {x1 x3 x4 x5 x6 xs0 : Int} {a0 as1 : Nat} {M : me_M} {Q : me_Q} (h : ∃ d', d = d' + 1 ∧ me_W (mt_G N X) 301 d' 0 [some (.inr (.inl (some (as1), 29, 0))), some (.inl xs0)] [] M (sx_qI (fun y4 M1 => let M5 : me_M := me_sI M1 a0 38 (Int32.ofInt (me_i M1 a0 16)); let M6 : me_M := me_sI M5 a0 37 (Int32.ofInt 0); me_r x5 ∧ (¬ x5 = 0 → me_W (mt_G N X) 308 d 85 [some (.inr (.inl (some a0, 29, 0))), some (.inl x1), none, some (.inl x3), some (.inl x4), none, some (.inl x6), some (.inl y4), none, none, none, none, none] [] M6 Q) ∧ (x5 = 0 → ∃ d', d = d' + 1 ∧ me_W (mt_G N X) 307 d' 0 [some (.inr (.inl (some a0, 29, 0))), some (.inl 40)] [] M6 (sx_qI (fun y10 M7 => me_r y10 ∧ (y10 = 0 → ∃ d', d = d' + 1 ∧ me_W (mt_G N X) 302 d' 0 [some (.inr (.inl (some a0, 29, 0))), some (.inl 1), some (.inl y4), some (.inl x6), some (.inl x1), some (.inl x4), some (.inl x3), none] [] M7 (sx_qI (fun y14 M11 => ∃ d', d = d' + 1 ∧ me_W (mt_G N X) 306 d' 0 [some (.inr (.inl (some a0, 29, 0))), some (.inl 61)] [] M11 (sx_qI (fun y18 M15 => me_r y18 ∧ (y18 = 0 → me_W (mt_G N X) 308 d 285 [some (.inr (.inl (some a0, 29, 0))), none, none, none, none, none, none, none, some (.inl y14), none, none, none, none] [] M15 Q) ∧ (¬ y18 = 0 → ∃ d', d = d' + 1 ∧ me_W (mt_G N X) 314 d' 0 [some (.inr (.inl (some a0, 29, 0)))] [] M15 (sx_qI (fun y22 M19 => 0 ≤ y14 ∧ y14 < ((2408 : Nat) : Int) ∧ let M23 : me_M := me_sI M19 (a0 + 30) y14.toNat (Int32.ofInt y22); me_W (mt_G N X) 308 d 285 [some (.inr (.inl (some a0, 29, 0))), none, none, none, none, none, none, none, some (.inl y14), none, none, none, none] [] M23 Q) (fun e21 M20 => Q (.inl e21) M20)))) (fun e17 M16 => Q (.inl e17) M16))) (fun e13 M12 => Q (.inl e13) M12))) ∧ (¬ y10 = 0 → me_W (mt_G N X) 308 d 85 [some (.inr (.inl (some a0, 29, 0))), some (.inl x1), none, some (.inl x3), some (.inl x4), none, some (.inl x6), some (.inl y4), none, none, none, none, none] [] M7 Q)) (fun e9 M8 => Q (.inl e9) M8)))) (fun e3 M2 => Q (.inl e3) M2))) : me_W (mt_G N X) 308 d 53 [some (.inr (.inl (some a0, 29, 0))), some (.inl x1), none, some (.inl x3), some (.inl x4), some (.inl x5), some (.inl x6), none, none, none, none, none, none] [.inl xs0, .inr (.inl (some (as1), 29, 0))] M Q := sx_ok (n := 35) (pv := 1) (cut := [(35, [true, true, true, true, true, true, false, false, false, false, false, false, false]), (53, [true, true, false, true, true, true, true, false, false, false, false, false, false]), (85, [true, true, false, true, true, false, true, true, false, false, false, false, false]), (115, [true, false, false, false, false, false, false, false, true, false, false, false, false]), (126, [true, false, false, false, false, false, false, false, true, false, false, false, false]), (156, [true, false, false, false, false, false, false, false, true, true, true, false, false]), (212, [true, false, false, false, false, false, false, false, true, false, false, false, false]), (225, [true, false, false, false, false, false, false, false, true, false, false, false, false]), (285, [true, false, false, false, false, false, false, false, true, false, false, false, false])]) si_ok_308 h
set_option maxRecDepth 100000 in
theorem b308_85 {N : Nat} {X : Nat → Int32} {d : Nat} {x1 x3 x4 x6 x7 : Int} {a0 : Nat} {M : me_M} {Q : me_Q} (h : ∃ d', d = d' + 1 ∧ me_W (mt_G N X) 302 d' 0 [some (.inr (.inl (some a0, 29, 0))), some (.inl 2), some (.inl x7), some (.inl x6), some (.inl x1), some (.inl x4), some (.inl x3), none] [] M (sx_qI (fun y4 M1 => ∃ d', d = d' + 1 ∧ me_W (mt_G N X) 305 d' 0 [some (.inr (.inl (some a0, 29, 0))), some (.inl 40)] [] M1 (sx_qV (fun M5 => ∃ d', d = d' + 1 ∧ me_W (mt_G N X) 306 d' 0 [some (.inr (.inl (some a0, 29, 0))), some (.inl 41)] [] M5 (sx_qI (fun y11 M8 => me_r y11 ∧ (¬ y11 = 0 → me_W (mt_G N X) 308 d 212 [some (.inr (.inl (some a0, 29, 0))), none, none, none, none, none, none, none, some (.inl y4), none, none, none, none] [] M8 Q) ∧ (y11 = 0 → me_W (mt_G N X) 308 d 115 [some (.inr (.inl (some a0, 29, 0))), none, none, none, none, none, none, none, some (.inl y4), none, none, none, none] [] M8 Q)) (fun e10 M9 => Q (.inl e10) M9))) (fun e7 M6 => Q (.inl e7) M6))) (fun e3 M2 => Q (.inl e3) M2))) : me_W (mt_G N X) 308 d 85 [some (.inr (.inl (some a0, 29, 0))), some (.inl x1), none, some (.inl x3), some (.inl x4), none, some (.inl x6), some (.inl x7), none, none, none, none, none] [] M Q := sx_ok (n := 17) (pv := 1) (cut := [(35, [true, true, true, true, true, true, false, false, false, false, false, false, false]), (53, [true, true, false, true, true, true, true, false, false, false, false, false, false]), (85, [true, true, false, true, true, false, true, true, false, false, false, false, false]), (115, [true, false, false, false, false, false, false, false, true, false, false, false, false]), (126, [true, false, false, false, false, false, false, false, true, false, false, false, false]), (156, [true, false, false, false, false, false, false, false, true, true, true, false, false]), (212, [true, false, false, false, false, false, false, false, true, false, false, false, false]), (225, [true, false, false, false, false, false, false, false, true, false, false, false, false]), (285, [true, false, false, false, false, false, false, false, true, false, false, false, false])]) si_ok_308 h
set_option maxRecDepth 100000 in
theorem b308_115 {N : Nat} {X : Nat → Int32} {d : Nat} {x8 : Int} {a0 : Nat} {M : me_M} {Q : me_Q} (h : ∃ d', d = d' + 1 ∧ me_W (mt_G N X) 309 d' 0 [some (.inr (.inl (some a0, 29, 0)))] [] M (sx_qI (fun y4 M1 => me_r y4 ∧ (¬ y4 = 0 → me_W (mt_G N X) 308 d 126 [some (.inr (.inl (some a0, 29, 0))), none, none, none, none, none, none, none, some (.inl x8), none, none, none, none] [] M1 Q) ∧ (y4 = 0 → ∃ d', d = d' + 1 ∧ me_W (mt_G N X) 297 d' 0 [some (.inr (.inl (some a0, 29, 0)))] [] M1 (sx_qV (fun M5 => me_W (mt_G N X) 308 d 126 [some (.inr (.inl (some a0, 29, 0))), none, none, none, none, none, none, none, some (.inl x8), none, none, none, none] [] M5 Q) (fun e7 M6 => Q (.inl e7) M6)))) (fun e3 M2 => Q (.inl e3) M2))) : me_W (mt_G N X) 308 d 115 [some (.inr (.inl (some a0, 29, 0))), none, none, none, none, none, none, none, some (.inl x8), none, none, none, none] [] M Q := sx_ok (n := 6) (pv := 1) (cut := [(35, [true, true, true, true, true, true, false, false, false, false, false, false, false]), (53, [true, true, false, true, true, true, true, false, false, false, false, false, false]), (85, [true, true, false, true, true, false, true, true, false, false, false, false, false]), (115, [true, false, false, false, false, false, false, false, true, false, false, false, false]), (126, [true, false, false, false, false, false, false, false, true, false, false, false, false]), (156, [true, false, false, false, false, false, false, false, true, true, true, false, false]), (212, [true, false, false, false, false, false, false, false, true, false, false, false, false]), (225, [true, false, false, false, false, false, false, false, true, false, false, false, false]), (285, [true, false, false, false, false, false, false, false, true, false, false, false, false])]) si_ok_308 h
set_option maxRecDepth 100000 in
theorem b308_126 {N : Nat} {X : Nat → Int32} {d : Nat} {x8 : Int} {a0 : Nat} {M : me_M} {Q : me_Q} (h : ∃ d', d = d' + 1 ∧ me_W (mt_G N X) 299 d' 0 [some (.inr (.inl (some a0, 29, 0)))] [] M (sx_qI (fun y4 M1 => 0 ≤ x8 ∧ x8 < ((2408 : Nat) : Int) ∧ me_r (me_i M1 (a0 + 34) x8.toNat) ∧ me_r 8 ∧ (¬ (me_i M1 (a0 + 34) x8.toNat) = 8 → me_W (mt_G N X) 308 d 156 [some (.inr (.inl (some a0, 29, 0))), none, none, none, none, none, none, none, some (.inl x8), some (.inl (me_i M a0 35)), some (.inl y4), none, none] [.inl 0, .inr (.inl (some a0, 29, 0))] M1 Q) ∧ ((me_i M1 (a0 + 34) x8.toNat) = 8 → me_W (mt_G N X) 308 d 156 [some (.inr (.inl (some a0, 29, 0))), none, none, none, none, none, none, none, some (.inl x8), some (.inl (me_i M a0 35)), some (.inl y4), none, none] [.inl 1, .inr (.inl (some a0, 29, 0))] M1 Q)) (fun e3 M2 => Q (.inl e3) M2))) : me_W (mt_G N X) 308 d 126 [some (.inr (.inl (some a0, 29, 0))), none, none, none, none, none, none, none, some (.inl x8), none, none, none, none] [] M Q := sx_ok (n := 16) (pv := 1) (cut := [(35, [true, true, true, true, true, true, false, false, false, false, false, false, false]), (53, [true, true, false, true, true, true, true, false, false, false, false, false, false]), (85, [true, true, false, true, true, false, true, true, false, false, false, false, false]), (115, [true, false, false, false, false, false, false, false, true, false, false, false, false]), (126, [true, false, false, false, false, false, false, false, true, false, false, false, false]), (156, [true, false, false, false, false, false, false, false, true, true, true, false, false]), (212, [true, false, false, false, false, false, false, false, true, false, false, false, false]), (225, [true, false, false, false, false, false, false, false, true, false, false, false, false]), (285, [true, false, false, false, false, false, false, false, true, false, false, false, false])]) si_ok_308 h
set_option maxRecDepth 100000 in
theorem b308_156 {N : Nat} {X : Nat → Int32} {d : Nat} {x8 x9 x10 xs0 : Int} {a0 as1 : Nat} {M : me_M} {Q : me_Q} (h : ∃ d', d = d' + 1 ∧ me_W (mt_G N X) 301 d' 0 [some (.inr (.inl (some (as1), 29, 0))), some (.inl xs0)] [] M (sx_qI (fun y4 M1 => ∃ d', d = d' + 1 ∧ me_W (mt_G N X) 302 d' 0 [some (.inr (.inl (some a0, 29, 0))), some (.inl 3), some (.inl y4), some (.inl x10), some (.inl x8), some (.inl 0), some (.inl x9), none] [] M1 (sx_qI (fun y8 M5 => 0 ≤ y8 ∧ y8 < ((2408 : Nat) : Int) ∧ let M9 : me_M := me_sI M5 (a0 + 32) y8.toNat (Int32.ofInt y4); 0 ≤ x8 ∧ x8 < ((2408 : Nat) : Int) ∧ 0 ≤ x8 ∧ x8 < ((2408 : Nat) : Int) ∧ let M10 : me_M := me_sI M9 (a0 + 34) x8.toNat (Int32.ofInt ((me_i M9 (a0 + 34) x8.toNat) + 1)); ∃ d', d = d' + 1 ∧ me_W (mt_G N X) 306 d' 0 [some (.inr (.inl (some a0, 29, 0))), some (.inl 44)] [] M10 (sx_qI (fun y14 M11 => me_r y14 ∧ (¬ y14 = 0 → me_W (mt_G N X) 308 d 115 [some (.inr (.inl (some a0, 29, 0))), none, none, none, none, none, none, none, some (.inl x8), none, none, none, none] [] M11 Q) ∧ (y14 = 0 → ∃ d', d = d' + 1 ∧ me_W (mt_G N X) 305 d' 0 [some (.inr (.inl (some a0, 29, 0))), some (.inl 41)] [] M11 (sx_qV (fun M15 => me_W (mt_G N X) 308 d 212 [some (.inr (.inl (some a0, 29, 0))), none, none, none, none, none, none, none, some (.inl x8), none, none, none, none] [] M15 Q) (fun e17 M16 => Q (.inl e17) M16)))) (fun e13 M12 => Q (.inl e13) M12))) (fun e7 M6 => Q (.inl e7) M6))) (fun e3 M2 => Q (.inl e3) M2))) : me_W (mt_G N X) 308 d 156 [some (.inr (.inl (some a0, 29, 0))), none, none, none, none, none, none, none, some (.inl x8), some (.inl x9), some (.inl x10), none, none] [.inl xs0, .inr (.inl (some (as1), 29, 0))] M Q := sx_ok (n := 32) (pv := 1) (cut := [(35, [true, true, true, true, true, true, false, false, false, false, false, false, false]), (53, [true, true, false, true, true, true, true, false, false, false, false, false, false]), (85, [true, true, false, true, true, false, true, true, false, false, false, false, false]), (115, [true, false, false, false, false, false, false, false, true, false, false, false, false]), (126, [true, false, false, false, false, false, false, false, true, false, false, false, false]), (156, [true, false, false, false, false, false, false, false, true, true, true, false, false]), (212, [true, false, false, false, false, false, false, false, true, false, false, false, false]), (225, [true, false, false, false, false, false, false, false, true, false, false, false, false]), (285, [true, false, false, false, false, false, false, false, true, false, false, false, false])]) si_ok_308 h
set_option maxRecDepth 100000 in
theorem b308_212 {N : Nat} {X : Nat → Int32} {d : Nat} {x8 : Int} {a0 : Nat} {M : me_M} {Q : me_Q} (h : ∃ d', d = d' + 1 ∧ me_W (mt_G N X) 307 d' 0 [some (.inr (.inl (some a0, 29, 0))), some (.inl 123)] [] M (sx_qI (fun y4 M1 => me_r y4 ∧ (¬ y4 = 0 → me_W (mt_G N X) 308 d 225 [some (.inr (.inl (some a0, 29, 0))), none, none, none, none, none, none, none, some (.inl x8), none, none, none, none] [] M1 Q) ∧ (y4 = 0 → ∃ d', d = d' + 1 ∧ me_W (mt_G N X) 297 d' 0 [some (.inr (.inl (some a0, 29, 0)))] [] M1 (sx_qV (fun M5 => me_W (mt_G N X) 308 d 225 [some (.inr (.inl (some a0, 29, 0))), none, none, none, none, none, none, none, some (.inl x8), none, none, none, none] [] M5 Q) (fun e7 M6 => Q (.inl e7) M6)))) (fun e3 M2 => Q (.inl e3) M2))) : me_W (mt_G N X) 308 d 212 [some (.inr (.inl (some a0, 29, 0))), none, none, none, none, none, none, none, some (.inl x8), none, none, none, none] [] M Q := sx_ok (n := 7) (pv := 1) (cut := [(35, [true, true, true, true, true, true, false, false, false, false, false, false, false]), (53, [true, true, false, true, true, true, true, false, false, false, false, false, false]), (85, [true, true, false, true, true, false, true, true, false, false, false, false, false]), (115, [true, false, false, false, false, false, false, false, true, false, false, false, false]), (126, [true, false, false, false, false, false, false, false, true, false, false, false, false]), (156, [true, false, false, false, false, false, false, false, true, true, true, false, false]), (212, [true, false, false, false, false, false, false, false, true, false, false, false, false]), (225, [true, false, false, false, false, false, false, false, true, false, false, false, false]), (285, [true, false, false, false, false, false, false, false, true, false, false, false, false])]) si_ok_308 h
set_option maxRecDepth 100000 in
theorem b308_225 {N : Nat} {X : Nat → Int32} {d : Nat} {x8 : Int} {a0 : Nat} {M : me_M} {Q : me_Q} (h : ∃ d', d = d' + 1 ∧ me_W (mt_G N X) 310 d' 0 [some (.inr (.inl (some a0, 29, 0))), none, none, none, none] [] M (sx_qI (fun y4 M1 => 0 ≤ x8 ∧ x8 < ((2408 : Nat) : Int) ∧ let M5 : me_M := me_sI M1 (a0 + 30) x8.toNat (Int32.ofInt y4); 0 ≤ x8 ∧ x8 < ((2408 : Nat) : Int) ∧ let M6 : me_M := me_sI M5 (a0 + 32) x8.toNat (Int32.ofInt ((me_i M5 a0 35) - 1)); Q (.inr none) M6) (fun e3 M2 => Q (.inl e3) M2))) : me_W (mt_G N X) 308 d 225 [some (.inr (.inl (some a0, 29, 0))), none, none, none, none, none, none, none, some (.inl x8), none, none, none, none] [] M Q := sx_ok (n := 16) (pv := 1) (cut := [(35, [true, true, true, true, true, true, false, false, false, false, false, false, false]), (53, [true, true, false, true, true, true, true, false, false, false, false, false, false]), (85, [true, true, false, true, true, false, true, true, false, false, false, false, false]), (115, [true, false, false, false, false, false, false, false, true, false, false, false, false]), (126, [true, false, false, false, false, false, false, false, true, false, false, false, false]), (156, [true, false, false, false, false, false, false, false, true, true, true, false, false]), (212, [true, false, false, false, false, false, false, false, true, false, false, false, false]), (225, [true, false, false, false, false, false, false, false, true, false, false, false, false]), (285, [true, false, false, false, false, false, false, false, true, false, false, false, false])]) si_ok_308 h
set_option maxRecDepth 100000 in
theorem b308_285 {N : Nat} {X : Nat → Int32} {d : Nat} {x8 : Int} {a0 : Nat} {M : me_M} {Q : me_Q} (h : ∃ d', d = d' + 1 ∧ me_W (mt_G N X) 305 d' 0 [some (.inr (.inl (some a0, 29, 0))), some (.inl 59)] [] M (sx_qV (fun M1 => 0 ≤ x8 ∧ x8 < ((2408 : Nat) : Int) ∧ let M4 : me_M := me_sI M1 (a0 + 32) x8.toNat (Int32.ofInt ((me_i M1 a0 35) - 1)); Q (.inr none) M4) (fun e3 M2 => Q (.inl e3) M2))) : me_W (mt_G N X) 308 d 285 [some (.inr (.inl (some a0, 29, 0))), none, none, none, none, none, none, none, some (.inl x8), none, none, none, none] [] M Q := sx_ok (n := 13) (pv := 1) (cut := [(35, [true, true, true, true, true, true, false, false, false, false, false, false, false]), (53, [true, true, false, true, true, true, true, false, false, false, false, false, false]), (85, [true, true, false, true, true, false, true, true, false, false, false, false, false]), (115, [true, false, false, false, false, false, false, false, true, false, false, false, false]), (126, [true, false, false, false, false, false, false, false, true, false, false, false, false]), (156, [true, false, false, false, false, false, false, false, true, true, true, false, false]), (212, [true, false, false, false, false, false, false, false, true, false, false, false, false]), (225, [true, false, false, false, false, false, false, false, true, false, false, false, false]), (285, [true, false, false, false, false, false, false, false, true, false, false, false, false])]) si_ok_308 h
set_option maxRecDepth 100000 in
theorem b309_0 {N : Nat} {X : Nat → Int32} {d : Nat} {a0 : Nat} {M : me_M} {Q : me_Q} (h : ∃ d', d = d' + 1 ∧ me_W (mt_G N X) 293 d' 0 [some (.inr (.inl (some a0, 29, 0)))] [] M (sx_qI (fun y4 M1 => me_r y4 ∧ me_r 1 ∧ (y4 = 1 → ((1 : Int) = 0 ∨ (1 : Int) = 1) ∧ Q (.inr (some (.inl 1))) M1) ∧ (¬ y4 = 1 → ∃ d', d = d' + 1 ∧ me_W (mt_G N X) 293 d' 0 [some (.inr (.inl (some a0, 29, 0)))] [] M1 (sx_qI (fun y8 M5 => me_r y8 ∧ me_r 3 ∧ (¬ y8 = 3 → ((0 : Int) = 0 ∨ (0 : Int) = 1) ∧ Q (.inr (some (.inl 0))) M5) ∧ (y8 = 3 → 0 ≤ me_i M5 a0 35 ∧ me_i M5 a0 35 < ((2408 : Nat) : Int) ∧ me_r (me_i M5 (a0 + 9) (me_i M5 a0 35).toNat) ∧ me_r 3 ∧ ((me_i M5 (a0 + 9) (me_i M5 a0 35).toNat) = 3 → ((1 : Int) = 0 ∨ (1 : Int) = 1) ∧ Q (.inr (some (.inl 1))) M5) ∧ (¬ (me_i M5 (a0 + 9) (me_i M5 a0 35).toNat) = 3 → 0 ≤ me_i M5 a0 35 ∧ me_i M5 a0 35 < ((2408 : Nat) : Int) ∧ me_r (me_i M5 (a0 + 9) (me_i M5 a0 35).toNat) ∧ me_r 4 ∧ (¬ (me_i M5 (a0 + 9) (me_i M5 a0 35).toNat) = 4 → ((0 : Int) = 0 ∨ (0 : Int) = 1) ∧ Q (.inr (some (.inl 0))) M5) ∧ ((me_i M5 (a0 + 9) (me_i M5 a0 35).toNat) = 4 → ((1 : Int) = 0 ∨ (1 : Int) = 1) ∧ Q (.inr (some (.inl 1))) M5)))) (fun e7 M6 => Q (.inl e7) M6)))) (fun e3 M2 => Q (.inl e3) M2))) : me_W (mt_G N X) 309 d 0 [some (.inr (.inl (some a0, 29, 0)))] [] M Q := sx_ok (n := 28) (pv := 1) (cut := []) si_ok_309 h
set_option maxRecDepth 100000 in
theorem b310_0 {N : Nat} {X : Nat → Int32} {d : Nat} {a0 : Nat} {M : me_M} {Q : me_Q} (h : ∃ d', d = d' + 1 ∧ me_W (mt_G N X) 305 d' 0 [some (.inr (.inl (some a0, 29, 0))), some (.inl 123)] [] M (sx_qV (fun M1 => ∃ d', d = d' + 1 ∧ me_W (mt_G N X) 311 d' 0 [some (.inr (.inl (some a0, 29, 0)))] [] M1 (sx_qV (fun M4 => me_W (mt_G N X) 310 d 19 [some (.inr (.inl (some a0, 29, 0))), some (.inl (me_i M a0 35)), some (.inl (-1)), some (.inl (-1)), none] [] M4 Q) (fun e6 M5 => Q (.inl e6) M5))) (fun e3 M2 => Q (.inl e3) M2))) : me_W (mt_G N X) 310 d 0 [some (.inr (.inl (some a0, 29, 0))), none, none, none, none] [] M Q := sx_ok (n := 13) (pv := 1) (cut := [(19, [true, true, true, true, false])]) si_ok_310 h
set_option maxRecDepth 100000 in
theorem b310_19 {N : Nat} {X : Nat → Int32} {d : Nat} {x1 x2 x3 : Int} {a0 : Nat} {M : me_M} {Q : me_Q} (h : ∃ d', d = d' + 1 ∧ me_W (mt_G N X) 307 d' 0 [some (.inr (.inl (some a0, 29, 0))), some (.inl 125)] [] M (sx_qI (fun y4 M1 => me_r y4 ∧ (¬ y4 = 0 → ∃ d', d = d' + 1 ∧ me_W (mt_G N X) 299 d' 0 [some (.inr (.inl (some a0, 29, 0)))] [] M1 (sx_qI (fun y8 M5 => let M9 : me_M := me_sI M5 a0 37 (Int32.ofInt ((me_i M5 a0 37) - 1)); ∃ d', d = d' + 1 ∧ me_W (mt_G N X) 317 d' 0 [some (.inr (.inl (some a0, 29, 0))), some (.inl 20), some (.inl x2), some (.inl (-1)), some (.inl (-1)), some (.inl (-1)), some (.inl x1), none] [] M9 (sx_qI (fun y13 M10 => Q (.inr (some (.inl y13))) M10) (fun e12 M11 => Q (.inl e12) M11))) (fun e7 M6 => Q (.inl e7) M6))) ∧ (y4 = 0 → ∃ d', d = d' + 1 ∧ me_W (mt_G N X) 312 d' 0 [some (.inr (.inl (some a0, 29, 0))), none, none, none, none, none, none] [] M1 (sx_qI (fun y17 M14 => me_r x3 ∧ (0 ≤ x3 → 0 ≤ x3 ∧ x3 < ((4816 : Nat) : Int) ∧ let M18 : me_M := me_sI M14 (a0 + 21) x3.toNat (Int32.ofInt y17); me_W (mt_G N X) 310 d 19 [some (.inr (.inl (some a0, 29, 0))), some (.inl x1), some (.inl x2), some (.inl y17), none] [] M18 Q) ∧ (x3 < 0 → me_W (mt_G N X) 310 d 19 [some (.inr (.inl (some a0, 29, 0))), some (.inl x1), some (.inl y17), some (.inl y17), none] [] M14 Q)) (fun e16 M15 => Q (.inl e16) M15)))) (fun e3 M2 => Q (.inl e3) M2))) : me_W (mt_G N X) 310 d 19 [some (.inr (.inl (some a0, 29, 0))), some (.inl x1), some (.inl x2), some (.inl x3), none] [] M Q := sx_ok (n := 23) (pv := 1) (cut := [(19, [true, true, true, true, false])]) si_ok_310 h
set_option maxRecDepth 100000 in
theorem b311_0 {N : Nat} {X : Nat → Int32} {d : Nat} {a0 : Nat} {M : me_M} {Q : me_Q} (h : let M1 : me_M := me_sI M a0 37 (Int32.ofInt ((me_i M a0 37) + 1)); me_r (me_i M1 a0 37) ∧ me_r 20 ∧ ((me_i M1 a0 37) ≤ 20 → Q (.inr none) M1) ∧ (20 < (me_i M1 a0 37) → ∃ d', d = d' + 1 ∧ me_W (mt_G N X) 307 d' 0 [some (.inr (.inl (some a0, 29, 0))), some (.inl 125)] [] M1 (sx_qI (fun y5 M2 => me_r y5 ∧ (¬ y5 = 0 → Q (.inr none) M2) ∧ (y5 = 0 → ∃ d', d = d' + 1 ∧ me_W (mt_G N X) 307 d' 0 [some (.inr (.inl (some a0, 29, 0))), some (.inl 41)] [] M2 (sx_qI (fun y9 M6 => me_r y9 ∧ (¬ y9 = 0 → Q (.inr none) M6) ∧ (y9 = 0 → ∃ d', d = d' + 1 ∧ me_W (mt_G N X) 294 d' 0 [some (.inr (.inl (some a0, 29, 0))), some (.inl (me_i M6 a0 35))] [] M6 (sx_qI (fun y13 M10 => ∃ d', d = d' + 1 ∧ me_W (mt_G N X) 295 d' 0 [some (.inr (.inl (some (164), 25, 0))), some (.inl 3), some (.inl y13)] [] M10 (sx_qV (fun M14 => Q (.inr none) M14) (fun e16 M15 => Q (.inl e16) M15))) (fun e12 M11 => Q (.inl e12) M11)))) (fun e8 M7 => Q (.inl e8) M7)))) (fun e4 M3 => Q (.inl e4) M3)))) : me_W (mt_G N X) 311 d 0 [some (.inr (.inl (some a0, 29, 0)))] [] M Q := sx_ok (n := 28) (pv := 1) (cut := []) si_ok_311 h
set_option maxRecDepth 100000 in
theorem b312_0 {N : Nat} {X : Nat → Int32} {d : Nat} {a0 : Nat} {M : me_M} {Q : me_Q} (h : ∃ d', d = d' + 1 ∧ me_W (mt_G N X) 307 d' 0 [some (.inr (.inl (some a0, 29, 0))), some (.inl 123)] [] M (sx_qI (fun y4 M1 => me_r y4 ∧ (y4 = 0 → ∃ d', d = d' + 1 ∧ me_W (mt_G N X) 313 d' 0 [some (.inr (.inl (some a0, 29, 0)))] [] M1 (sx_qI (fun y8 M5 => me_r y8 ∧ (y8 = 0 → ∃ d', d = d' + 1 ∧ me_W (mt_G N X) 303 d' 0 [some (.inr (.inl (some a0, 29, 0))), some (.inl 6)] [] M5 (sx_qI (fun y12 M9 => me_r y12 ∧ (y12 = 0 → ∃ d', d = d' + 1 ∧ me_W (mt_G N X) 303 d' 0 [some (.inr (.inl (some a0, 29, 0))), some (.inl 8)] [] M9 (sx_qI (fun y16 M13 => me_r y16 ∧ (y16 = 0 → ∃ d', d = d' + 1 ∧ me_W (mt_G N X) 303 d' 0 [some (.inr (.inl (some a0, 29, 0))), some (.inl 9)] [] M13 (sx_qI (fun y20 M17 => me_r y20 ∧ (y20 = 0 → ∃ d', d = d' + 1 ∧ me_W (mt_G N X) 303 d' 0 [some (.inr (.inl (some a0, 29, 0))), some (.inl 10)] [] M17 (sx_qI (fun y24 M21 => me_r y24 ∧ (y24 = 0 → ∃ d', d = d' + 1 ∧ me_W (mt_G N X) 314 d' 0 [some (.inr (.inl (some a0, 29, 0)))] [] M21 (sx_qI (fun y28 M25 => ∃ d', d = d' + 1 ∧ me_W (mt_G N X) 306 d' 0 [some (.inr (.inl (some a0, 29, 0))), some (.inl 61)] [] M25 (sx_qI (fun y32 M29 => me_r y32 ∧ (y32 = 0 → ∃ d', d = d' + 1 ∧ me_W (mt_G N X) 305 d' 0 [some (.inr (.inl (some a0, 29, 0))), some (.inl 59)] [] M29 (sx_qV (fun M33 => ∃ d', d = d' + 1 ∧ me_W (mt_G N X) 317 d' 0 [some (.inr (.inl (some a0, 29, 0))), some (.inl 23), some (.inl y28), some (.inl (-1)), some (.inl (-1)), some (.inl (-1)), some (.inl (me_i M a0 35)), none] [] M33 (sx_qI (fun y39 M36 => Q (.inr (some (.inl y39))) M36) (fun e38 M37 => Q (.inl e38) M37))) (fun e35 M34 => Q (.inl e35) M34))) ∧ (¬ y32 = 0 → ∃ d', d = d' + 1 ∧ me_W (mt_G N X) 314 d' 0 [some (.inr (.inl (some a0, 29, 0)))] [] M29 (sx_qI (fun y43 M40 => ∃ d', d = d' + 1 ∧ me_W (mt_G N X) 305 d' 0 [some (.inr (.inl (some a0, 29, 0))), some (.inl 59)] [] M40 (sx_qV (fun M44 => ∃ d', d = d' + 1 ∧ me_W (mt_G N X) 317 d' 0 [some (.inr (.inl (some a0, 29, 0))), some (.inl 22), some (.inl y28), some (.inl y43), some (.inl (-1)), some (.inl (-1)), some (.inl (me_i M a0 35)), none] [] M44 (sx_qI (fun y50 M47 => Q (.inr (some (.inl y50))) M47) (fun e49 M48 => Q (.inl e49) M48))) (fun e46 M45 => Q (.inl e46) M45))) (fun e42 M41 => Q (.inl e42) M41)))) (fun e31 M30 => Q (.inl e31) M30))) (fun e27 M26 => Q (.inl e27) M26))) ∧ (¬ y24 = 0 → ∃ d', d = d' + 1 ∧ me_W (mt_G N X) 314 d' 0 [some (.inr (.inl (some a0, 29, 0)))] [] M21 (sx_qI (fun y54 M51 => ∃ d', d = d' + 1 ∧ me_W (mt_G N X) 305 d' 0 [some (.inr (.inl (some a0, 29, 0))), some (.inl 59)] [] M51 (sx_qV (fun M55 => ∃ d', d = d' + 1 ∧ me_W (mt_G N X) 317 d' 0 [some (.inr (.inl (some a0, 29, 0))), some (.inl 27), some (.inl y54), some (.inl (-1)), some (.inl (-1)), some (.inl (-1)), some (.inl (me_i M a0 35)), none] [] M55 (sx_qI (fun y61 M58 => Q (.inr (some (.inl y61))) M58) (fun e60 M59 => Q (.inl e60) M59))) (fun e57 M56 => Q (.inl e57) M56))) (fun e53 M52 => Q (.inl e53) M52)))) (fun e23 M22 => Q (.inl e23) M22))) ∧ (¬ y20 = 0 → ∃ d', d = d' + 1 ∧ me_W (mt_G N X) 307 d' 0 [some (.inr (.inl (some a0, 29, 0))), some (.inl 59)] [] M17 (sx_qI (fun y65 M62 => me_r y65 ∧ (y65 = 0 → ∃ d', d = d' + 1 ∧ me_W (mt_G N X) 314 d' 0 [some (.inr (.inl (some a0, 29, 0)))] [] M62 (sx_qI (fun y69 M66 => ∃ d', d = d' + 1 ∧ me_W (mt_G N X) 305 d' 0 [some (.inr (.inl (some a0, 29, 0))), some (.inl 59)] [] M66 (sx_qV (fun M70 => ∃ d', d = d' + 1 ∧ me_W (mt_G N X) 317 d' 0 [some (.inr (.inl (some a0, 29, 0))), some (.inl 26), some (.inl y69), some (.inl (-1)), some (.inl (-1)), some (.inl (-1)), some (.inl (me_i M a0 35)), none] [] M70 (sx_qI (fun y76 M73 => Q (.inr (some (.inl y76))) M73) (fun e75 M74 => Q (.inl e75) M74))) (fun e72 M71 => Q (.inl e72) M71))) (fun e68 M67 => Q (.inl e68) M67))) ∧ (¬ y65 = 0 → ∃ d', d = d' + 1 ∧ me_W (mt_G N X) 305 d' 0 [some (.inr (.inl (some a0, 29, 0))), some (.inl 59)] [] M62 (sx_qV (fun M77 => ∃ d', d = d' + 1 ∧ me_W (mt_G N X) 317 d' 0 [some (.inr (.inl (some a0, 29, 0))), some (.inl 26), some (.inl (-1)), some (.inl (-1)), some (.inl (-1)), some (.inl (-1)), some (.inl (me_i M a0 35)), none] [] M77 (sx_qI (fun y83 M80 => Q (.inr (some (.inl y83))) M80) (fun e82 M81 => Q (.inl e82) M81))) (fun e79 M78 => Q (.inl e79) M78)))) (fun e64 M63 => Q (.inl e64) M63)))) (fun e19 M18 => Q (.inl e19) M18))) ∧ (¬ y16 = 0 → ∃ d', d = d' + 1 ∧ me_W (mt_G N X) 329 d' 0 [some (.inr (.inl (some a0, 29, 0))), none] [] M13 (sx_qI (fun y87 M84 => ∃ d', d = d' + 1 ∧ me_W (mt_G N X) 330 d' 0 [some (.inr (.inl (some a0, 29, 0))), none] [] M84 (sx_qI (fun y91 M88 => ∃ d', d = d' + 1 ∧ me_W (mt_G N X) 317 d' 0 [some (.inr (.inl (some a0, 29, 0))), some (.inl 25), some (.inl y87), some (.inl y91), some (.inl (-1)), some (.inl (-1)), some (.inl (me_i M a0 35)), none] [] M88 (sx_qI (fun y95 M92 => Q (.inr (some (.inl y95))) M92) (fun e94 M93 => Q (.inl e94) M93))) (fun e90 M89 => Q (.inl e90) M89))) (fun e86 M85 => Q (.inl e86) M85)))) (fun e15 M14 => Q (.inl e15) M14))) ∧ (¬ y12 = 0 → ∃ d', d = d' + 1 ∧ me_W (mt_G N X) 329 d' 0 [some (.inr (.inl (some a0, 29, 0))), none] [] M9 (sx_qI (fun y99 M96 => ∃ d', d = d' + 1 ∧ me_W (mt_G N X) 330 d' 0 [some (.inr (.inl (some a0, 29, 0))), none] [] M96 (sx_qI (fun y103 M100 => ∃ d', d = d' + 1 ∧ me_W (mt_G N X) 303 d' 0 [some (.inr (.inl (some a0, 29, 0))), some (.inl 7)] [] M100 (sx_qI (fun y107 M104 => me_r y107 ∧ (y107 = 0 → ∃ d', d = d' + 1 ∧ me_W (mt_G N X) 317 d' 0 [some (.inr (.inl (some a0, 29, 0))), some (.inl 24), some (.inl y99), some (.inl y103), some (.inl (-1)), some (.inl (-1)), some (.inl (me_i M a0 35)), none] [] M104 (sx_qI (fun y111 M108 => Q (.inr (some (.inl y111))) M108) (fun e110 M109 => Q (.inl e110) M109))) ∧ (¬ y107 = 0 → ∃ d', d = d' + 1 ∧ me_W (mt_G N X) 330 d' 0 [some (.inr (.inl (some a0, 29, 0))), none] [] M104 (sx_qI (fun y115 M112 => ∃ d', d = d' + 1 ∧ me_W (mt_G N X) 317 d' 0 [some (.inr (.inl (some a0, 29, 0))), some (.inl 24), some (.inl y99), some (.inl y103), some (.inl y115), some (.inl (-1)), some (.inl (me_i M a0 35)), none] [] M112 (sx_qI (fun y119 M116 => Q (.inr (some (.inl y119))) M116) (fun e118 M117 => Q (.inl e118) M117))) (fun e114 M113 => Q (.inl e114) M113)))) (fun e106 M105 => Q (.inl e106) M105))) (fun e102 M101 => Q (.inl e102) M101))) (fun e98 M97 => Q (.inl e98) M97)))) (fun e11 M10 => Q (.inl e11) M10))) ∧ (¬ y8 = 0 → ∃ d', d = d' + 1 ∧ me_W (mt_G N X) 299 d' 0 [some (.inr (.inl (some a0, 29, 0)))] [] M5 (sx_qI (fun y123 M120 => ∃ d', d = d' + 1 ∧ me_W (mt_G N X) 304 d' 0 [some (.inr (.inl (some a0, 29, 0)))] [] M120 (sx_qI (fun y127 M124 => ∃ d', d = d' + 1 ∧ me_W (mt_G N X) 302 d' 0 [some (.inr (.inl (some a0, 29, 0))), some (.inl 4), some (.inl y127), some (.inl y123), some (.inl (me_i M124 a0 38)), some (.inl 0), some (.inl (me_i M a0 35)), none] [] M124 (sx_qI (fun y131 M128 => ∃ d', d = d' + 1 ∧ me_W (mt_G N X) 305 d' 0 [some (.inr (.inl (some a0, 29, 0))), some (.inl 61)] [] M128 (sx_qV (fun M132 => ∃ d', d = d' + 1 ∧ me_W (mt_G N X) 314 d' 0 [some (.inr (.inl (some a0, 29, 0)))] [] M132 (sx_qI (fun y138 M135 => ∃ d', d = d' + 1 ∧ me_W (mt_G N X) 305 d' 0 [some (.inr (.inl (some a0, 29, 0))), some (.inl 59)] [] M135 (sx_qV (fun M139 => ∃ d', d = d' + 1 ∧ me_W (mt_G N X) 317 d' 0 [some (.inr (.inl (some a0, 29, 0))), some (.inl 21), some (.inl y138), some (.inl y131), some (.inl (-1)), some (.inl (-1)), some (.inl (me_i M a0 35)), none] [] M139 (sx_qI (fun y145 M142 => 0 ≤ y131 ∧ y131 < ((2408 : Nat) : Int) ∧ let M146 : me_M := me_sI M142 (a0 + 30) y131.toNat (Int32.ofInt y145); 0 ≤ y131 ∧ y131 < ((2408 : Nat) : Int) ∧ let M147 : me_M := me_sI M146 (a0 + 32) y131.toNat (Int32.ofInt ((me_i M146 a0 35) - 1)); Q (.inr (some (.inl y145))) M147) (fun e144 M143 => Q (.inl e144) M143))) (fun e141 M140 => Q (.inl e141) M140))) (fun e137 M136 => Q (.inl e137) M136))) (fun e134 M133 => Q (.inl e134) M133))) (fun e130 M129 => Q (.inl e130) M129))) (fun e126 M125 => Q (.inl e126) M125))) (fun e122 M121 => Q (.inl e122) M121)))) (fun e7 M6 => Q (.inl e7) M6))) ∧ (¬ y4 = 0 → ∃ d', d = d' + 1 ∧ me_W (mt_G N X) 310 d' 0 [some (.inr (.inl (some a0, 29, 0))), none, none, none, none] [] M1 (sx_qI (fun y151 M148 => Q (.inr (some (.inl y151))) M148) (fun e150 M149 => Q (.inl e150) M149)))) (fun e3 M2 => Q (.inl e3) M2))) : me_W (mt_G N X) 312 d 0 [some (.inr (.inl (some a0, 29, 0))), none, none, none, none, none, none] [] M Q := sx_ok (n := 60) (pv := 1) (cut := []) si_ok_312 h
set_option maxRecDepth 100000 in
theorem b313_0 {N : Nat} {X : Nat → Int32} {d : Nat} {a0 : Nat} {M : me_M} {Q : me_Q} (h : ∃ d', d = d' + 1 ∧ me_W (mt_G N X) 293 d' 0 [some (.inr (.inl (some a0, 29, 0)))] [] M (sx_qI (fun y4 M1 => me_r y4 ∧ me_r 3 ∧ (¬ y4 = 3 → ∃ d', d = d' + 1 ∧ me_W (mt_G N X) 293 d' 0 [some (.inr (.inl (some a0, 29, 0)))] [] M1 (sx_qI (fun y8 M5 => me_r y8 ∧ me_r 1 ∧ (¬ y8 = 1 → ((0 : Int) = 0 ∨ (0 : Int) = 1) ∧ Q (.inr (some (.inl 0))) M5) ∧ (y8 = 1 → 0 ≤ (me_i M5 a0 35) + 1 ∧ (me_i M5 a0 35) + 1 < ((2408 : Nat) : Int) ∧ me_r (me_i M5 (a0 + 8) ((me_i M5 a0 35) + 1).toNat) ∧ me_r 1 ∧ (¬ (me_i M5 (a0 + 8) ((me_i M5 a0 35) + 1).toNat) = 1 → ((0 : Int) = 0 ∨ (0 : Int) = 1) ∧ Q (.inr (some (.inl 0))) M5) ∧ ((me_i M5 (a0 + 8) ((me_i M5 a0 35) + 1).toNat) = 1 → ((1 : Int) = 0 ∨ (1 : Int) = 1) ∧ Q (.inr (some (.inl 1))) M5))) (fun e7 M6 => Q (.inl e7) M6))) ∧ (y4 = 3 → 0 ≤ me_i M1 a0 35 ∧ me_i M1 a0 35 < ((2408 : Nat) : Int) ∧ me_r (me_i M1 (a0 + 9) (me_i M1 a0 35).toNat) ∧ me_r 3 ∧ ((me_i M1 (a0 + 9) (me_i M1 a0 35).toNat) = 3 → ((1 : Int) = 0 ∨ (1 : Int) = 1) ∧ Q (.inr (some (.inl 1))) M1) ∧ (¬ (me_i M1 (a0 + 9) (me_i M1 a0 35).toNat) = 3 → 0 ≤ me_i M1 a0 35 ∧ me_i M1 a0 35 < ((2408 : Nat) : Int) ∧ me_r (me_i M1 (a0 + 9) (me_i M1 a0 35).toNat) ∧ me_r 4 ∧ (¬ (me_i M1 (a0 + 9) (me_i M1 a0 35).toNat) = 4 → ((0 : Int) = 0 ∨ (0 : Int) = 1) ∧ Q (.inr (some (.inl 0))) M1) ∧ ((me_i M1 (a0 + 9) (me_i M1 a0 35).toNat) = 4 → ((1 : Int) = 0 ∨ (1 : Int) = 1) ∧ Q (.inr (some (.inl 1))) M1)))) (fun e3 M2 => Q (.inl e3) M2))) : me_W (mt_G N X) 313 d 0 [some (.inr (.inl (some a0, 29, 0)))] [] M Q := sx_ok (n := 24) (pv := 1) (cut := []) si_ok_313 h
set_option maxRecDepth 100000 in
theorem b314_0 {N : Nat} {X : Nat → Int32} {d : Nat} {a0 : Nat} {M : me_M} {Q : me_Q} (h : ∃ d', d = d' + 1 ∧ me_W (mt_G N X) 315 d' 0 [some (.inr (.inl (some a0, 29, 0))), some (.inl 1), none, none, none, none] [] M (sx_qI (fun y4 M1 => Q (.inr (some (.inl y4))) M1) (fun e3 M2 => Q (.inl e3) M2))) : me_W (mt_G N X) 314 d 0 [some (.inr (.inl (some a0, 29, 0)))] [] M Q := sx_ok (n := 5) (pv := 1) (cut := []) si_ok_314 h
set_option maxRecDepth 100000 in
theorem b315_0 {N : Nat} {X : Nat → Int32} {d : Nat} {x1 : Int} {a0 : Nat} {M : me_M} {Q : me_Q} (h : me_r x1 ∧ me_r 6 ∧ (x1 ≤ 6 → ∃ d', d = d' + 1 ∧ me_W (mt_G N X) 315 d' 0 [some (.inr (.inl (some a0, 29, 0))), some (.inl (x1 + 1)), none, none, none, none] [] M (sx_qI (fun y4 M1 => me_W (mt_G N X) 315 d 24 [some (.inr (.inl (some a0, 29, 0))), some (.inl x1), some (.inl (me_i M a0 35)), some (.inl y4), none, none] [] M1 Q) (fun e3 M2 => Q (.inl e3) M2))) ∧ (6 < x1 → ∃ d', d = d' + 1 ∧ me_W (mt_G N X) 316 d' 0 [some (.inr (.inl (some a0, 29, 0))), none, none, none, none] [] M (sx_qI (fun y8 M5 => Q (.inr (some (.inl y8))) M5) (fun e7 M6 => Q (.inl e7) M6)))) : me_W (mt_G N X) 315 d 0 [some (.inr (.inl (some a0, 29, 0))), some (.inl x1), none, none, none, none] [] M Q := sx_ok (n := 13) (pv := 1) (cut := [(24, [true, true, true, true, false, false])]) si_ok_315 h
set_option maxRecDepth 100000 in
theorem b315_24 {N : Nat} {X : Nat → Int32} {d : Nat} {x1 x2 x3 : Int} {a0 : Nat} {M : me_M} {Q : me_Q} (h : ∃ d', d = d' + 1 ∧ me_W (mt_G N X) 293 d' 0 [some (.inr (.inl (some a0, 29, 0)))] [] M (sx_qI (fun y4 M1 => me_r y4 ∧ me_r 4 ∧ (¬ y4 = 4 → Q (.inr (some (.inl x3))) M1) ∧ (y4 = 4 → 0 ≤ me_i M1 a0 35 ∧ me_i M1 a0 35 < ((2408 : Nat) : Int) ∧ ∃ d', d = d' + 1 ∧ me_W (mt_G N X) 328 d' 0 [some (.inr (.inl (some a0, 29, 0))), some (.inl (me_i M1 (a0 + 9) (me_i M1 a0 35).toNat))] [] M1 (sx_qI (fun y8 M5 => me_r y8 ∧ me_r x1 ∧ (¬ y8 = x1 → Q (.inr (some (.inl x3))) M5) ∧ (y8 = x1 → ∃ d', d = d' + 1 ∧ me_W (mt_G N X) 299 d' 0 [some (.inr (.inl (some a0, 29, 0)))] [] M5 (sx_qI (fun y12 M9 => 0 ≤ y12 ∧ y12 < ((2408 : Nat) : Int) ∧ ∃ d', d = d' + 1 ∧ me_W (mt_G N X) 315 d' 0 [some (.inr (.inl (some a0, 29, 0))), some (.inl (x1 + 1)), none, none, none, none] [] M9 (sx_qI (fun y16 M13 => ∃ d', d = d' + 1 ∧ me_W (mt_G N X) 317 d' 0 [some (.inr (.inl (some a0, 29, 0))), some (.inl 15), some (.inl x3), some (.inl y16), some (.inl (me_i M9 (a0 + 9) y12.toNat)), some (.inl (-1)), some (.inl x2), none] [] M13 (sx_qI (fun y20 M17 => me_W (mt_G N X) 315 d 24 [some (.inr (.inl (some a0, 29, 0))), some (.inl x1), some (.inl x2), some (.inl y20), none, none] [] M17 Q) (fun e19 M18 => Q (.inl e19) M18))) (fun e15 M14 => Q (.inl e15) M14))) (fun e11 M10 => Q (.inl e11) M10)))) (fun e7 M6 => Q (.inl e7) M6)))) (fun e3 M2 => Q (.inl e3) M2))) : me_W (mt_G N X) 315 d 24 [some (.inr (.inl (some a0, 29, 0))), some (.inl x1), some (.inl x2), some (.inl x3), none, none] [] M Q := sx_ok (n := 38) (pv := 1) (cut := [(24, [true, true, true, true, false, false])]) si_ok_315 h
set_option maxRecDepth 100000 in
theorem b316_0 {N : Nat} {X : Nat → Int32} {d : Nat} {a0 : Nat} {M : me_M} {Q : me_Q} (h : ∃ d', d = d' + 1 ∧ me_W (mt_G N X) 307 d' 0 [some (.inr (.inl (some a0, 29, 0))), some (.inl 45)] [] M (sx_qI (fun y4 M1 => me_r y4 ∧ (¬ y4 = 0 → ∃ d', d = d' + 1 ∧ me_W (mt_G N X) 307 d' 0 [some (.inr (.inl (some a0, 29, 0))), some (.inl 45)] [] M1 (sx_qI (fun y8 M5 => ∃ d', d = d' + 1 ∧ me_W (mt_G N X) 299 d' 0 [some (.inr (.inl (some a0, 29, 0)))] [] M5 (sx_qI (fun y12 M9 => ∃ d', d = d' + 1 ∧ me_W (mt_G N X) 311 d' 0 [some (.inr (.inl (some a0, 29, 0)))] [] M9 (sx_qV (fun M13 => ∃ d', d = d' + 1 ∧ me_W (mt_G N X) 316 d' 0 [some (.inr (.inl (some a0, 29, 0))), none, none, none, none] [] M13 (sx_qI (fun y19 M16 => let M20 : me_M := me_sI M16 a0 37 (Int32.ofInt ((me_i M16 a0 37) - 1)); me_r y8 ∧ (y8 = 0 → ∃ d', d = d' + 1 ∧ me_W (mt_G N X) 317 d' 0 [some (.inr (.inl (some a0, 29, 0))), some (.inl 14), some (.inl y19), some (.inl (-1)), some (.inl (-1)), some (.inl (-1)), some (.inl (me_i M a0 35)), none] [] M20 (sx_qI (fun y24 M21 => Q (.inr (some (.inl y24))) M21) (fun e23 M22 => Q (.inl e23) M22))) ∧ (¬ y8 = 0 → ∃ d', d = d' + 1 ∧ me_W (mt_G N X) 317 d' 0 [some (.inr (.inl (some a0, 29, 0))), some (.inl 13), some (.inl y19), some (.inl (-1)), some (.inl (-1)), some (.inl (-1)), some (.inl (me_i M a0 35)), none] [] M20 (sx_qI (fun y28 M25 => Q (.inr (some (.inl y28))) M25) (fun e27 M26 => Q (.inl e27) M26)))) (fun e18 M17 => Q (.inl e18) M17))) (fun e15 M14 => Q (.inl e15) M14))) (fun e11 M10 => Q (.inl e11) M10))) (fun e7 M6 => Q (.inl e7) M6))) ∧ (y4 = 0 → ∃ d', d = d' + 1 ∧ me_W (mt_G N X) 307 d' 0 [some (.inr (.inl (some a0, 29, 0))), some (.inl 33)] [] M1 (sx_qI (fun y32 M29 => me_r y32 ∧ (y32 = 0 → ∃ d', d = d' + 1 ∧ me_W (mt_G N X) 319 d' 0 [some (.inr (.inl (some a0, 29, 0))), none, none, none, none, none] [] M29 (sx_qI (fun y36 M33 => me_W (mt_G N X) 316 d 80 [some (.inr (.inl (some a0, 29, 0))), some (.inl (me_i M a0 35)), some (.inl y36), none, none] [] M33 Q) (fun e35 M34 => Q (.inl e35) M34))) ∧ (¬ y32 = 0 → ∃ d', d = d' + 1 ∧ me_W (mt_G N X) 307 d' 0 [some (.inr (.inl (some a0, 29, 0))), some (.inl 45)] [] M29 (sx_qI (fun y40 M37 => ∃ d', d = d' + 1 ∧ me_W (mt_G N X) 299 d' 0 [some (.inr (.inl (some a0, 29, 0)))] [] M37 (sx_qI (fun y44 M41 => ∃ d', d = d' + 1 ∧ me_W (mt_G N X) 311 d' 0 [some (.inr (.inl (some a0, 29, 0)))] [] M41 (sx_qV (fun M45 => ∃ d', d = d' + 1 ∧ me_W (mt_G N X) 316 d' 0 [some (.inr (.inl (some a0, 29, 0))), none, none, none, none] [] M45 (sx_qI (fun y51 M48 => let M52 : me_M := me_sI M48 a0 37 (Int32.ofInt ((me_i M48 a0 37) - 1)); me_r y40 ∧ (y40 = 0 → ∃ d', d = d' + 1 ∧ me_W (mt_G N X) 317 d' 0 [some (.inr (.inl (some a0, 29, 0))), some (.inl 14), some (.inl y51), some (.inl (-1)), some (.inl (-1)), some (.inl (-1)), some (.inl (me_i M a0 35)), none] [] M52 (sx_qI (fun y56 M53 => Q (.inr (some (.inl y56))) M53) (fun e55 M54 => Q (.inl e55) M54))) ∧ (¬ y40 = 0 → ∃ d', d = d' + 1 ∧ me_W (mt_G N X) 317 d' 0 [some (.inr (.inl (some a0, 29, 0))), some (.inl 13), some (.inl y51), some (.inl (-1)), some (.inl (-1)), some (.inl (-1)), some (.inl (me_i M a0 35)), none] [] M52 (sx_qI (fun y60 M57 => Q (.inr (some (.inl y60))) M57) (fun e59 M58 => Q (.inl e59) M58)))) (fun e50 M49 => Q (.inl e50) M49))) (fun e47 M46 => Q (.inl e47) M46))) (fun e43 M42 => Q (.inl e43) M42))) (fun e39 M38 => Q (.inl e39) M38)))) (fun e31 M30 => Q (.inl e31) M30)))) (fun e3 M2 => Q (.inl e3) M2))) : me_W (mt_G N X) 316 d 0 [some (.inr (.inl (some a0, 29, 0))), none, none, none, none] [] M Q := sx_ok (n := 42) (pv := 1) (cut := [(80, [true, true, true, false, false])]) si_ok_316 h
set_option maxRecDepth 100000 in
theorem b316_80 {N : Nat} {X : Nat → Int32} {d : Nat} {x1 x2 : Int} {a0 : Nat} {M : me_M} {Q : me_Q} (h : ∃ d', d = d' + 1 ∧ me_W (mt_G N X) 307 d' 0 [some (.inr (.inl (some a0, 29, 0))), some (.inl 46)] [] M (sx_qI (fun y4 M1 => me_r y4 ∧ (y4 = 0 → Q (.inr (some (.inl x2))) M1) ∧ (¬ y4 = 0 → ∃ d', d = d' + 1 ∧ me_W (mt_G N X) 299 d' 0 [some (.inr (.inl (some a0, 29, 0)))] [] M1 (sx_qI (fun y8 M5 => ∃ d', d = d' + 1 ∧ me_W (mt_G N X) 304 d' 0 [some (.inr (.inl (some a0, 29, 0)))] [] M5 (sx_qI (fun y12 M9 => ∃ d', d = d' + 1 ∧ me_W (mt_G N X) 307 d' 0 [some (.inr (.inl (some a0, 29, 0))), some (.inl 40)] [] M9 (sx_qI (fun y16 M13 => me_r y16 ∧ (y16 = 0 → ∃ d', d = d' + 1 ∧ me_W (mt_G N X) 317 d' 0 [some (.inr (.inl (some a0, 29, 0))), some (.inl 11), some (.inl x2), some (.inl (-1)), some (.inl (-1)), some (.inl y12), some (.inl x1), none] [] M13 (sx_qI (fun y20 M17 => me_W (mt_G N X) 316 d 80 [some (.inr (.inl (some a0, 29, 0))), some (.inl x1), some (.inl y20), none, none] [] M17 Q) (fun e19 M18 => Q (.inl e19) M18))) ∧ (¬ y16 = 0 → ∃ d', d = d' + 1 ∧ me_W (mt_G N X) 320 d' 0 [some (.inr (.inl (some a0, 29, 0))), none, none, none] [] M13 (sx_qI (fun y24 M21 => ∃ d', d = d' + 1 ∧ me_W (mt_G N X) 317 d' 0 [some (.inr (.inl (some a0, 29, 0))), some (.inl 12), some (.inl x2), some (.inl y24), some (.inl (-1)), some (.inl y12), some (.inl x1), none] [] M21 (sx_qI (fun y28 M25 => me_W (mt_G N X) 316 d 80 [some (.inr (.inl (some a0, 29, 0))), some (.inl x1), some (.inl y28), none, none] [] M25 Q) (fun e27 M26 => Q (.inl e27) M26))) (fun e23 M22 => Q (.inl e23) M22)))) (fun e15 M14 => Q (.inl e15) M14))) (fun e11 M10 => Q (.inl e11) M10))) (fun e7 M6 => Q (.inl e7) M6)))) (fun e3 M2 => Q (.inl e3) M2))) : me_W (mt_G N X) 316 d 80 [some (.inr (.inl (some a0, 29, 0))), some (.inl x1), some (.inl x2), none, none] [] M Q := sx_ok (n := 29) (pv := 1) (cut := [(80, [true, true, true, false, false])]) si_ok_316 h
set_option maxRecDepth 100000 in
theorem b317_0 {N : Nat} {X : Nat → Int32} {d : Nat} {x1 x2 x3 x4 x5 x6 : Int} {a0 : Nat} {M : me_M} {Q : me_Q} (h : let M1 : me_M := me_sI M a0 4 (Int32.ofInt ((me_i M a0 4) + 1)); 0 ≤ me_i M a0 4 ∧ me_i M a0 4 < ((4816 : Nat) : Int) ∧ let M2 : me_M := me_sI M1 (a0 + 14) (me_i M a0 4).toNat (Int32.ofInt x1); 0 ≤ me_i M a0 4 ∧ me_i M a0 4 < ((4816 : Nat) : Int) ∧ let M3 : me_M := me_sI M2 (a0 + 15) (me_i M a0 4).toNat (Int32.ofInt x2); 0 ≤ me_i M a0 4 ∧ me_i M a0 4 < ((4816 : Nat) : Int) ∧ let M4 : me_M := me_sI M3 (a0 + 16) (me_i M a0 4).toNat (Int32.ofInt x3); 0 ≤ me_i M a0 4 ∧ me_i M a0 4 < ((4816 : Nat) : Int) ∧ let M5 : me_M := me_sI M4 (a0 + 17) (me_i M a0 4).toNat (Int32.ofInt x4); 0 ≤ me_i M a0 4 ∧ me_i M a0 4 < ((4816 : Nat) : Int) ∧ let M6 : me_M := me_sI M5 (a0 + 18) (me_i M a0 4).toNat (Int32.ofInt x5); 0 ≤ me_i M a0 4 ∧ me_i M a0 4 < ((4816 : Nat) : Int) ∧ let M7 : me_M := me_sI M6 (a0 + 19) (me_i M a0 4).toNat (Int32.ofInt x6); 0 ≤ me_i M a0 4 ∧ me_i M a0 4 < ((4816 : Nat) : Int) ∧ let M8 : me_M := me_sI M7 (a0 + 20) (me_i M a0 4).toNat (Int32.ofInt ((me_i M7 a0 35) - 1)); 0 ≤ me_i M a0 4 ∧ me_i M a0 4 < ((4816 : Nat) : Int) ∧ let M9 : me_M := me_sI M8 (a0 + 21) (me_i M a0 4).toNat (Int32.ofInt (-1)); 0 ≤ me_i M a0 4 ∧ me_i M a0 4 < ((4816 : Nat) : Int) ∧ let M10 : me_M := me_sI M9 (a0 + 22) (me_i M a0 4).toNat (Int32.ofInt (-1)); 0 ≤ me_i M a0 4 ∧ me_i M a0 4 < ((4816 : Nat) : Int) ∧ let M11 : me_M := me_sI M10 (a0 + 23) (me_i M a0 4).toNat (Int32.ofInt (-5)); 0 ≤ me_i M a0 4 ∧ me_i M a0 4 < ((4816 : Nat) : Int) ∧ let M12 : me_M := me_sI M11 (a0 + 24) (me_i M a0 4).toNat (Int32.ofInt (me_i M11 a0 38)); ∃ d', d = d' + 1 ∧ me_W (mt_G N X) 318 d' 0 [some (.inr (.inl (some a0, 29, 0))), some (.inl (me_i M a0 4)), some (.inl x2), none] [] M12 (sx_qV (fun M13 => me_r x1 ∧ me_r 15 ∧ (¬ x1 = 15 → me_r x1 ∧ me_r 8 ∧ (x1 = 8 → ∃ d', d = d' + 1 ∧ me_W (mt_G N X) 318 d' 0 [some (.inr (.inl (some a0, 29, 0))), some (.inl (me_i M a0 4)), some (.inl (-1)), none] [] M13 (sx_qV (fun M16 => me_r x1 ∧ me_r 15 ∧ (¬ x1 = 15 → ∃ d', d = d' + 1 ∧ me_W (mt_G N X) 318 d' 0 [some (.inr (.inl (some a0, 29, 0))), some (.inl (me_i M a0 4)), some (.inl x4), none] [] M16 (sx_qV (fun M19 => Q (.inr (some (.inl (me_i M a0 4)))) M19) (fun e21 M20 => Q (.inl e21) M20))) ∧ (x1 = 15 → ∃ d', d = d' + 1 ∧ me_W (mt_G N X) 318 d' 0 [some (.inr (.inl (some a0, 29, 0))), some (.inl (me_i M a0 4)), some (.inl (-1)), none] [] M16 (sx_qV (fun M22 => Q (.inr (some (.inl (me_i M a0 4)))) M22) (fun e24 M23 => Q (.inl e24) M23)))) (fun e18 M17 => Q (.inl e18) M17))) ∧ (¬ x1 = 8 → me_r x1 ∧ me_r 9 ∧ (x1 = 9 → ∃ d', d = d' + 1 ∧ me_W (mt_G N X) 318 d' 0 [some (.inr (.inl (some a0, 29, 0))), some (.inl (me_i M a0 4)), some (.inl (-1)), none] [] M13 (sx_qV (fun M25 => me_r x1 ∧ me_r 15 ∧ (¬ x1 = 15 → ∃ d', d = d' + 1 ∧ me_W (mt_G N X) 318 d' 0 [some (.inr (.inl (some a0, 29, 0))), some (.inl (me_i M a0 4)), some (.inl x4), none] [] M25 (sx_qV (fun M28 => Q (.inr (some (.inl (me_i M a0 4)))) M28) (fun e30 M29 => Q (.inl e30) M29))) ∧ (x1 = 15 → ∃ d', d = d' + 1 ∧ me_W (mt_G N X) 318 d' 0 [some (.inr (.inl (some a0, 29, 0))), some (.inl (me_i M a0 4)), some (.inl (-1)), none] [] M25 (sx_qV (fun M31 => Q (.inr (some (.inl (me_i M a0 4)))) M31) (fun e33 M32 => Q (.inl e33) M32)))) (fun e27 M26 => Q (.inl e27) M26))) ∧ (¬ x1 = 9 → me_r x1 ∧ me_r 11 ∧ (x1 = 11 → ∃ d', d = d' + 1 ∧ me_W (mt_G N X) 318 d' 0 [some (.inr (.inl (some a0, 29, 0))), some (.inl (me_i M a0 4)), some (.inl (-1)), none] [] M13 (sx_qV (fun M34 => me_r x1 ∧ me_r 15 ∧ (¬ x1 = 15 → ∃ d', d = d' + 1 ∧ me_W (mt_G N X) 318 d' 0 [some (.inr (.inl (some a0, 29, 0))), some (.inl (me_i M a0 4)), some (.inl x4), none] [] M34 (sx_qV (fun M37 => Q (.inr (some (.inl (me_i M a0 4)))) M37) (fun e39 M38 => Q (.inl e39) M38))) ∧ (x1 = 15 → ∃ d', d = d' + 1 ∧ me_W (mt_G N X) 318 d' 0 [some (.inr (.inl (some a0, 29, 0))), some (.inl (me_i M a0 4)), some (.inl (-1)), none] [] M34 (sx_qV (fun M40 => Q (.inr (some (.inl (me_i M a0 4)))) M40) (fun e42 M41 => Q (.inl e42) M41)))) (fun e36 M35 => Q (.inl e36) M35))) ∧ (¬ x1 = 11 → me_r x1 ∧ me_r 21 ∧ (¬ x1 = 21 → ∃ d', d = d' + 1 ∧ me_W (mt_G N X) 318 d' 0 [some (.inr (.inl (some a0, 29, 0))), some (.inl (me_i M a0 4)), some (.inl x3), none] [] M13 (sx_qV (fun M43 => me_r x1 ∧ me_r 15 ∧ (¬ x1 = 15 → ∃ d', d = d' + 1 ∧ me_W (mt_G N X) 318 d' 0 [some (.inr (.inl (some a0, 29, 0))), some (.inl (me_i M a0 4)), some (.inl x4), none] [] M43 (sx_qV (fun M46 => Q (.inr (some (.inl (me_i M a0 4)))) M46) (fun e48 M47 => Q (.inl e48) M47))) ∧ (x1 = 15 → ∃ d', d = d' + 1 ∧ me_W (mt_G N X) 318 d' 0 [some (.inr (.inl (some a0, 29, 0))), some (.inl (me_i M a0 4)), some (.inl (-1)), none] [] M43 (sx_qV (fun M49 => Q (.inr (some (.inl (me_i M a0 4)))) M49) (fun e51 M50 => Q (.inl e51) M50)))) (fun e45 M44 => Q (.inl e45) M44))) ∧ (x1 = 21 → ∃ d', d = d' + 1 ∧ me_W (mt_G N X) 318 d' 0 [some (.inr (.inl (some a0, 29, 0))), some (.inl (me_i M a0 4)), some (.inl (-1)), none] [] M13 (sx_qV (fun M52 => me_r x1 ∧ me_r 15 ∧ (¬ x1 = 15 → ∃ d', d = d' + 1 ∧ me_W (mt_G N X) 318 d' 0 [some (.inr (.inl (some a0, 29, 0))), some (.inl (me_i M a0 4)), some (.inl x4), none] [] M52 (sx_qV (fun M55 => Q (.inr (some (.inl (me_i M a0 4)))) M55) (fun e57 M56 => Q (.inl e57) M56))) ∧ (x1 = 15 → ∃ d', d = d' + 1 ∧ me_W (mt_G N X) 318 d' 0 [some (.inr (.inl (some a0, 29, 0))), some (.inl (me_i M a0 4)), some (.inl (-1)), none] [] M52 (sx_qV (fun M58 => Q (.inr (some (.inl (me_i M a0 4)))) M58) (fun e60 M59 => Q (.inl e60) M59)))) (fun e54 M53 => Q (.inl e54) M53))))))) ∧ (x1 = 15 → me_r x3 ∧ (x3 < 0 → me_r x1 ∧ me_r 15 ∧ (¬ x1 = 15 → ∃ d', d = d' + 1 ∧ me_W (mt_G N X) 318 d' 0 [some (.inr (.inl (some a0, 29, 0))), some (.inl (me_i M a0 4)), some (.inl x4), none] [] M13 (sx_qV (fun M61 => Q (.inr (some (.inl (me_i M a0 4)))) M61) (fun e63 M62 => Q (.inl e63) M62))) ∧ (x1 = 15 → ∃ d', d = d' + 1 ∧ me_W (mt_G N X) 318 d' 0 [some (.inr (.inl (some a0, 29, 0))), some (.inl (me_i M a0 4)), some (.inl (-1)), none] [] M13 (sx_qV (fun M64 => Q (.inr (some (.inl (me_i M a0 4)))) M64) (fun e66 M65 => Q (.inl e66) M65)))) ∧ (0 ≤ x3 → me_r x1 ∧ me_r 8 ∧ (x1 = 8 → ∃ d', d = d' + 1 ∧ me_W (mt_G N X) 318 d' 0 [some (.inr (.inl (some a0, 29, 0))), some (.inl (me_i M a0 4)), some (.inl (-1)), none] [] M13 (sx_qV (fun M67 => me_r x1 ∧ me_r 15 ∧ (¬ x1 = 15 → ∃ d', d = d' + 1 ∧ me_W (mt_G N X) 318 d' 0 [some (.inr (.inl (some a0, 29, 0))), some (.inl (me_i M a0 4)), some (.inl x4), none] [] M67 (sx_qV (fun M70 => Q (.inr (some (.inl (me_i M a0 4)))) M70) (fun e72 M71 => Q (.inl e72) M71))) ∧ (x1 = 15 → ∃ d', d = d' + 1 ∧ me_W (mt_G N X) 318 d' 0 [some (.inr (.inl (some a0, 29, 0))), some (.inl (me_i M a0 4)), some (.inl (-1)), none] [] M67 (sx_qV (fun M73 => Q (.inr (some (.inl (me_i M a0 4)))) M73) (fun e75 M74 => Q (.inl e75) M74)))) (fun e69 M68 => Q (.inl e69) M68))) ∧ (¬ x1 = 8 → me_r x1 ∧ me_r 9 ∧ (x1 = 9 → ∃ d', d = d' + 1 ∧ me_W (mt_G N X) 318 d' 0 [some (.inr (.inl (some a0, 29, 0))), some (.inl (me_i M a0 4)), some (.inl (-1)), none] [] M13 (sx_qV (fun M76 => me_r x1 ∧ me_r 15 ∧ (¬ x1 = 15 → ∃ d', d = d' + 1 ∧ me_W (mt_G N X) 318 d' 0 [some (.inr (.inl (some a0, 29, 0))), some (.inl (me_i M a0 4)), some (.inl x4), none] [] M76 (sx_qV (fun M79 => Q (.inr (some (.inl (me_i M a0 4)))) M79) (fun e81 M80 => Q (.inl e81) M80))) ∧ (x1 = 15 → ∃ d', d = d' + 1 ∧ me_W (mt_G N X) 318 d' 0 [some (.inr (.inl (some a0, 29, 0))), some (.inl (me_i M a0 4)), some (.inl (-1)), none] [] M76 (sx_qV (fun M82 => Q (.inr (some (.inl (me_i M a0 4)))) M82) (fun e84 M83 => Q (.inl e84) M83)))) (fun e78 M77 => Q (.inl e78) M77))) ∧ (¬ x1 = 9 → me_r x1 ∧ me_r 11 ∧ (x1 = 11 → ∃ d', d = d' + 1 ∧ me_W (mt_G N X) 318 d' 0 [some (.inr (.inl (some a0, 29, 0))), some (.inl (me_i M a0 4)), some (.inl (-1)), none] [] M13 (sx_qV (fun M85 => me_r x1 ∧ me_r 15 ∧ (¬ x1 = 15 → ∃ d', d = d' + 1 ∧ me_W (mt_G N X) 318 d' 0 [some (.inr (.inl (some a0, 29, 0))), some (.inl (me_i M a0 4)), some (.inl x4), none] [] M85 (sx_qV (fun M88 => Q (.inr (some (.inl (me_i M a0 4)))) M88) (fun e90 M89 => Q (.inl e90) M89))) ∧ (x1 = 15 → ∃ d', d = d' + 1 ∧ me_W (mt_G N X) 318 d' 0 [some (.inr (.inl (some a0, 29, 0))), some (.inl (me_i M a0 4)), some (.inl (-1)), none] [] M85 (sx_qV (fun M91 => Q (.inr (some (.inl (me_i M a0 4)))) M91) (fun e93 M92 => Q (.inl e93) M92)))) (fun e87 M86 => Q (.inl e87) M86))) ∧ (¬ x1 = 11 → me_r x1 ∧ me_r 21 ∧ (¬ x1 = 21 → ∃ d', d = d' + 1 ∧ me_W (mt_G N X) 318 d' 0 [some (.inr (.inl (some a0, 29, 0))), some (.inl (me_i M a0 4)), some (.inl x3), none] [] M13 (sx_qV (fun M94 => me_r x1 ∧ me_r 15 ∧ (¬ x1 = 15 → ∃ d', d = d' + 1 ∧ me_W (mt_G N X) 318 d' 0 [some (.inr (.inl (some a0, 29, 0))), some (.inl (me_i M a0 4)), some (.inl x4), none] [] M94 (sx_qV (fun M97 => Q (.inr (some (.inl (me_i M a0 4)))) M97) (fun e99 M98 => Q (.inl e99) M98))) ∧ (x1 = 15 → ∃ d', d = d' + 1 ∧ me_W (mt_G N X) 318 d' 0 [some (.inr (.inl (some a0, 29, 0))), some (.inl (me_i M a0 4)), some (.inl (-1)), none] [] M94 (sx_qV (fun M100 => Q (.inr (some (.inl (me_i M a0 4)))) M100) (fun e102 M101 => Q (.inl e102) M101)))) (fun e96 M95 => Q (.inl e96) M95))) ∧ (x1 = 21 → ∃ d', d = d' + 1 ∧ me_W (mt_G N X) 318 d' 0 [some (.inr (.inl (some a0, 29, 0))), some (.inl (me_i M a0 4)), some (.inl (-1)), none] [] M13 (sx_qV (fun M103 => me_r x1 ∧ me_r 15 ∧ (¬ x1 = 15 → ∃ d', d = d' + 1 ∧ me_W (mt_G N X) 318 d' 0 [some (.inr (.inl (some a0, 29, 0))), some (.inl (me_i M a0 4)), some (.inl x4), none] [] M103 (sx_qV (fun M106 => Q (.inr (some (.inl (me_i M a0 4)))) M106) (fun e108 M107 => Q (.inl e108) M107))) ∧ (x1 = 15 → ∃ d', d = d' + 1 ∧ me_W (mt_G N X) 318 d' 0 [some (.inr (.inl (some a0, 29, 0))), some (.inl (me_i M a0 4)), some (.inl (-1)), none] [] M103 (sx_qV (fun M109 => Q (.inr (some (.inl (me_i M a0 4)))) M109) (fun e111 M110 => Q (.inl e111) M110)))) (fun e105 M104 => Q (.inl e105) M104))))))))) (fun e15 M14 => Q (.inl e15) M14))) : me_W (mt_G N X) 317 d 0 [some (.inr (.inl (some a0, 29, 0))), some (.inl x1), some (.inl x2), some (.inl x3), some (.inl x4), some (.inl x5), some (.inl x6), none] [] M Q := sx_ok (n := 104) (pv := 1) (cut := []) si_ok_317 h
set_option maxRecDepth 100000 in
theorem b318_0 {N : Nat} {X : Nat → Int32} {d : Nat} {x1 x2 : Int} {a0 : Nat} {M : me_M} {Q : me_Q} (h : me_W (mt_G N X) 318 d 2 [some (.inr (.inl (some a0, 29, 0))), some (.inl x1), none, some (.inl x2)] [] M Q) : me_W (mt_G N X) 318 d 0 [some (.inr (.inl (some a0, 29, 0))), some (.inl x1), some (.inl x2), none] [] M Q := sx_ok (n := 3) (pv := 1) (cut := [(2, [true, true, false, true])]) si_ok_318 h
set_option maxRecDepth 100000 in
theorem b318_2 {N : Nat} {X : Nat → Int32} {d : Nat} {x1 x3 : Int} {a0 : Nat} {M : me_M} {Q : me_Q} (h : me_r x3 ∧ (x3 < 0 → Q (.inr none) M) ∧ (0 ≤ x3 → 0 ≤ x3 ∧ x3 < ((4816 : Nat) : Int) ∧ let M1 : me_M := me_sI M (a0 + 22) x3.toNat (Int32.ofInt x1); 0 ≤ x3 ∧ x3 < ((4816 : Nat) : Int) ∧ me_W (mt_G N X) 318 d 2 [some (.inr (.inl (some a0, 29, 0))), some (.inl x1), none, some (.inl (me_i M1 (a0 + 21) x3.toNat))] [] M1 Q)) : me_W (mt_G N X) 318 d 2 [some (.inr (.inl (some a0, 29, 0))), some (.inl x1), none, some (.inl x3)] [] M Q := sx_ok (n := 14) (pv := 1) (cut := [(2, [true, true, false, true])]) si_ok_318 h
set_option maxRecDepth 100000 in
theorem b319_0 {N : Nat} {X : Nat → Int32} {d : Nat} {a0 : Nat} {M : me_M} {Q : me_Q} (h : ∃ d', d = d' + 1 ∧ me_W (mt_G N X) 293 d' 0 [some (.inr (.inl (some a0, 29, 0)))] [] M (sx_qI (fun y4 M1 => me_r y4 ∧ me_r 2 ∧ (¬ y4 = 2 → me_r y4 ∧ me_r 1 ∧ (¬ y4 = 1 → me_r y4 ∧ me_r 5 ∧ (¬ y4 = 5 → me_r y4 ∧ me_r 3 ∧ (¬ y4 = 3 → me_W (mt_G N X) 319 d 231 [some (.inr (.inl (some a0, 29, 0))), some (.inl (me_i M a0 35)), none, none, none, none] [] M1 Q) ∧ (y4 = 3 → 0 ≤ me_i M1 a0 35 ∧ me_i M1 a0 35 < ((2408 : Nat) : Int) ∧ me_r (me_i M1 (a0 + 9) (me_i M1 a0 35).toNat) ∧ me_r 15 ∧ (¬ (me_i M1 (a0 + 9) (me_i M1 a0 35).toNat) = 15 → me_r (me_i M1 (a0 + 9) (me_i M1 a0 35).toNat) ∧ me_r 16 ∧ (¬ (me_i M1 (a0 + 9) (me_i M1 a0 35).toNat) = 16 → me_r (me_i M1 (a0 + 9) (me_i M1 a0 35).toNat) ∧ me_r 14 ∧ (¬ (me_i M1 (a0 + 9) (me_i M1 a0 35).toNat) = 14 → me_r (me_i M1 (a0 + 9) (me_i M1 a0 35).toNat) ∧ me_r 13 ∧ (¬ (me_i M1 (a0 + 9) (me_i M1 a0 35).toNat) = 13 → me_r (me_i M1 (a0 + 9) (me_i M1 a0 35).toNat) ∧ me_r 11 ∧ (¬ (me_i M1 (a0 + 9) (me_i M1 a0 35).toNat) = 11 → me_W (mt_G N X) 319 d 165 [some (.inr (.inl (some a0, 29, 0))), some (.inl (me_i M a0 35)), none, some (.inl (me_i M1 (a0 + 9) (me_i M1 a0 35).toNat)), none, none] [.inl (-1)] M1 Q) ∧ ((me_i M1 (a0 + 9) (me_i M1 a0 35).toNat) = 11 → me_W (mt_G N X) 319 d 165 [some (.inr (.inl (some a0, 29, 0))), some (.inl (me_i M a0 35)), none, some (.inl (me_i M1 (a0 + 9) (me_i M1 a0 35).toNat)), none, none] [.inl 6] M1 Q)) ∧ ((me_i M1 (a0 + 9) (me_i M1 a0 35).toNat) = 13 → me_W (mt_G N X) 319 d 165 [some (.inr (.inl (some a0, 29, 0))), some (.inl (me_i M a0 35)), none, some (.inl (me_i M1 (a0 + 9) (me_i M1 a0 35).toNat)), none, none] [.inl 5] M1 Q)) ∧ ((me_i M1 (a0 + 9) (me_i M1 a0 35).toNat) = 14 → me_W (mt_G N X) 319 d 165 [some (.inr (.inl (some a0, 29, 0))), some (.inl (me_i M a0 35)), none, some (.inl (me_i M1 (a0 + 9) (me_i M1 a0 35).toNat)), none, none] [.inl 4] M1 Q)) ∧ ((me_i M1 (a0 + 9) (me_i M1 a0 35).toNat) = 16 → me_W (mt_G N X) 319 d 165 [some (.inr (.inl (some a0, 29, 0))), some (.inl (me_i M a0 35)), none, some (.inl (me_i M1 (a0 + 9) (me_i M1 a0 35).toNat)), none, none] [.inl 3] M1 Q)) ∧ ((me_i M1 (a0 + 9) (me_i M1 a0 35).toNat) = 15 → me_W (mt_G N X) 319 d 165 [some (.inr (.inl (some a0, 29, 0))), some (.inl (me_i M a0 35)), none, some (.inl (me_i M1 (a0 + 9) (me_i M1 a0 35).toNat)), none, none] [.inl 2] M1 Q))) ∧ (y4 = 5 → ∃ d', d = d' + 1 ∧ me_W (mt_G N X) 299 d' 0 [some (.inr (.inl (some a0, 29, 0)))] [] M1 (sx_qI (fun y8 M5 => ∃ d', d = d' + 1 ∧ me_W (mt_G N X) 321 d' 0 [some (.inr (.inl (some a0, 29, 0))), some (.inl (me_i M a0 35)), none, none, none] [] M5 (sx_qI (fun y12 M9 => Q (.inr (some (.inl y12))) M9) (fun e11 M10 => Q (.inl e11) M10))) (fun e7 M6 => Q (.inl e7) M6)))) ∧ (y4 = 1 → ∃ d', d = d' + 1 ∧ me_W (mt_G N X) 299 d' 0 [some (.inr (.inl (some a0, 29, 0)))] [] M1 (sx_qI (fun y16 M13 => ∃ d', d = d' + 1 ∧ me_W (mt_G N X) 307 d' 0 [some (.inr (.inl (some a0, 29, 0))), some (.inl 40)] [] M13 (sx_qI (fun y20 M17 => me_r y20 ∧ (y20 = 0 → ∃ d', d = d' + 1 ∧ me_W (mt_G N X) 317 d' 0 [some (.inr (.inl (some a0, 29, 0))), some (.inl 7), some (.inl (-1)), some (.inl (-1)), some (.inl (-1)), some (.inl (me_i M a0 35)), some (.inl (me_i M a0 35)), none] [] M17 (sx_qI (fun y24 M21 => Q (.inr (some (.inl y24))) M21) (fun e23 M22 => Q (.inl e23) M22))) ∧ (¬ y20 = 0 → ∃ d', d = d' + 1 ∧ me_W (mt_G N X) 320 d' 0 [some (.inr (.inl (some a0, 29, 0))), none, none, none] [] M17 (sx_qI (fun y28 M25 => ∃ d', d = d' + 1 ∧ me_W (mt_G N X) 317 d' 0 [some (.inr (.inl (some a0, 29, 0))), some (.inl 8), some (.inl y28), some (.inl (-1)), some (.inl (-1)), some (.inl (me_i M a0 35)), some (.inl (me_i M a0 35)), none] [] M25 (sx_qI (fun y32 M29 => Q (.inr (some (.inl y32))) M29) (fun e31 M30 => Q (.inl e31) M30))) (fun e27 M26 => Q (.inl e27) M26)))) (fun e19 M18 => Q (.inl e19) M18))) (fun e15 M14 => Q (.inl e15) M14)))) ∧ (y4 = 2 → ∃ d', d = d' + 1 ∧ me_W (mt_G N X) 299 d' 0 [some (.inr (.inl (some a0, 29, 0)))] [] M1 (sx_qI (fun y36 M33 => ∃ d', d = d' + 1 ∧ me_W (mt_G N X) 317 d' 0 [some (.inr (.inl (some a0, 29, 0))), some (.inl 1), some (.inl (-1)), some (.inl (-1)), some (.inl (-1)), some (.inl (me_i M a0 35)), some (.inl (me_i M a0 35)), none] [] M33 (sx_qI (fun y40 M37 => Q (.inr (some (.inl y40))) M37) (fun e39 M38 => Q (.inl e39) M38))) (fun e35 M34 => Q (.inl e35) M34)))) (fun e3 M2 => Q (.inl e3) M2))) : me_W (mt_G N X) 319 d 0 [some (.inr (.inl (some a0, 29, 0))), none, none, none, none, none] [] M Q := sx_ok (n := 43) (pv := 1) (cut := [(165, [true, true, false, true, false, false]), (231, [true, true, false, false, false, false]), (244, [true, true, false, false, false, false])]) si_ok_319 h
set_option maxRecDepth 100000 in
theorem b319_165 {N : Nat} {X : Nat → Int32} {d : Nat} {x1 x3 xs0 : Int} {a0 : Nat} {M : me_M} {Q : me_Q} (h : me_r xs0 ∧ (xs0 ≤ 0 → me_r x3 ∧ me_r 12 ∧ (¬ x3 = 12 → me_W (mt_G N X) 319 d 231 [some (.inr (.inl (some a0, 29, 0))), some (.inl x1), none, none, none, none] [] M Q) ∧ (x3 = 12 → ∃ d', d = d' + 1 ∧ me_W (mt_G N X) 299 d' 0 [some (.inr (.inl (some a0, 29, 0)))] [] M (sx_qI (fun y4 M1 => ∃ d', d = d' + 1 ∧ me_W (mt_G N X) 304 d' 0 [some (.inr (.inl (some a0, 29, 0)))] [] M1 (sx_qI (fun y8 M5 => ∃ d', d = d' + 1 ∧ me_W (mt_G N X) 305 d' 0 [some (.inr (.inl (some a0, 29, 0))), some (.inl 40)] [] M5 (sx_qV (fun M9 => ∃ d', d = d' + 1 ∧ me_W (mt_G N X) 305 d' 0 [some (.inr (.inl (some a0, 29, 0))), some (.inl 41)] [] M9 (sx_qV (fun M12 => ∃ d', d = d' + 1 ∧ me_W (mt_G N X) 317 d' 0 [some (.inr (.inl (some a0, 29, 0))), some (.inl 9), some (.inl (-1)), some (.inl (-1)), some (.inl (-1)), some (.inl y8), some (.inl x1), none] [] M12 (sx_qI (fun y18 M15 => Q (.inr (some (.inl y18))) M15) (fun e17 M16 => Q (.inl e17) M16))) (fun e14 M13 => Q (.inl e14) M13))) (fun e11 M10 => Q (.inl e11) M10))) (fun e7 M6 => Q (.inl e7) M6))) (fun e3 M2 => Q (.inl e3) M2)))) ∧ (0 < xs0 → ∃ d', d = d' + 1 ∧ me_W (mt_G N X) 299 d' 0 [some (.inr (.inl (some a0, 29, 0)))] [] M (sx_qI (fun y22 M19 => ∃ d', d = d' + 1 ∧ me_W (mt_G N X) 317 d' 0 [some (.inr (.inl (some a0, 29, 0))), some (.inl xs0), some (.inl (-1)), some (.inl (-1)), some (.inl (-1)), some (.inl (-1)), some (.inl x1), none] [] M19 (sx_qI (fun y26 M23 => Q (.inr (some (.inl y26))) M23) (fun e25 M24 => Q (.inl e25) M24))) (fun e21 M20 => Q (.inl e21) M20)))) : me_W (mt_G N X) 319 d 165 [some (.inr (.inl (some a0, 29, 0))), some (.inl x1), none, some (.inl x3), none, none] [.inl xs0] M Q := sx_ok (n := 28) (pv := 1) (cut := [(165, [true, true, false, true, false, false]), (231, [true, true, false, false, false, false]), (244, [true, true, false, false, false, false])]) si_ok_319 h
set_option maxRecDepth 100000 in
theorem b319_231 {N : Nat} {X : Nat → Int32} {d : Nat} {x1 : Int} {a0 : Nat} {M : me_M} {Q : me_Q} (h : ∃ d', d = d' + 1 ∧ me_W (mt_G N X) 307 d' 0 [some (.inr (.inl (some a0, 29, 0))), some (.inl 40)] [] M (sx_qI (fun y4 M1 => me_r y4 ∧ (¬ y4 = 0 → me_W (mt_G N X) 319 d 244 [some (.inr (.inl (some a0, 29, 0))), some (.inl x1), none, none, none, none] [] M1 Q) ∧ (y4 = 0 → ∃ d', d = d' + 1 ∧ me_W (mt_G N X) 297 d' 0 [some (.inr (.inl (some a0, 29, 0)))] [] M1 (sx_qV (fun M5 => me_W (mt_G N X) 319 d 244 [some (.inr (.inl (some a0, 29, 0))), some (.inl x1), none, none, none, none] [] M5 Q) (fun e7 M6 => Q (.inl e7) M6)))) (fun e3 M2 => Q (.inl e3) M2))) : me_W (mt_G N X) 319 d 231 [some (.inr (.inl (some a0, 29, 0))), some (.inl x1), none, none, none, none] [] M Q := sx_ok (n := 7) (pv := 1) (cut := [(165, [true, true, false, true, false, false]), (231, [true, true, false, false, false, false]), (244, [true, true, false, false, false, false])]) si_ok_319 h
set_option maxRecDepth 100000 in
theorem b319_244 {N : Nat} {X : Nat → Int32} {d : Nat} {x1 : Int} {a0 : Nat} {M : me_M} {Q : me_Q} (h : ∃ d', d = d' + 1 ∧ me_W (mt_G N X) 299 d' 0 [some (.inr (.inl (some a0, 29, 0)))] [] M (sx_qI (fun y4 M1 => ∃ d', d = d' + 1 ∧ me_W (mt_G N X) 311 d' 0 [some (.inr (.inl (some a0, 29, 0)))] [] M1 (sx_qV (fun M5 => ∃ d', d = d' + 1 ∧ me_W (mt_G N X) 314 d' 0 [some (.inr (.inl (some a0, 29, 0)))] [] M5 (sx_qI (fun y11 M8 => let M12 : me_M := me_sI M8 a0 37 (Int32.ofInt ((me_i M8 a0 37) - 1)); ∃ d', d = d' + 1 ∧ me_W (mt_G N X) 305 d' 0 [some (.inr (.inl (some a0, 29, 0))), some (.inl 41)] [] M12 (sx_qV (fun M13 => ∃ d', d = d' + 1 ∧ me_W (mt_G N X) 317 d' 0 [some (.inr (.inl (some a0, 29, 0))), some (.inl 10), some (.inl y11), some (.inl (-1)), some (.inl (-1)), some (.inl (-1)), some (.inl x1), none] [] M13 (sx_qI (fun y19 M16 => Q (.inr (some (.inl y19))) M16) (fun e18 M17 => Q (.inl e18) M17))) (fun e15 M14 => Q (.inl e15) M14))) (fun e10 M9 => Q (.inl e10) M9))) (fun e7 M6 => Q (.inl e7) M6))) (fun e3 M2 => Q (.inl e3) M2))) : me_W (mt_G N X) 319 d 244 [some (.inr (.inl (some a0, 29, 0))), some (.inl x1), none, none, none, none] [] M Q := sx_ok (n := 27) (pv := 1) (cut := [(165, [true, true, false, true, false, false]), (231, [true, true, false, false, false, false]), (244, [true, true, false, false, false, false])]) si_ok_319 h
set_option maxRecDepth 100000 in
theorem b320_0 {N : Nat} {X : Nat → Int32} {d : Nat} {a0 : Nat} {M : me_M} {Q : me_Q} (h : ∃ d', d = d' + 1 ∧ me_W (mt_G N X) 305 d' 0 [some (.inr (.inl (some a0, 29, 0))), some (.inl 40)] [] M (sx_qV (fun M1 => ∃ d', d = d' + 1 ∧ me_W (mt_G N X) 306 d' 0 [some (.inr (.inl (some a0, 29, 0))), some (.inl 41)] [] M1 (sx_qI (fun y7 M4 => me_r y7 ∧ (y7 = 0 → ∃ d', d = d' + 1 ∧ me_W (mt_G N X) 311 d' 0 [some (.inr (.inl (some a0, 29, 0)))] [] M4 (sx_qV (fun M8 => me_W (mt_G N X) 320 d 25 [some (.inr (.inl (some a0, 29, 0))), some (.inl (-1)), some (.inl (-1)), none] [] M8 Q) (fun e10 M9 => Q (.inl e10) M9))) ∧ (¬ y7 = 0 → Q (.inr (some (.inl (-1)))) M4)) (fun e6 M5 => Q (.inl e6) M5))) (fun e3 M2 => Q (.inl e3) M2))) : me_W (mt_G N X) 320 d 0 [some (.inr (.inl (some a0, 29, 0))), none, none, none] [] M Q := sx_ok (n := 14) (pv := 1) (cut := [(25, [true, true, true, false])]) si_ok_320 h
set_option maxRecDepth 100000 in
theorem b320_25 {N : Nat} {X : Nat → Int32} {d : Nat} {x1 x2 : Int} {a0 : Nat} {M : me_M} {Q : me_Q} (h : ∃ d', d = d' + 1 ∧ me_W (mt_G N X) 314 d' 0 [some (.inr (.inl (some a0, 29, 0)))] [] M (sx_qI (fun y4 M1 => me_r x2 ∧ (0 ≤ x2 → 0 ≤ x2 ∧ x2 < ((4816 : Nat) : Int) ∧ let M5 : me_M := me_sI M1 (a0 + 21) x2.toNat (Int32.ofInt y4); ∃ d', d = d' + 1 ∧ me_W (mt_G N X) 306 d' 0 [some (.inr (.inl (some a0, 29, 0))), some (.inl 44)] [] M5 (sx_qI (fun y9 M6 => me_r y9 ∧ (¬ y9 = 0 → me_W (mt_G N X) 320 d 25 [some (.inr (.inl (some a0, 29, 0))), some (.inl x1), some (.inl y4), none] [] M6 Q) ∧ (y9 = 0 → let M10 : me_M := me_sI M6 a0 37 (Int32.ofInt ((me_i M6 a0 37) - 1)); ∃ d', d = d' + 1 ∧ me_W (mt_G N X) 305 d' 0 [some (.inr (.inl (some a0, 29, 0))), some (.inl 41)] [] M10 (sx_qV (fun M11 => Q (.inr (some (.inl x1))) M11) (fun e13 M12 => Q (.inl e13) M12)))) (fun e8 M7 => Q (.inl e8) M7))) ∧ (x2 < 0 → ∃ d', d = d' + 1 ∧ me_W (mt_G N X) 306 d' 0 [some (.inr (.inl (some a0, 29, 0))), some (.inl 44)] [] M1 (sx_qI (fun y17 M14 => me_r y17 ∧ (¬ y17 = 0 → me_W (mt_G N X) 320 d 25 [some (.inr (.inl (some a0, 29, 0))), some (.inl y4), some (.inl y4), none] [] M14 Q) ∧ (y17 = 0 → let M18 : me_M := me_sI M14 a0 37 (Int32.ofInt ((me_i M14 a0 37) - 1)); ∃ d', d = d' + 1 ∧ me_W (mt_G N X) 305 d' 0 [some (.inr (.inl (some a0, 29, 0))), some (.inl 41)] [] M18 (sx_qV (fun M19 => Q (.inr (some (.inl y4))) M19) (fun e21 M20 => Q (.inl e21) M20)))) (fun e16 M15 => Q (.inl e16) M15)))) (fun e3 M2 => Q (.inl e3) M2))) : me_W (mt_G N X) 320 d 25 [some (.inr (.inl (some a0, 29, 0))), some (.inl x1), some (.inl x2), none] [] M Q := sx_ok (n := 28) (pv := 1) (cut := [(25, [true, true, true, false])]) si_ok_320 h
set_option maxRecDepth 100000 in
theorem b321_0 {N : Nat} {X : Nat → Int32} {d : Nat} {x1 : Int} {a0 : Nat} {M : me_M} {Q : me_Q} (h : 0 ≤ x1 ∧ x1 < ((2408 : Nat) : Int) ∧ me_r ((Int32.ofInt ((mv_f_ishr (Int32.ofInt (me_i M a0 43)) (Int32.ofInt ((me_i M (a0 + 9) x1.toNat) - 97))).toInt) &&& Int32.ofInt 1).toInt) ∧ me_r 1 ∧ (¬ ((Int32.ofInt ((mv_f_ishr (Int32.ofInt (me_i M a0 43)) (Int32.ofInt ((me_i M (a0 + 9) x1.toNat) - 97))).toInt) &&& Int32.ofInt 1).toInt) = 1 → me_W (mt_G N X) 321 d 30 [some (.inr (.inl (some a0, 29, 0))), some (.inl x1), some (.inl ((me_i M (a0 + 9) x1.toNat) - 97)), none, none] [.inl 0] M Q) ∧ (((Int32.ofInt ((mv_f_ishr (Int32.ofInt (me_i M a0 43)) (Int32.ofInt ((me_i M (a0 + 9) x1.toNat) - 97))).toInt) &&& Int32.ofInt 1).toInt) = 1 → me_W (mt_G N X) 321 d 30 [some (.inr (.inl (some a0, 29, 0))), some (.inl x1), some (.inl ((me_i M (a0 + 9) x1.toNat) - 97)), none, none] [.inl 1] M Q)) : me_W (mt_G N X) 321 d 0 [some (.inr (.inl (some a0, 29, 0))), some (.inl x1), none, none, none] [] M Q := sx_ok (n := 19) (pv := 1) (cut := [(30, [true, true, true, false, false]), (48, [true, true, true, true, false]), (75, [true, true, true, true, false]), (85, [true, true, true, false, false]), (132, [true, true, true, false, false]), (135, [true, true, true, true, false]), (146, [true, true, true, false, false])]) si_ok_321 h
set_option maxRecDepth 100000 in
theorem b321_30 {N : Nat} {X : Nat → Int32} {d : Nat} {x1 x2 xs0 : Int} {a0 : Nat} {M : me_M} {Q : me_Q} (h : me_r (me_i M a0 42) ∧ ((me_i M a0 42) = 0 → me_W (mt_G N X) 321 d 48 [some (.inr (.inl (some a0, 29, 0))), some (.inl x1), some (.inl x2), some (.inl xs0), none] [] M Q) ∧ (¬ (me_i M a0 42) = 0 → me_r xs0 ∧ (¬ xs0 = 0 → me_W (mt_G N X) 321 d 48 [some (.inr (.inl (some a0, 29, 0))), some (.inl x1), some (.inl x2), some (.inl xs0), none] [] M Q) ∧ (xs0 = 0 → ∃ d', d = d' + 1 ∧ me_W (mt_G N X) 322 d' 0 [some (.inr (.inl (some a0, 29, 0))), some (.inl 4), some (.inl x1)] [] M (sx_qV (fun M1 => me_W (mt_G N X) 321 d 48 [some (.inr (.inl (some a0, 29, 0))), some (.inl x1), some (.inl x2), some (.inl xs0), none] [] M1 Q) (fun e3 M2 => Q (.inl e3) M2))))) : me_W (mt_G N X) 321 d 30 [some (.inr (.inl (some a0, 29, 0))), some (.inl x1), some (.inl x2), none, none] [.inl xs0] M Q := sx_ok (n := 11) (pv := 1) (cut := [(30, [true, true, true, false, false]), (48, [true, true, true, true, false]), (75, [true, true, true, true, false]), (85, [true, true, true, false, false]), (132, [true, true, true, false, false]), (135, [true, true, true, true, false]), (146, [true, true, true, false, false])]) si_ok_321 h
set_option maxRecDepth 100000 in
theorem b321_48 {N : Nat} {X : Nat → Int32} {d : Nat} {x1 x2 x3 : Int} {a0 : Nat} {M : me_M} {Q : me_Q} (h : me_r (me_i M a0 42) ∧ (¬ (me_i M a0 42) = 0 → me_W (mt_G N X) 321 d 135 [some (.inr (.inl (some a0, 29, 0))), some (.inl x1), some (.inl x2), some (.inl x3), none] [] M Q) ∧ ((me_i M a0 42) = 0 → ∃ d', d = d' + 1 ∧ me_W (mt_G N X) 306 d' 0 [some (.inr (.inl (some a0, 29, 0))), some (.inl 58)] [] M (sx_qI (fun y4 M1 => me_r y4 ∧ (y4 = 0 → me_W (mt_G N X) 321 d 135 [some (.inr (.inl (some a0, 29, 0))), some (.inl x1), some (.inl x2), some (.inl x3), none] [] M1 Q) ∧ (¬ y4 = 0 → ∃ d', d = d' + 1 ∧ me_W (mt_G N X) 309 d' 0 [some (.inr (.inl (some a0, 29, 0)))] [] M1 (sx_qI (fun y8 M5 => me_r y8 ∧ (¬ y8 = 0 → me_W (mt_G N X) 321 d 75 [some (.inr (.inl (some a0, 29, 0))), some (.inl x1), some (.inl x2), some (.inl x3), none] [] M5 Q) ∧ (y8 = 0 → ∃ d', d = d' + 1 ∧ me_W (mt_G N X) 297 d' 0 [some (.inr (.inl (some a0, 29, 0)))] [] M5 (sx_qV (fun M9 => me_W (mt_G N X) 321 d 75 [some (.inr (.inl (some a0, 29, 0))), some (.inl x1), some (.inl x2), some (.inl x3), none] [] M9 Q) (fun e11 M10 => Q (.inl e11) M10)))) (fun e7 M6 => Q (.inl e7) M6)))) (fun e3 M2 => Q (.inl e3) M2)))) : me_W (mt_G N X) 321 d 48 [some (.inr (.inl (some a0, 29, 0))), some (.inl x1), some (.inl x2), some (.inl x3), none] [] M Q := sx_ok (n := 13) (pv := 1) (cut := [(30, [true, true, true, false, false]), (48, [true, true, true, true, false]), (75, [true, true, true, true, false]), (85, [true, true, true, false, false]), (132, [true, true, true, false, false]), (135, [true, true, true, true, false]), (146, [true, true, true, false, false])]) si_ok_321 h
set_option maxRecDepth 100000 in
theorem b321_75 {N : Nat} {X : Nat → Int32} {d : Nat} {x1 x2 x3 : Int} {a0 : Nat} {M : me_M} {Q : me_Q} (h : me_r x3 ∧ (x3 = 0 → me_W (mt_G N X) 321 d 85 [some (.inr (.inl (some a0, 29, 0))), some (.inl x1), some (.inl x2), none, none] [] M Q) ∧ (¬ x3 = 0 → ∃ d', d = d' + 1 ∧ me_W (mt_G N X) 322 d' 0 [some (.inr (.inl (some a0, 29, 0))), some (.inl 4), some (.inl x1)] [] M (sx_qV (fun M1 => me_W (mt_G N X) 321 d 85 [some (.inr (.inl (some a0, 29, 0))), some (.inl x1), some (.inl x2), none, none] [] M1 Q) (fun e3 M2 => Q (.inl e3) M2)))) : me_W (mt_G N X) 321 d 75 [some (.inr (.inl (some a0, 29, 0))), some (.inl x1), some (.inl x2), some (.inl x3), none] [] M Q := sx_ok (n := 7) (pv := 1) (cut := [(30, [true, true, true, false, false]), (48, [true, true, true, true, false]), (75, [true, true, true, true, false]), (85, [true, true, true, false, false]), (132, [true, true, true, false, false]), (135, [true, true, true, true, false]), (146, [true, true, true, false, false])]) si_ok_321 h
set_option maxRecDepth 100000 in
theorem b321_85 {N : Nat} {X : Nat → Int32} {d : Nat} {x1 x2 : Int} {a0 : Nat} {M : me_M} {Q : me_Q} (h : ∃ d', d = d' + 1 ∧ me_W (mt_G N X) 299 d' 0 [some (.inr (.inl (some a0, 29, 0)))] [] M (sx_qI (fun y4 M1 => ∃ d', d = d' + 1 ∧ me_W (mt_G N X) 323 d' 0 [some (.inr (.inl (me_p M1 164 52, 29, 0))), some (.inr (.inl (some (a0 + 7), 31, 0))), some (.inl y4), some (.inr (.inl (some a0, 29, 0))), none] [] M1 (sx_qI (fun y8 M5 => 0 ≤ x2 ∧ x2 < ((26 : Nat) : Int) ∧ let M9 : me_M := me_sI M5 (a0 + 40) x2.toNat (Int32.ofInt y8); 0 ≤ x2 ∧ x2 < ((26 : Nat) : Int) ∧ me_r (me_i M9 (a0 + 40) x2.toNat) ∧ me_r (-5) ∧ (¬ (me_i M9 (a0 + 40) x2.toNat) = (-5) → me_W (mt_G N X) 321 d 132 [some (.inr (.inl (some a0, 29, 0))), some (.inl x1), some (.inl x2), none, none] [] M9 Q) ∧ ((me_i M9 (a0 + 40) x2.toNat) = (-5) → ∃ d', d = d' + 1 ∧ me_W (mt_G N X) 322 d' 0 [some (.inr (.inl (some a0, 29, 0))), some (.inl 5), some (.inl y4)] [] M9 (sx_qV (fun M10 => me_W (mt_G N X) 321 d 132 [some (.inr (.inl (some a0, 29, 0))), some (.inl x1), some (.inl x2), none, none] [] M10 Q) (fun e12 M11 => Q (.inl e12) M11)))) (fun e7 M6 => Q (.inl e7) M6))) (fun e3 M2 => Q (.inl e3) M2))) : me_W (mt_G N X) 321 d 85 [some (.inr (.inl (some a0, 29, 0))), some (.inl x1), some (.inl x2), none, none] [] M Q := sx_ok (n := 26) (pv := 1) (cut := [(30, [true, true, true, false, false]), (48, [true, true, true, true, false]), (75, [true, true, true, true, false]), (85, [true, true, true, false, false]), (132, [true, true, true, false, false]), (135, [true, true, true, true, false]), (146, [true, true, true, false, false])]) si_ok_321 h
set_option maxRecDepth 100000 in
theorem b321_132 {N : Nat} {X : Nat → Int32} {d : Nat} {x1 x2 : Int} {a0 : Nat} {M : me_M} {Q : me_Q} (h : me_W (mt_G N X) 321 d 146 [some (.inr (.inl (some a0, 29, 0))), some (.inl x1), some (.inl x2), none, none] [] M Q) : me_W (mt_G N X) 321 d 132 [some (.inr (.inl (some a0, 29, 0))), some (.inl x1), some (.inl x2), none, none] [] M Q := sx_ok (n := 2) (pv := 1) (cut := [(30, [true, true, true, false, false]), (48, [true, true, true, true, false]), (75, [true, true, true, true, false]), (85, [true, true, true, false, false]), (132, [true, true, true, false, false]), (135, [true, true, true, true, false]), (146, [true, true, true, false, false])]) si_ok_321 h
set_option maxRecDepth 100000 in
theorem b321_135 {N : Nat} {X : Nat → Int32} {d : Nat} {x1 x2 x3 : Int} {a0 : Nat} {M : me_M} {Q : me_Q} (h : me_r x3 ∧ (¬ x3 = 0 → me_W (mt_G N X) 321 d 146 [some (.inr (.inl (some a0, 29, 0))), some (.inl x1), some (.inl x2), none, none] [] M Q) ∧ (x3 = 0 → 0 ≤ x2 ∧ x2 < ((26 : Nat) : Int) ∧ let M1 : me_M := me_sI M (a0 + 40) x2.toNat (Int32.ofInt (-1)); me_W (mt_G N X) 321 d 146 [some (.inr (.inl (some a0, 29, 0))), some (.inl x1), some (.inl x2), none, none] [] M1 Q)) : me_W (mt_G N X) 321 d 135 [some (.inr (.inl (some a0, 29, 0))), some (.inl x1), some (.inl x2), some (.inl x3), none] [] M Q := sx_ok (n := 8) (pv := 1) (cut := [(30, [true, true, true, false, false]), (48, [true, true, true, true, false]), (75, [true, true, true, true, false]), (85, [true, true, true, false, false]), (132, [true, true, true, false, false]), (135, [true, true, true, true, false]), (146, [true, true, true, false, false])]) si_ok_321 h
set_option maxRecDepth 100000 in
theorem b321_146 {N : Nat} {X : Nat → Int32} {d : Nat} {x1 x2 : Int} {a0 : Nat} {M : me_M} {Q : me_Q} (h : let M1 : me_M := me_sI M a0 43 (Int32.ofInt ((Int32.ofInt (me_i M a0 43) ||| Int32.ofInt ((mv_f_ishl (Int32.ofInt 1) (Int32.ofInt x2)).toInt)).toInt)); ∃ d', d = d' + 1 ∧ me_W (mt_G N X) 317 d' 0 [some (.inr (.inl (some a0, 29, 0))), some (.inl 16), some (.inl (-1)), some (.inl (-1)), some (.inl (-1)), some (.inl x1), some (.inl x1), none] [] M1 (sx_qI (fun y5 M2 => Q (.inr (some (.inl y5))) M2) (fun e4 M3 => Q (.inl e4) M3))) : me_W (mt_G N X) 321 d 146 [some (.inr (.inl (some a0, 29, 0))), some (.inl x1), some (.inl x2), none, none] [] M Q := sx_ok (n := 18) (pv := 1) (cut := [(30, [true, true, true, false, false]), (48, [true, true, true, true, false]), (75, [true, true, true, true, false]), (85, [true, true, true, false, false]), (132, [true, true, true, false, false]), (135, [true, true, true, true, false]), (146, [true, true, true, false, false])]) si_ok_321 h
set_option maxRecDepth 100000 in
theorem b322_0 {N : Nat} {X : Nat → Int32} {d : Nat} {x1 x2 : Int} {a0 : Nat} {M : me_M} {Q : me_Q} (h : me_r (me_i M a0 45) ∧ (¬ (me_i M a0 45) = 0 → Q (.inr none) M) ∧ ((me_i M a0 45) = 0 → let M1 : me_M := me_sI M a0 45 (Int32.ofInt x1); ∃ d', d = d' + 1 ∧ me_W (mt_G N X) 294 d' 0 [some (.inr (.inl (some a0, 29, 0))), some (.inl x2)] [] M1 (sx_qI (fun y5 M2 => let M6 : me_M := me_sI M2 a0 46 (Int32.ofInt y5); Q (.inr none) M6) (fun e4 M3 => Q (.inl e4) M3)))) : me_W (mt_G N X) 322 d 0 [some (.inr (.inl (some a0, 29, 0))), some (.inl x1), some (.inl x2)] [] M Q := sx_ok (n := 13) (pv := 1) (cut := []) si_ok_322 h
set_option maxRecDepth 100000 in
theorem b323_0 {N : Nat} {X : Nat → Int32} {d : Nat} {x2 : Int} {a0 a1 a3 : Nat} {M : me_M} {Q : me_Q} (h : 0 ≤ x2 ∧ x2 < ((2408 : Nat) : Int) ∧ me_r (me_i M (a1 + 1) x2.toNat) ∧ me_r 3 ∧ (¬ (me_i M (a1 + 1) x2.toNat) = 3 → ∃ d', d = d' + 1 ∧ me_W (mt_G N X) 325 d' 0 [some (.inr (.inl (some a0, 29, 0))), some (.inr (.inl (some (a3), 29, 0))), some (.inl x2), none] [] M (sx_qI (fun y4 M1 => me_r y4 ∧ (0 ≤ y4 → Q (.inr (some (.inl (10 + y4)))) M1) ∧ (y4 < 0 → Q (.inr (some (.inl (-5)))) M1)) (fun e3 M2 => Q (.inl e3) M2))) ∧ ((me_i M (a1 + 1) x2.toNat) = 3 → ∃ d', d = d' + 1 ∧ me_W (mt_G N X) 324 d' 0 [some (.inr (.inl (some (a1), 31, 0))), some (.inl x2)] [] M (sx_qI (fun y8 M5 => Q (.inr (some (.inl y8))) M5) (fun e7 M6 => Q (.inl e7) M6)))) : me_W (mt_G N X) 323 d 0 [some (.inr (.inl (some a0, 29, 0))), some (.inr (.inl (some (a1), 31, 0))), some (.inl x2), some (.inr (.inl (some (a3), 29, 0))), none] [] M Q := sx_ok (n := 18) (pv := 1) (cut := []) si_ok_323 h
set_option maxRecDepth 100000 in
theorem b324_0 {N : Nat} {X : Nat → Int32} {d : Nat} {x1 : Int} {a0 : Nat} {M : me_M} {Q : me_Q} (h : 0 ≤ x1 ∧ x1 < ((2408 : Nat) : Int) ∧ me_r (me_i M (a0 + 2) x1.toNat) ∧ me_r 3 ∧ (¬ (me_i M (a0 + 2) x1.toNat) = 3 → 0 ≤ x1 ∧ x1 < ((2408 : Nat) : Int) ∧ me_r (me_i M (a0 + 2) x1.toNat) ∧ me_r 4 ∧ (¬ (me_i M (a0 + 2) x1.toNat) = 4 → Q (.inr (some (.inl 3))) M) ∧ ((me_i M (a0 + 2) x1.toNat) = 4 → Q (.inr (some (.inl 1))) M)) ∧ ((me_i M (a0 + 2) x1.toNat) = 3 → Q (.inr (some (.inl 0))) M)) : me_W (mt_G N X) 324 d 0 [some (.inr (.inl (some a0, 31, 0))), some (.inl x1)] [] M Q := sx_ok (n := 16) (pv := 1) (cut := []) si_ok_324 h
set_option maxRecDepth 100000 in
theorem b325_0 {N : Nat} {X : Nat → Int32} {d : Nat} {x2 : Int} {a0 a1 : Nat} {M : me_M} {Q : me_Q} (h : me_W (mt_G N X) 325 d 2 [some (.inr (.inl (some a0, 29, 0))), some (.inr (.inl (some (a1), 29, 0))), some (.inl x2), some (.inl 0)] [] M Q) : me_W (mt_G N X) 325 d 0 [some (.inr (.inl (some a0, 29, 0))), some (.inr (.inl (some (a1), 29, 0))), some (.inl x2), none] [] M Q := sx_ok (n := 3) (pv := 1) (cut := [(2, [true, true, true, true])]) si_ok_325 h
set_option maxRecDepth 100000 in
theorem b325_2 {N : Nat} {X : Nat → Int32} {d : Nat} {x2 x3 : Int} {a0 a1 : Nat} {M : me_M} {Q : me_Q} (h : me_r x3 ∧ me_r (me_i M a0 27) ∧ ((me_i M a0 27) ≤ x3 → Q (.inr (some (.inl (-1)))) M) ∧ (x3 < (me_i M a0 27) → 0 ≤ x3 ∧ x3 < ((8 : Nat) : Int) ∧ 0 ≤ me_i M (a0 + 35) x3.toNat ∧ me_i M (a0 + 35) x3.toNat < ((2408 : Nat) : Int) ∧ ∃ d', d = d' + 1 ∧ me_W (mt_G N X) 326 d' 0 [some (.inr (.inl (some a0, 29, 0))), some (.inl (me_i M (a0 + 26) (me_i M (a0 + 35) x3.toNat).toNat)), some (.inr (.inl (some (a1), 29, 0))), some (.inl x2), none, none] [] M (sx_qI (fun y4 M1 => me_r y4 ∧ (y4 = 0 → me_W (mt_G N X) 325 d 2 [some (.inr (.inl (some a0, 29, 0))), some (.inr (.inl (some (a1), 29, 0))), some (.inl x2), some (.inl (x3 + 1))] [] M1 Q) ∧ (¬ y4 = 0 → Q (.inr (some (.inl x3))) M1)) (fun e3 M2 => Q (.inl e3) M2)))) : me_W (mt_G N X) 325 d 2 [some (.inr (.inl (some a0, 29, 0))), some (.inr (.inl (some (a1), 29, 0))), some (.inl x2), some (.inl x3)] [] M Q := sx_ok (n := 19) (pv := 1) (cut := [(2, [true, true, true, true])]) si_ok_325 h
set_option maxRecDepth 100000 in
theorem b326_0 {N : Nat} {X : Nat → Int32} {d : Nat} {x1 x3 : Int} {a0 a2 : Nat} {M : me_M} {Q : me_Q} (h : 0 ≤ x1 ∧ x1 < ((2408 : Nat) : Int) ∧ 0 ≤ x3 ∧ x3 < ((2408 : Nat) : Int) ∧ me_r (me_i M (a0 + 11) x1.toNat) ∧ me_r (me_i M (a2 + 11) x3.toNat) ∧ (¬ (me_i M (a0 + 11) x1.toNat) = (me_i M (a2 + 11) x3.toNat) → me_W (mt_G N X) 326 d 31 [some (.inr (.inl (some a0, 29, 0))), some (.inl x1), some (.inr (.inl (some (a2), 29, 0))), some (.inl x3), some (.inl 0), some (.inl 0)] [] M Q) ∧ ((me_i M (a0 + 11) x1.toNat) = (me_i M (a2 + 11) x3.toNat) → me_W (mt_G N X) 326 d 31 [some (.inr (.inl (some a0, 29, 0))), some (.inl x1), some (.inr (.inl (some (a2), 29, 0))), some (.inl x3), some (.inl 1), some (.inl 0)] [] M Q)) : me_W (mt_G N X) 326 d 0 [some (.inr (.inl (some a0, 29, 0))), some (.inl x1), some (.inr (.inl (some (a2), 29, 0))), some (.inl x3), none, none] [] M Q := sx_ok (n := 17) (pv := 1) (cut := [(31, [true, true, true, true, true, true])]) si_ok_326 h
set_option maxRecDepth 100000 in
theorem b326_31 {N : Nat} {X : Nat → Int32} {d : Nat} {x1 x3 x4 x5 : Int} {a0 a2 : Nat} {M : me_M} {Q : me_Q} (h : 0 ≤ x1 ∧ x1 < ((2408 : Nat) : Int) ∧ me_r x5 ∧ me_r (me_i M (a0 + 11) x1.toNat) ∧ ((me_i M (a0 + 11) x1.toNat) ≤ x5 → (x4 = 0 ∨ x4 = 1) ∧ Q (.inr (some (.inl x4))) M) ∧ (x5 < (me_i M (a0 + 11) x1.toNat) → me_r x4 ∧ (x4 = 0 → (x4 = 0 ∨ x4 = 1) ∧ Q (.inr (some (.inl x4))) M) ∧ (¬ x4 = 0 → ∃ d', d = d' + 1 ∧ me_W (mt_G N X) 327 d' 0 [some (.inr (.inl (some a0, 29, 0))), some (.inl x1), some (.inl x5)] [] M (sx_qI (fun y4 M1 => ∃ d', d = d' + 1 ∧ me_W (mt_G N X) 327 d' 0 [some (.inr (.inl (some (a2), 29, 0))), some (.inl x3), some (.inl x5)] [] M1 (sx_qI (fun y8 M5 => me_r y4 ∧ me_r y8 ∧ (¬ y4 = y8 → me_W (mt_G N X) 326 d 31 [some (.inr (.inl (some a0, 29, 0))), some (.inl x1), some (.inr (.inl (some (a2), 29, 0))), some (.inl x3), some (.inl 0), some (.inl (x5 + 1))] [] M5 Q) ∧ (y4 = y8 → me_W (mt_G N X) 326 d 31 [some (.inr (.inl (some a0, 29, 0))), some (.inl x1), some (.inr (.inl (some (a2), 29, 0))), some (.inl x3), some (.inl 1), some (.inl (x5 + 1))] [] M5 Q)) (fun e7 M6 => Q (.inl e7) M6))) (fun e3 M2 => Q (.inl e3) M2))))) : me_W (mt_G N X) 326 d 31 [some (.inr (.inl (some a0, 29, 0))), some (.inl x1), some (.inr (.inl (some (a2), 29, 0))), some (.inl x3), some (.inl x4), some (.inl x5)] [] M Q := sx_ok (n := 24) (pv := 1) (cut := [(31, [true, true, true, true, true, true])]) si_ok_326 h
set_option maxRecDepth 100000 in
theorem b327_0 {N : Nat} {X : Nat → Int32} {d : Nat} {x1 x2 : Int} {a0 : Nat} {M : me_M} {Q : me_Q} (h : 0 ≤ x1 ∧ x1 < ((2408 : Nat) : Int) ∧ 0 ≤ me_i M (a0 + 12) x1.toNat ∧ me_i M (a0 + 12) x1.toNat < ((4 : Nat) : Int) ∧ ∀ n1 : Nat, (∀ b, me_p M (a0 + 1) (me_i M (a0 + 12) x1.toNat).toNat = some b → (M).2.1 b = (2, n1)) → 0 ≤ x1 ∧ x1 < ((2408 : Nat) : Int) ∧ me_dr (me_p M (a0 + 1) (me_i M (a0 + 12) x1.toNat).toNat) (fun b2 => 0 ≤ (me_i M (a0 + 10) x1.toNat) + x2 ∧ (me_i M (a0 + 10) x1.toNat) + x2 < ((n1 : Nat) : Int) ∧ (-128 ≤ me_i M b2 ((me_i M (a0 + 10) x1.toNat) + x2).toNat ∧ me_i M b2 ((me_i M (a0 + 10) x1.toNat) + x2).toNat ≤ 127 → (-128 ≤ me_i M b2 ((me_i M (a0 + 10) x1.toNat) + x2).toNat ∧ me_i M b2 ((me_i M (a0 + 10) x1.toNat) + x2).toNat ≤ 127) ∧ Q (.inr (some (.inl (me_i M b2 ((me_i M (a0 + 10) x1.toNat) + x2).toNat)))) M))) : me_W (mt_G N X) 327 d 0 [some (.inr (.inl (some a0, 29, 0))), some (.inl x1), some (.inl x2)] [] M Q := sx_ok (n := 18) (pv := 1) (cut := []) si_ok_327 h
set_option maxRecDepth 100000 in
theorem b328_0 {N : Nat} {X : Nat → Int32} {d : Nat} {x1 : Int} {a0 : Nat} {M : me_M} {Q : me_Q} (h : me_r x1 ∧ (x1 = 37 → Q (.inr (some (.inl 6))) M) ∧ (¬ x1 = 37 → (x1 = 42 → Q (.inr (some (.inl 6))) M) ∧ (¬ x1 = 42 → (x1 = 43 → Q (.inr (some (.inl 5))) M) ∧ (¬ x1 = 43 → (x1 = 45 → Q (.inr (some (.inl 5))) M) ∧ (¬ x1 = 45 → (x1 = 47 → Q (.inr (some (.inl 6))) M) ∧ (¬ x1 = 47 → (x1 = 60 → Q (.inr (some (.inl 4))) M) ∧ (¬ x1 = 60 → (x1 = 62 → Q (.inr (some (.inl 4))) M) ∧ (¬ x1 = 62 → (x1 = 300 → Q (.inr (some (.inl 3))) M) ∧ (¬ x1 = 300 → (x1 = 301 → Q (.inr (some (.inl 3))) M) ∧ (¬ x1 = 301 → (x1 = 302 → Q (.inr (some (.inl 4))) M) ∧ (¬ x1 = 302 → (x1 = 303 → Q (.inr (some (.inl 4))) M) ∧ (¬ x1 = 303 → (x1 = 304 → Q (.inr (some (.inl 2))) M) ∧ (¬ x1 = 304 → (x1 = 305 → Q (.inr (some (.inl 1))) M) ∧ (¬ x1 = 305 → Q (.inr (some (.inl 0))) M)))))))))))))) : me_W (mt_G N X) 328 d 0 [some (.inr (.inl (some a0, 29, 0))), some (.inl x1)] [] M Q := sx_ok (n := 5) (pv := 1) (cut := []) si_ok_328 h
set_option maxRecDepth 100000 in
theorem b329_0 {N : Nat} {X : Nat → Int32} {d : Nat} {a0 : Nat} {M : me_M} {Q : me_Q} (h : ∃ d', d = d' + 1 ∧ me_W (mt_G N X) 305 d' 0 [some (.inr (.inl (some a0, 29, 0))), some (.inl 40)] [] M (sx_qV (fun M1 => ∃ d', d = d' + 1 ∧ me_W (mt_G N X) 311 d' 0 [some (.inr (.inl (some a0, 29, 0)))] [] M1 (sx_qV (fun M4 => ∃ d', d = d' + 1 ∧ me_W (mt_G N X) 314 d' 0 [some (.inr (.inl (some a0, 29, 0)))] [] M4 (sx_qI (fun y10 M7 => let M11 : me_M := me_sI M7 a0 37 (Int32.ofInt ((me_i M7 a0 37) - 1)); ∃ d', d = d' + 1 ∧ me_W (mt_G N X) 305 d' 0 [some (.inr (.inl (some a0, 29, 0))), some (.inl 41)] [] M11 (sx_qV (fun M12 => Q (.inr (some (.inl y10))) M12) (fun e14 M13 => Q (.inl e14) M13))) (fun e9 M8 => Q (.inl e9) M8))) (fun e6 M5 => Q (.inl e6) M5))) (fun e3 M2 => Q (.inl e3) M2))) : me_W (mt_G N X) 329 d 0 [some (.inr (.inl (some a0, 29, 0))), none] [] M Q := sx_ok (n := 20) (pv := 1) (cut := []) si_ok_329 h
set_option maxRecDepth 100000 in
theorem b330_0 {N : Nat} {X : Nat → Int32} {d : Nat} {a0 : Nat} {M : me_M} {Q : me_Q} (h : ∃ d', d = d' + 1 ∧ me_W (mt_G N X) 311 d' 0 [some (.inr (.inl (some a0, 29, 0)))] [] M (sx_qV (fun M1 => ∃ d', d = d' + 1 ∧ me_W (mt_G N X) 312 d' 0 [some (.inr (.inl (some a0, 29, 0))), none, none, none, none, none, none] [] M1 (sx_qI (fun y7 M4 => let M8 : me_M := me_sI M4 a0 37 (Int32.ofInt ((me_i M4 a0 37) - 1)); Q (.inr (some (.inl y7))) M8) (fun e6 M5 => Q (.inl e6) M5))) (fun e3 M2 => Q (.inl e3) M2))) : me_W (mt_G N X) 330 d 0 [some (.inr (.inl (some a0, 29, 0))), none] [] M Q := sx_ok (n := 14) (pv := 1) (cut := []) si_ok_330 h
end
section
/-! the reference's parser: frames, small methods -/
/-- M' is M but for ints at places of P -/
def fr (P : Nat → Nat → Prop) (M M' : me_M) : Prop := M'.1 = M.1 ∧ M'.2.1 = M.2.1 ∧ M'.2.2.2 = M.2.2.2 ∧ ∀ b j, ¬ P b j → M'.2.2.1 b j = M.2.2.1 b j
section FR
variable {P P' : Nat → Nat → Prop} {M M1 M2 : me_M}
theorem fr.rf : fr P M M := ⟨rfl, rfl, rfl, fun _ _ _ => rfl⟩
theorem fr.tr (h : fr P M M1) (k : fr P M1 M2) : fr P M M2 := ⟨k.1.trans h.1, k.2.1.trans h.2.1, k.2.2.1.trans h.2.2.1, fun b j n => (k.2.2.2 b j n).trans (h.2.2.2 b j n)⟩
theorem fr.mo (h : fr P M M1) (k : ∀ b j, P b j → P' b j) : fr P' M M1 := ⟨h.1, h.2.1, h.2.2.1, fun b j n => h.2.2.2 b j fun z => n (k b j z)⟩
theorem fr.i (h : fr P M M1) {b j : Nat} (n : ¬ P b j) : me_i M1 b j = me_i M b j := by
  unfold me_i
  rw [h.2.2.2 b j n]
theorem fr.p (h : fr P M M1) {b j : Nat} : me_p M1 b j = me_p M b j := by
  unfold me_p
  rw [h.2.2.1]
theorem fr_sI {a k : Nat} {x : Int32} (h : P a k) : fr P M (me_sI M a k x) := ⟨rfl, rfl, rfl, fun b j n => by
  unfold me_sI
  dsimp only
  rw [if_neg]
  rintro ⟨rfl, rfl⟩
  exact n h⟩
end FR
/-- the throw of stop, for C, with ints changed at P -/
def px (C : Prop) (P : Nat → Nat → Prop) (M : me_M) : Nat → me_M → Prop := fun e M' => e = 166 ∧ C ∧ fr P M M'
theorem px.mo {C C' : Prop} {P P' : Nat → Nat → Prop} {M M1 M' : me_M} {e : Nat} (h : px C P M1 e M') (hc : C → C') (hp : ∀ b j, P b j → P' b j) (hf : fr P' M M1) : px C' P' M e M' := ⟨h.1, hc h.2.1, hf.tr (h.2.2.mo hp)⟩
def fF : Nat → Nat → Prop := fun b j => b = 164 ∧ (j = 3 ∨ j = 4)
/-- what a program knows of its tokens: sorts, codes; lim: the token behind the last that a file may have -/
def pk (p : Nat) (s c : Nat → Int) (lim : Nat) (M : me_M) : Prop := (∀ k, me_i M (p + 8) k = s k) ∧ (∀ k, me_i M (p + 9) k = c k) ∧ me_i M p 36 + me_i M p 41 = lim ∧ 0 ≤ me_i M p 36 ∧ 0 ≤ me_i M p 41
theorem pk.fr {P : Nat → Nat → Prop} {p lim : Nat} {s c : Nat → Int} {M M' : me_M} (k : pk p s c lim M) (h : fr P M M') (n8 : ∀ j, ¬ P (p + 8) j) (n9 : ∀ j, ¬ P (p + 9) j) (n36 : ¬ P p 36) (n41 : ¬ P p 41) : pk p s c lim M' := by
  refine ⟨fun j => ?_, fun j => ?_, ?_⟩
  · rw [h.i (n8 j)]
    exact k.1 j
  · rw [h.i (n9 j)]
    exact k.2.1 j
  · rw [h.i n36, h.i n41]
    exact k.2.2
/-- a token further -/
def pT (M : me_M) (p t : Nat) : me_M := me_sI M p 35 (Int32.ofInt ((t : Int) + 1))
abbrev g_ty (s c : Nat → Int) (t : Nat) : Prop := s t = 1 ∨ s t = 3 ∧ (c t = 3 ∨ c t = 4)
abbrev g_lo (s c : Nat → Int) (t : Nat) : Prop := s t = 3 ∧ (c t = 3 ∨ c t = 4) ∨ s t = 1 ∧ s (t + 1) = 1
abbrev g_in (s c : Nat → Int) (dp t : Nat) : Prop := dp < 20 ∨ s t = 4 ∧ (c t = 125 ∨ c t = 41)
def g_lv (c : Int) : Int := if c = 305 then 1 else if c = 304 then 2 else if c = 300 ∨ c = 301 then 3 else if c = 60 ∨ c = 302 ∨ c = 62 ∨ c = 303 then 4 else if c = 43 ∨ c = 45 then 5 else if c = 42 ∨ c = 47 ∨ c = 37 then 6 else 0
section SMALL
variable {N : Nat} {X : Nat → Int32} {d p lim t dp : Nat} {s c : Nat → Int} {x1 x2 : Int} {M : me_M}
theorem pk.rs (k : pk p s c lim M) (j : Nat) : me_r (s j) := k.1 j ▸ me_i_r M (p + 8) j
theorem pk.rc (k : pk p s c lim M) (j : Nat) : me_r (c j) := k.2.1 j ▸ me_i_r M (p + 9) j
theorem c_295 : me_W (mt_G N X) 295 d 0 [some (.inr (.inl (some 164, 25, 0))), some (.inl x1), some (.inl x2)] [] M (sx_qV (fun _ => False) (px True fF M)) := by
  refine b295_0 ?_
  intro M1 M2
  exact ⟨rfl, trivial, (fr_sI ⟨rfl, Or.inl rfl⟩).tr (fr_sI ⟨rfl, Or.inr rfl⟩)⟩
theorem c_293 (hd : 1 ≤ d) (k : pk p s c lim M) (ht : me_i M p 35 = (t : Int)) (h8 : t < 2408) : me_W (mt_G N X) 293 d 0 [some (.inr (.inl (some p, 29, 0)))] [] M (sx_qI (fun y M' => M' = M ∧ y = s t ∧ ¬ s t = -1) (px (s t = -1) fF M)) := by
  have e := k.1 t
  have e' : me_i M (p + 7 + 1) t = s t := e
  refine b293_0 ?_
  simp only [ht, Int.toNat_natCast, e, e']
  refine ⟨by omega, by omega, k.rs t, ⟨by omega, by omega⟩, fun h => ⟨by omega, by omega, ?_⟩, fun h => ?_⟩
  · show M = M ∧ _ ∧ _
    exact ⟨rfl, rfl, h⟩
  · refine ca_I hd (c_294 (by omega) (by omega)) (fun y M1 _ g => ?_) nt_E_no
    obtain ⟨rfl, rfl⟩ := g
    exact ca_V hd c_295 (fun _ _ g => g.elim) fun _ _ _ g => ⟨g.1, h, g.2.2⟩
theorem c_297 (hd : 2 ≤ d) (k : pk p s c lim M) (ht : me_i M p 35 = (t : Int)) (h8 : t < 2408) : me_W (mt_G N X) 297 d 0 [some (.inr (.inl (some p, 29, 0)))] [] M (sx_qV (fun _ => False) (px True fF M)) := by
  refine b297_0 (ca_I (by omega) (c_293 (by omega) k ht h8) (fun y M1 _ g => ?_) (fun _ _ _ g => g.mo (fun _ => trivial) (fun _ _ z => z) fr.rf))
  obtain ⟨rfl, rfl, _⟩ := g
  refine ca_I (by omega) (c_294 (by omega) (by omega)) (fun y M1 _ g => ?_) nt_E_no
  obtain ⟨rfl, rfl⟩ := g
  exact ca_V (by omega) c_295 (fun _ _ g => g.elim) fun _ _ _ g => g
theorem c_300 (hd : 1 ≤ d) (k : pk p s c lim M) (ht : me_i M p 35 = (t : Int)) (h8 : t < 2408) (hl : lim < 2408) : me_W (mt_G N X) 300 d 0 [some (.inr (.inl (some p, 29, 0)))] [] M (sx_qV (fun M' => M' = M ∧ t < lim) (px (lim ≤ t) fF M)) := by
  obtain ⟨_, _, k1, k2, k3⟩ := k
  refine b300_0 ⟨⟨by omega, by omega⟩, me_i_r _ _ _, fun h => ⟨rfl, by omega⟩, fun h => ?_⟩
  refine ca_I hd (c_294 (by omega) (by omega)) (fun y M1 _ g => ?_) nt_E_no
  obtain ⟨rfl, rfl⟩ := g
  exact ca_V hd c_295 (fun _ _ g => g.elim) fun _ _ _ g => ⟨g.1, by omega, g.2.2⟩
theorem c_299 (hd : 2 ≤ d) (k : pk p s c lim M) (ht : me_i M p 35 = (t : Int)) (h8 : t < 2408) (hl : lim < 2408) : me_W (mt_G N X) 299 d 0 [some (.inr (.inl (some p, 29, 0)))] [] M (sx_qI (fun y M' => y = (t : Int) ∧ M' = pT M p t ∧ t < lim) (px (lim ≤ t) fF M)) := by
  refine b299_0 (ca_V (by omega) (c_300 (by omega) k ht h8 hl) (fun M1 _ g => ?_) (fun _ _ _ g => g))
  obtain ⟨rfl, h⟩ := g
  rw [ht]
  intro M2
  refine ⟨?_, rfl, h⟩
  show me_i (me_sI _ _ _ _) _ _ - 1 = _
  rw [me_i_sI, if_pos ⟨rfl, rfl⟩, me_to ⟨by omega, by omega⟩]
  omega
theorem c_307 (hd : 2 ≤ d) (k : pk p s c lim M) (ht : me_i M p 35 = (t : Int)) (h8 : t < 2408) (hx : me_r x1) : me_W (mt_G N X) 307 d 0 [some (.inr (.inl (some p, 29, 0))), some (.inl x1)] [] M (sx_qI (fun y M' => M' = M ∧ ¬ s t = -1 ∧ (y = 1 ∧ s t = 4 ∧ c t = x1 ∨ y = 0 ∧ ¬ (s t = 4 ∧ c t = x1))) (px (s t = -1) fF M)) := by
  refine b307_0 (ca_I (by omega) (c_293 (by omega) k ht h8) (fun y M1 _ g => ?_) (fun _ _ _ g => g))
  obtain ⟨rfl, rfl, h⟩ := g
  simp only [ht, Int.toNat_natCast, k.2.1]
  refine ⟨k.rs t, ⟨by omega, by omega⟩, fun z => ⟨by first | trivial | omega, rfl, h, Or.inr ⟨rfl, fun w => z w.1⟩⟩, fun z => ⟨by omega, by omega, k.rc t, hx, fun w => ⟨by first | trivial | omega, rfl, h, Or.inr ⟨rfl, fun v => w v.2⟩⟩, fun w => ⟨by first | trivial | omega, rfl, h, Or.inl ⟨rfl, z, w⟩⟩⟩⟩
theorem c_296 (hd : 2 ≤ d) (k : pk p s c lim M) (ht : me_i M p 35 = (t : Int)) (h8 : t < 2408) (hx : me_r x1) : me_W (mt_G N X) 296 d 0 [some (.inr (.inl (some p, 29, 0))), some (.inl x1)] [] M (sx_qI (fun y M' => M' = M ∧ ¬ s t = -1 ∧ (y = 1 ∧ s t = 3 ∧ c t = x1 ∨ y = 0 ∧ ¬ (s t = 3 ∧ c t = x1))) (px (s t = -1) fF M)) := by
  refine b296_0 (ca_I (by omega) (c_293 (by omega) k ht h8) (fun y M1 _ g => ?_) (fun _ _ _ g => g))
  obtain ⟨rfl, rfl, h⟩ := g
  simp only [ht, Int.toNat_natCast, k.2.1]
  refine ⟨k.rs t, ⟨by omega, by omega⟩, fun z => ⟨by first | trivial | omega, rfl, h, Or.inr ⟨rfl, fun w => z w.1⟩⟩, fun z => ⟨by omega, by omega, k.rc t, hx, fun w => ⟨by first | trivial | omega, rfl, h, Or.inr ⟨rfl, fun v => w v.2⟩⟩, fun w => ⟨by first | trivial | omega, rfl, h, Or.inl ⟨rfl, z, w⟩⟩⟩⟩
theorem c_306 (hd : 3 ≤ d) (k : pk p s c lim M) (ht : me_i M p 35 = (t : Int)) (h8 : t < 2408) (hl : lim < 2408) (hx : me_r x1) : me_W (mt_G N X) 306 d 0 [some (.inr (.inl (some p, 29, 0))), some (.inl x1)] [] M (sx_qI (fun y M' => y = 1 ∧ M' = pT M p t ∧ s t = 4 ∧ c t = x1 ∧ t < lim ∨ y = 0 ∧ M' = M ∧ ¬ s t = -1 ∧ ¬ (s t = 4 ∧ c t = x1)) (px (s t = -1 ∨ s t = 4 ∧ c t = x1 ∧ lim ≤ t) fF M)) := by
  refine b306_0 (ca_I (by omega) (c_307 (by omega) k ht h8 hx) (fun y M1 _ g => ?_) (fun _ _ _ g => ⟨g.1, Or.inl g.2.1, g.2.2⟩))
  obtain ⟨rfl, h, g⟩ := g
  refine ⟨⟨by omega, by omega⟩, fun z => ?_, fun z => ⟨Or.inl rfl, Or.inr ⟨rfl, rfl, h, ?_⟩⟩⟩
  · rcases g with ⟨_, g1, g2⟩ | ⟨g, _⟩
    · refine ca_I (by omega) (c_299 (by omega) k ht h8 hl) (fun y M1 _ g => ⟨Or.inr rfl, Or.inl ⟨rfl, g.2.1, g1, g2, g.2.2⟩⟩) (fun _ _ _ g => ⟨g.1, Or.inr ⟨g1, g2, g.2.1⟩, g.2.2⟩)
    · exact absurd g z
  · rcases g with ⟨g, _⟩ | g
    · omega
    · exact g.2
theorem c_303 (hd : 3 ≤ d) (k : pk p s c lim M) (ht : me_i M p 35 = (t : Int)) (h8 : t < 2408) (hl : lim < 2408) (hx : me_r x1) : me_W (mt_G N X) 303 d 0 [some (.inr (.inl (some p, 29, 0))), some (.inl x1)] [] M (sx_qI (fun y M' => y = 1 ∧ M' = pT M p t ∧ s t = 3 ∧ c t = x1 ∧ t < lim ∨ y = 0 ∧ M' = M ∧ ¬ s t = -1 ∧ ¬ (s t = 3 ∧ c t = x1)) (px (s t = -1 ∨ s t = 3 ∧ c t = x1 ∧ lim ≤ t) fF M)) := by
  refine b303_0 (ca_I (by omega) (c_296 (by omega) k ht h8 hx) (fun y M1 _ g => ?_) (fun _ _ _ g => ⟨g.1, Or.inl g.2.1, g.2.2⟩))
  obtain ⟨rfl, h, g⟩ := g
  refine ⟨⟨by omega, by omega⟩, fun z => ?_, fun z => ⟨Or.inl rfl, Or.inr ⟨rfl, rfl, h, ?_⟩⟩⟩
  · rcases g with ⟨_, g1, g2⟩ | ⟨g, _⟩
    · refine ca_I (by omega) (c_299 (by omega) k ht h8 hl) (fun y M1 _ g => ⟨Or.inr rfl, Or.inl ⟨rfl, g.2.1, g1, g2, g.2.2⟩⟩) (fun _ _ _ g => ⟨g.1, Or.inr ⟨g1, g2, g.2.1⟩, g.2.2⟩)
    · exact absurd g z
  · rcases g with ⟨g, _⟩ | g
    · omega
    · exact g.2
theorem c_305 (hd : 4 ≤ d) (k : pk p s c lim M) (ht : me_i M p 35 = (t : Int)) (h8 : t < 2408) (hl : lim < 2408) (hx : me_r x1) : me_W (mt_G N X) 305 d 0 [some (.inr (.inl (some p, 29, 0))), some (.inl x1)] [] M (sx_qV (fun M' => M' = pT M p t ∧ s t = 4 ∧ c t = x1 ∧ t < lim) (px (¬ (s t = 4 ∧ c t = x1 ∧ t < lim)) fF M)) := by
  refine b305_0 (ca_I (by omega) (c_306 (by omega) k ht h8 hl hx) (fun y M1 _ g => ?_) (fun _ _ _ g => ⟨g.1, by have := g.2.1; omega, g.2.2⟩))
  rcases g with ⟨rfl, rfl, g⟩ | ⟨rfl, rfl, _, g⟩
  · exact ⟨⟨by omega, by omega⟩, fun _ => ⟨rfl, g⟩, fun z => by omega⟩
  · exact ⟨⟨by omega, by omega⟩, fun z => by omega, fun _ => ca_V (by omega) (c_297 (by omega) k ht h8) (fun _ _ g => g.elim) fun _ _ _ h => ⟨h.1, fun z => g ⟨z.1, z.2.1⟩, h.2.2⟩⟩
theorem c_301 (hd : 4 ≤ d) (k : pk p s c lim M) (ht : me_i M p 35 = (t : Int)) (h8 : t < 2408) (hl : lim < 2408) (hx : me_r x1) : me_W (mt_G N X) 301 d 0 [some (.inr (.inl (some p, 29, 0))), some (.inl x1)] [] M (sx_qI (fun y M' => y = (t : Int) ∧ M' = pT M p t ∧ s t = 1 ∧ x1 = 0 ∧ t < lim) (px (¬ (s t = 1 ∧ x1 = 0 ∧ t < lim)) fF M)) := by
  refine b301_0 (ca_I (by omega) (c_293 (by omega) k ht h8) (fun y M1 _ g => ?_) (fun _ _ _ g => ⟨g.1, by have := g.2.1; omega, g.2.2⟩))
  obtain ⟨rfl, rfl, h⟩ := g
  refine ⟨k.rs t, ⟨by omega, by omega⟩, fun z => ⟨hx, fun w => ?_, fun w => ?_⟩, fun z => ?_⟩
  · exact ca_I (by omega) (c_299 (by omega) k ht h8 hl) (fun y M1 _ g => ⟨g.1, g.2.1, z, w, g.2.2⟩) (fun _ _ _ g => ⟨g.1, by have := g.2.1; omega, g.2.2⟩)
  · rw [ht]
    refine ca_I (by omega) (c_294 (by omega) (by omega)) (fun y M1 _ g => ?_) nt_E_no
    obtain ⟨rfl, rfl⟩ := g
    exact ca_V (by omega) c_295 (fun _ _ g => g.elim) fun _ _ _ g => ⟨g.1, fun q => w q.2.1, g.2.2⟩
  · exact ca_V (by omega) (c_297 (by omega) k ht h8) (fun _ _ g => g.elim) fun _ _ _ g => ⟨g.1, fun q => z q.1, g.2.2⟩
theorem c_304 (hd : 5 ≤ d) (k : pk p s c lim M) (ht : me_i M p 35 = (t : Int)) (h8 : t < 2408) (hl : lim < 2408) : me_W (mt_G N X) 304 d 0 [some (.inr (.inl (some p, 29, 0)))] [] M (sx_qI (fun y M' => y = (t : Int) ∧ M' = pT M p t ∧ s t = 1 ∧ t < lim) (px (¬ (s t = 1 ∧ t < lim)) fF M)) :=
  b304_0 (ca_I (by omega) (c_301 (by omega) k ht h8 hl ⟨by omega, by omega⟩) (fun _ _ _ g => ⟨g.1, g.2.1, g.2.2.1, g.2.2.2.2⟩) (fun _ _ _ g => ⟨g.1, fun q => g.2.1 ⟨q.1, rfl, q.2⟩, g.2.2⟩))
theorem c_309 (hd : 2 ≤ d) (k : pk p s c lim M) (ht : me_i M p 35 = (t : Int)) (h8 : t < 2408) : me_W (mt_G N X) 309 d 0 [some (.inr (.inl (some p, 29, 0)))] [] M (sx_qI (fun y M' => M' = M ∧ ¬ s t = -1 ∧ (y = 1 ∧ g_ty s c t ∨ y = 0 ∧ ¬ g_ty s c t)) (px (s t = -1) fF M)) := by
  refine b309_0 (ca_I (by omega) (c_293 (by omega) k ht h8) (fun y M1 _ g => ?_) (fun _ _ _ g => g))
  obtain ⟨rfl, rfl, h⟩ := g
  refine ⟨k.rs t, ⟨by omega, by omega⟩, fun z => ⟨by first | trivial | omega, rfl, h, Or.inl ⟨rfl, Or.inl z⟩⟩, fun z => ?_⟩
  refine ca_I (by omega) (c_293 (by omega) k ht h8) (fun y M2 _ g => ?_) (fun _ _ _ g => g)
  obtain ⟨rfl, rfl, _⟩ := g
  simp only [ht, Int.toNat_natCast, k.2.1]
  refine ⟨k.rs t, ⟨by omega, by omega⟩, fun w => ⟨by first | trivial | omega, rfl, h, Or.inr ⟨rfl, fun q => by unfold g_ty at q; omega⟩⟩, fun w => ⟨by omega, by omega, k.rc t, ⟨by omega, by omega⟩, fun v => ⟨by first | trivial | omega, rfl, h, Or.inl ⟨rfl, Or.inr ⟨w, Or.inl v⟩⟩⟩, fun v => ⟨by omega, by omega, k.rc t, ⟨by omega, by omega⟩, fun u => ⟨by first | trivial | omega, rfl, h, Or.inr ⟨rfl, fun q => by unfold g_ty at q; omega⟩⟩, fun u => ⟨by first | trivial | omega, rfl, h, Or.inl ⟨rfl, Or.inr ⟨w, Or.inr u⟩⟩⟩⟩⟩⟩
theorem c_313 (hd : 2 ≤ d) (k : pk p s c lim M) (ht : me_i M p 35 = (t : Int)) (h8 : t < 2407) : me_W (mt_G N X) 313 d 0 [some (.inr (.inl (some p, 29, 0)))] [] M (sx_qI (fun y M' => M' = M ∧ ¬ s t = -1 ∧ (y = 1 ∧ g_lo s c t ∨ y = 0 ∧ ¬ g_lo s c t)) (px (s t = -1) fF M)) := by
  refine b313_0 (ca_I (by omega) (c_293 (by omega) k ht (by omega)) (fun y M1 _ g => ?_) (fun _ _ _ g => g))
  obtain ⟨rfl, rfl, h⟩ := g
  refine ⟨k.rs t, ⟨by omega, by omega⟩, fun z => ?_, fun z => ?_⟩
  · refine ca_I (by omega) (c_293 (by omega) k ht (by omega)) (fun y M2 _ g => ?_) (fun _ _ _ g => g)
    obtain ⟨rfl, rfl, _⟩ := g
    have e : ((t : Int) + 1).toNat = t + 1 := by omega
    simp only [ht, e, k.1]
    refine ⟨k.rs t, ⟨by omega, by omega⟩, fun w => ⟨by first | trivial | omega, rfl, h, Or.inr ⟨rfl, fun q => by unfold g_lo at q; omega⟩⟩, fun w => ⟨by omega, by omega, k.rs _, ⟨by omega, by omega⟩, fun v => ⟨by first | trivial | omega, rfl, h, Or.inr ⟨rfl, fun q => by unfold g_lo at q; omega⟩⟩, fun v => ⟨by first | trivial | omega, rfl, h, Or.inl ⟨rfl, Or.inr ⟨w, v⟩⟩⟩⟩⟩
  · simp only [ht, Int.toNat_natCast, k.2.1]
    refine ⟨by omega, by omega, k.rc t, ⟨by omega, by omega⟩, fun v => ⟨by first | trivial | omega, rfl, h, Or.inl ⟨rfl, Or.inl ⟨z, Or.inl v⟩⟩⟩, fun v => ⟨by omega, by omega, k.rc t, ⟨by omega, by omega⟩, fun u => ⟨by first | trivial | omega, rfl, h, Or.inr ⟨rfl, fun q => by unfold g_lo at q; omega⟩⟩, fun u => ⟨by first | trivial | omega, rfl, h, Or.inl ⟨rfl, Or.inl ⟨z, Or.inr u⟩⟩⟩⟩⟩
theorem c_311 (hd : 3 ≤ d) (k : pk p s c lim M) (hp : 164 < p) (ht : me_i M p 35 = (t : Int)) (h8 : t < 2408) (hdp : me_i M p 37 = (dp : Int)) (hq : dp < 100) : me_W (mt_G N X) 311 d 0 [some (.inr (.inl (some p, 29, 0)))] [] M (sx_qV (fun M' => M' = me_sI M p 37 (Int32.ofInt ((dp : Int) + 1)) ∧ g_in s c dp t) (px (¬ g_in s c dp t) (fun b j => fF b j ∨ b = p ∧ j = 37) M)) := by
  refine b311_0 ?_
  rw [hdp]
  intro M1
  have f1 : fr (fun b j => b = p ∧ j = 37) M M1 := fr_sI ⟨rfl, rfl⟩
  have k1 : pk p s c lim M1 := k.fr f1 (by omega) (by omega) (by omega) (by omega)
  have t1 : me_i M1 p 35 = (t : Int) := by rw [f1.i (by omega), ht]
  have e1 : me_i M1 p 37 = (dp : Int) + 1 := by
    show me_i (me_sI _ _ _ _) _ _ = _
    rw [me_i_sI, if_pos ⟨rfl, rfl⟩, me_to ⟨by omega, by omega⟩]
  have f2 : fr (fun b j => fF b j ∨ b = p ∧ j = 37) M M1 := f1.mo fun _ _ z => Or.inr z
  rw [e1]
  refine ⟨⟨by omega, by omega⟩, ⟨by omega, by omega⟩, fun z => ⟨rfl, Or.inl (by omega)⟩, fun z => ?_⟩
  refine ca_I (by omega) (c_307 (by omega) k1 t1 h8 ⟨by omega, by omega⟩) (fun y M2 _ g => ?_) (fun _ _ _ g => g.mo (fun q w => by unfold g_in at w; omega) (fun _ _ z => Or.inl z) f2)
  obtain ⟨rfl, h, g⟩ := g
  rcases g with ⟨rfl, g⟩ | ⟨rfl, g⟩
  · exact ⟨⟨by omega, by omega⟩, fun _ => ⟨rfl, Or.inr ⟨g.1, Or.inl g.2⟩⟩, fun q => by omega⟩
  refine ⟨⟨by omega, by omega⟩, fun q => by omega, fun _ => ?_⟩
  refine ca_I (by omega) (c_307 (by omega) k1 t1 h8 ⟨by omega, by omega⟩) (fun y M3 _ g => ?_) (fun _ _ _ g => absurd g.2.1 h)
  obtain ⟨rfl, _, g3⟩ := g
  rcases g3 with ⟨rfl, g3⟩ | ⟨rfl, g3⟩
  · exact ⟨⟨by omega, by omega⟩, fun _ => ⟨rfl, Or.inr ⟨g3.1, Or.inr g3.2⟩⟩, fun q => by omega⟩
  refine ⟨⟨by omega, by omega⟩, fun q => by omega, fun _ => ?_⟩
  rw [t1]
  refine ca_I (by omega) (c_294 (by omega) (by omega)) (fun y M1 _ g => ?_) nt_E_no
  obtain ⟨rfl, rfl⟩ := g
  exact ca_V (by omega) c_295 (fun _ _ g => g.elim) fun _ _ _ q => q.mo (fun _ w => by unfold g_in at w; omega) (fun _ _ z => Or.inl z) f2
theorem c_328 (hx : me_r x1) : me_W (mt_G N X) 328 d 0 [some (.inr (.inl (some p, 29, 0))), some (.inl x1)] [] M (sx_qI (fun y M' => M' = M ∧ y = g_lv x1) nt_E) := by
  refine b328_0 ?_
  simp only [sx_qI, me_r] at hx ⊢
  (repeat' (first | apply And.intro | intro _)) <;> first | trivial | omega | (unfold g_lv; repeat' split) <;> first | trivial | omega | grind
end SMALL
end
section
/-! the reference's parser: rows of nodes -/
/-- the place reached from k by m steps -/
def it (nx : Nat → Int) : Nat → Int → Int
  | 0, k => k
  | m + 1, k => if k < 0 then -1 else it nx m (nx k.toNat)
def rc (nx : Nat → Int) (k : Int) (j : Nat) : Prop := ∃ m, it nx m k = (j : Int)
section RC
variable {nx : Nat → Int} {P : Nat → Prop}
theorem it_neg {m : Nat} {k : Int} (h : k < 0) : it nx m k < 0 := by
  cases m with
  | zero => exact h
  | succ m =>
    rw [it, if_pos h]
    omega
theorem rc_neg {k : Int} {j : Nat} (h : k < 0) : ¬ rc nx k j := by
  rintro ⟨m, hm⟩
  have := it_neg (nx := nx) (m := m) h
  omega
theorem rc_iff {k j : Nat} : rc nx k j ↔ j = k ∨ rc nx (nx k) j := by
  constructor
  · rintro ⟨m, hm⟩
    cases m with
    | zero =>
      have hm : (k : Int) = j := hm
      exact Or.inl (by omega)
    | succ m =>
      rw [it, if_neg (by omega), Int.toNat_natCast] at hm
      exact Or.inr ⟨m, hm⟩
  · rintro (rfl | ⟨m, hm⟩)
    · exact ⟨0, rfl⟩
    · refine ⟨m + 1, ?_⟩
      rw [it, if_neg (by omega), Int.toNat_natCast]
      exact hm
theorem rc_ind (hs : ∀ j, P j → 0 ≤ nx j → P (nx j).toNat) : ∀ (m : Nat) (k : Int), (0 ≤ k → P k.toNat) → ∀ j : Nat, it nx m k = (j : Int) → P j
  | 0, k, h, j, e => by
    have e : k = j := e
    have := h (by omega)
    rw [e, Int.toNat_natCast] at this
    exact this
  | m + 1, k, h, j, e => by
    rw [it] at e
    split at e
    · omega
    · exact rc_ind hs m (nx k.toNat) (fun q => hs _ (h (by omega)) q) j e
theorem it_last : ∀ (m : Nat) (k : Int), it nx (m + 1) k = if it nx m k < 0 then -1 else nx (it nx m k).toNat
  | 0, k => rfl
  | m + 1, k => by
    rw [it]
    split
    · rename_i h
      rw [if_pos (it_neg h)]
    · rename_i h
      rw [it_last m (nx k.toNat), it, if_neg h]
theorem rc_step {k : Int} {i j : Nat} (h : rc nx k i) (e : nx i = j) : rc nx k j := by
  obtain ⟨m, hm⟩ := h
  refine ⟨m + 1, ?_⟩
  rw [it_last, hm, if_neg (by omega), Int.toNat_natCast, e]
theorem rc_self {k : Nat} : rc nx k k := ⟨0, rfl⟩
theorem rc_congr {nx' : Nat → Int} (hs : ∀ j, P j → nx' j = nx j ∧ (0 ≤ nx j → P (nx j).toNat)) : ∀ (m : Nat) (k : Int), (0 ≤ k → P k.toNat) → it nx' m k = it nx m k
  | 0, _, _ => rfl
  | m + 1, k, h => by
    rw [it, it]
    split
    · rfl
    · have h1 := h (by omega)
      rw [(hs _ h1).1]
      exact rc_congr hs m _ (fun q => (hs _ h1).2 q)
end RC
section OWN
variable {N : Nat} {X : Nat → Int32} {d p n : Nat}
theorem own_2 (nx : Nat → Int) (hn : n < 4816) : ∀ (m : Nat) (M : me_M) (k : Int), me_r k → (∀ j, me_i M (p + 21) j = nx j) → (∀ j, rc nx k j → j < n ∧ (nx j < 0 ∨ (j : Int) < nx j)) → (0 ≤ k → (n : Int) - k ≤ m) → me_W (mt_G N X) 318 d 2 [some (.inr (.inl (some p, 29, 0))), some (.inl n), none, some (.inl k)] [] M (sx_qV (fun M' => fr (fun b j => b = p + 22 ∧ j < n) M M' ∧ (∀ j, rc nx k j → me_i M' (p + 22) j = n) ∧ ∀ j, ¬ rc nx k j → me_i M' (p + 22) j = me_i M (p + 22) j) nt_E) := by
  intro m
  induction m with
  | zero =>
    intro M k hr hx hv hm
    refine b318_2 ⟨hr, fun h => ⟨fr.rf, fun j z => absurd z (rc_neg h), fun _ _ => rfl⟩, fun h => ?_⟩
    obtain ⟨k, rfl⟩ := Int.eq_ofNat_of_zero_le h
    have := (hv k rc_self).1
    omega
  | succ m ih =>
    intro M k hr hx hv hm
    refine b318_2 ⟨hr, fun h => ⟨fr.rf, fun j z => absurd z (rc_neg h), fun _ _ => rfl⟩, fun h => ?_⟩
    obtain ⟨k, rfl⟩ := Int.eq_ofNat_of_zero_le h
    have hk := hv k rc_self
    rw [Int.toNat_natCast]
    refine ⟨by omega, by omega, ?_⟩
    intro M1
    have f1 : fr (fun b j => b = p + 22 ∧ j < n) M M1 := fr_sI ⟨rfl, hk.1⟩
    have x1 : ∀ j, me_i M1 (p + 21) j = nx j := fun j => by rw [f1.i (by omega), hx]
    refine ⟨by omega, by omega, ?_⟩
    rw [x1]
    refine (ih M1 (nx k) (by rw [← hx]; exact me_i_r _ _ _) x1 (fun j z => hv j (rc_iff.mpr (Or.inr z))) (by omega)).mono fun o M' _ g => ?_
    rcases o with a | _ | x | ⟨q, w⟩ | j <;> first | exact g.elim | skip
    obtain ⟨g1, g2, g3⟩ := g
    have e1 : ∀ j, me_i M1 (p + 22) j = if j = k then (n : Int) else me_i M (p + 22) j := fun j => by
      show me_i (me_sI _ _ _ _) _ _ = _
      rw [me_i_sI]
      by_cases c : j = k
      · rw [if_pos ⟨rfl, c⟩, if_pos c, me_to ⟨by omega, by omega⟩]
      · rw [if_neg (fun z => c z.2), if_neg c]
    refine ⟨f1.tr g1, fun j z => ?_, fun j z => ?_⟩
    · by_cases c : rc nx (nx k) j
      · exact g2 j c
      · rw [g3 j c, e1, if_pos]
        rcases rc_iff.mp z with z | z
        · exact z
        · exact absurd z c
    · rw [g3 j (fun w => z (rc_iff.mpr (Or.inr w))), e1, if_neg (fun w => z (rc_iff.mpr (Or.inl w)))]
theorem c_318 {M : me_M} {k : Int} (nx : Nat → Int) (hn : n < 4816) (hr : me_r k) (hx : ∀ j, me_i M (p + 21) j = nx j) (hv : ∀ j, rc nx k j → j < n ∧ (nx j < 0 ∨ (j : Int) < nx j)) : me_W (mt_G N X) 318 d 0 [some (.inr (.inl (some p, 29, 0))), some (.inl n), some (.inl k), none] [] M (sx_qV (fun M' => fr (fun b j => b = p + 22 ∧ j < n) M M' ∧ (∀ j, rc nx k j → me_i M' (p + 22) j = n) ∧ ∀ j, ¬ rc nx k j → me_i M' (p + 22) j = me_i M (p + 22) j) nt_E) := b318_0 (own_2 nx hn n M k hr hx hv (by omega))
end OWN
/-- the rows of nodes: 0 op 1 x 2 y 3 z 4 name 5 first 6 last 7 next 8 parent 9 type 10 home -/
def nA (p : Nat) (M : me_M) (i j : Nat) : Int := me_i M (p + 14 + i) j
/-- a node more -/
def nd_put (M : me_M) (p n : Nat) (v : Nat → Int) : me_M := me_sI (me_sI (me_sI (me_sI (me_sI (me_sI (me_sI (me_sI (me_sI (me_sI (me_sI (me_sI M p 4 (Int32.ofInt ((n : Int) + 1))) (p + 14) n (Int32.ofInt (v 0))) (p + 15) n (Int32.ofInt (v 1))) (p + 16) n (Int32.ofInt (v 2))) (p + 17) n (Int32.ofInt (v 3))) (p + 18) n (Int32.ofInt (v 4))) (p + 19) n (Int32.ofInt (v 5))) (p + 20) n (Int32.ofInt (v 6))) (p + 21) n (Int32.ofInt (v 7))) (p + 22) n (Int32.ofInt (v 8))) (p + 23) n (Int32.ofInt (v 9))) (p + 24) n (Int32.ofInt (v 10))
section PUT
variable {M : me_M} {p n : Nat} {v : Nat → Int}
theorem nd_put_fr : fr (fun b j => b = p ∧ j = 4 ∨ p + 14 ≤ b ∧ b ≤ p + 24 ∧ j = n) M (nd_put M p n v) := by
  unfold nd_put
  iterate 11 refine fr.tr ?_ (fr_sI (Or.inr ⟨by omega, by omega, rfl⟩))
  exact fr_sI (Or.inl ⟨rfl, rfl⟩)
theorem nd_put_n (hn : n < 2147483647) : me_i (nd_put M p n v) p 4 = n + 1 := by
  unfold nd_put
  iterate 11 rw [me_i_sI, if_neg (by omega)]
  rw [me_i_sI, if_pos ⟨rfl, rfl⟩, me_to ⟨by omega, by omega⟩]
theorem nd_put_v (hv : ∀ i, me_r (v i)) (i : Nat) (hi : i < 11) : nA p (nd_put M p n v) i n = v i := by
  have h : i = 0 ∨ i = 1 ∨ i = 2 ∨ i = 3 ∨ i = 4 ∨ i = 5 ∨ i = 6 ∨ i = 7 ∨ i = 8 ∨ i = 9 ∨ i = 10 := by omega
  unfold nA nd_put
  rcases h with rfl | rfl | rfl | rfl | rfl | rfl | rfl | rfl | rfl | rfl | rfl
  · iterate 10 rw [me_i_sI, if_neg (by omega)]
    rw [me_i_sI, if_pos ⟨rfl, rfl⟩, me_to (hv _)]
  · iterate 9 rw [me_i_sI, if_neg (by omega)]
    rw [me_i_sI, if_pos ⟨rfl, rfl⟩, me_to (hv _)]
  · iterate 8 rw [me_i_sI, if_neg (by omega)]
    rw [me_i_sI, if_pos ⟨rfl, rfl⟩, me_to (hv _)]
  · iterate 7 rw [me_i_sI, if_neg (by omega)]
    rw [me_i_sI, if_pos ⟨rfl, rfl⟩, me_to (hv _)]
  · iterate 6 rw [me_i_sI, if_neg (by omega)]
    rw [me_i_sI, if_pos ⟨rfl, rfl⟩, me_to (hv _)]
  · iterate 5 rw [me_i_sI, if_neg (by omega)]
    rw [me_i_sI, if_pos ⟨rfl, rfl⟩, me_to (hv _)]
  · iterate 4 rw [me_i_sI, if_neg (by omega)]
    rw [me_i_sI, if_pos ⟨rfl, rfl⟩, me_to (hv _)]
  · iterate 3 rw [me_i_sI, if_neg (by omega)]
    rw [me_i_sI, if_pos ⟨rfl, rfl⟩, me_to (hv _)]
  · iterate 2 rw [me_i_sI, if_neg (by omega)]
    rw [me_i_sI, if_pos ⟨rfl, rfl⟩, me_to (hv _)]
  · rw [me_i_sI, if_neg (by omega)]
    rw [me_i_sI, if_pos ⟨rfl, rfl⟩, me_to (hv _)]
  · rw [me_i_sI, if_pos ⟨rfl, rfl⟩, me_to (hv _)]
end PUT
/-- what becomes a part of a new node -/
def ow (nx : Nat → Int) (x1 x2 x3 x4 : Int) (j : Nat) : Prop := rc nx x2 j ∨ ¬ (x1 = 8 ∨ x1 = 9 ∨ x1 = 11 ∨ x1 = 21) ∧ rc nx x3 j ∨ ¬ x1 = 15 ∧ rc nx x4 j
def nv (x1 x2 x3 x4 x5 x6 l h : Int) (i : Nat) : Int := if i = 0 then x1 else if i = 1 then x2 else if i = 2 then x3 else if i = 3 then x4 else if i = 4 then x5 else if i = 5 then x6 else if i = 6 then l else if i = 7 then -1 else if i = 8 then -1 else if i = 9 then -5 else if i = 10 then h else 0
section NODE
variable {N : Nat} {X : Nat → Int32} {d p n t : Nat} {x1 x2 x3 x4 x5 x6 : Int} {M : me_M}
theorem nd_317 {Q : me_Q} (hd : 1 ≤ d) (hn : me_i M p 4 = (n : Int)) (h8 : n < 4816) (ht : me_i M p 35 = (t : Int)) (r1 : me_r x1) (r2 : me_r x2) (r3 : me_r x3) (r4 : me_r x4) (r5 : me_r x5) (r6 : me_r x6) (r7 : me_r ((t : Int) - 1)) (nx : Nat → Int) (hx : ∀ j, (if j = n then -1 else nA p M 7 j) = nx j) (hv : ∀ j, ow nx x1 x2 x3 x4 j → j < n ∧ (nx j < 0 ∨ (j : Int) < nx j)) (HQ : ∀ M', (fr (fun b j => b = p ∧ j = 4 ∨ p + 14 ≤ b ∧ b ≤ p + 24 ∧ j = n ∨ b = p + 22 ∧ j < n) M M' ∧ me_i M' p 4 = (n : Int) + 1 ∧ (∀ i, i < 11 → nA p M' i n = nv x1 x2 x3 x4 x5 x6 ((t : Int) - 1) (me_i M p 38) i) ∧ (∀ j, ow nx x1 x2 x3 x4 j → nA p M' 8 j = n) ∧ ∀ j, ¬ j = n → ¬ ow nx x1 x2 x3 x4 j → nA p M' 8 j = nA p M 8 j) → Q (.inr (some (.inl (n : Int)))) M') :
    me_W (mt_G N X) 317 d 0 [some (.inr (.inl (some p, 29, 0))), some (.inl x1), some (.inl x2), some (.inl x3), some (.inl x4), some (.inl x5), some (.inl x6), none] [] M Q := by
  generalize hv0 : nv x1 x2 x3 x4 x5 x6 ((t : Int) - 1) (me_i M p 38) = v at HQ
  have e0 : ∀ i, v i = nv x1 x2 x3 x4 x5 x6 ((t : Int) - 1) (me_i M p 38) i := fun i => by rw [hv0]
  have hvr : ∀ i, me_r (v i) := fun i => by
    rw [e0]
    unfold nv
    (repeat' split) <;> first | assumption | exact ⟨by omega, by omega⟩ | exact me_i_r _ _ _
  have fin : ∀ MF, fr (fun b j => b = p + 22 ∧ j < n) (nd_put M p n v) MF → (∀ j, ow nx x1 x2 x3 x4 j → me_i MF (p + 22) j = n) → (∀ j, ¬ ow nx x1 x2 x3 x4 j → me_i MF (p + 22) j = me_i (nd_put M p n v) (p + 22) j) → Q (.inr (some (.inl (n : Int)))) MF := fun MF f g1 g2 => by
    refine HQ MF ⟨(nd_put_fr.mo fun b j z => ?_).tr (f.mo fun b j z => Or.inr (Or.inr z)), ?_, fun i hi => ?_, g1, fun j hj w => ?_⟩
    · rcases z with z | z
      · exact Or.inl z
      · exact Or.inr (Or.inl z)
    · rw [f.i (by omega), nd_put_n (by omega)]
    · show me_i MF (p + 14 + i) n = _
      rw [f.i (by omega)]
      exact nd_put_v hvr i hi
    · show me_i MF (p + 22) j = _
      rw [g2 j w, nd_put_fr.i (by omega)]
      rfl
  refine b317_0 ?_
  rw [hn, Int.toNat_natCast]
  intro M1
  refine ⟨by omega, by omega, ?_⟩
  intro M2
  refine ⟨by omega, by omega, ?_⟩
  intro M3
  refine ⟨by omega, by omega, ?_⟩
  intro M4
  refine ⟨by omega, by omega, ?_⟩
  intro M5
  refine ⟨by omega, by omega, ?_⟩
  intro M6
  refine ⟨by omega, by omega, ?_⟩
  intro M7
  have e7 : me_i M7 p 35 = (t : Int) := by
    show me_i (me_sI (me_sI (me_sI (me_sI (me_sI (me_sI (me_sI _ _ _ _) _ _ _) _ _ _) _ _ _) _ _ _) _ _ _) _ _ _) _ _ = _
    iterate 7 rw [me_i_sI, if_neg (by omega)]
    exact ht
  rw [e7]
  refine ⟨by omega, by omega, ?_⟩
  intro M8
  refine ⟨by omega, by omega, ?_⟩
  intro M9
  refine ⟨by omega, by omega, ?_⟩
  intro M10
  refine ⟨by omega, by omega, ?_⟩
  intro M11
  have e11 : me_i M11 p 38 = me_i M p 38 := by
    show me_i (me_sI (me_sI (me_sI (me_sI M7 _ _ _) _ _ _) _ _ _) _ _ _) _ _ = _
    iterate 4 rw [me_i_sI, if_neg (by omega)]
    show me_i (me_sI (me_sI (me_sI (me_sI (me_sI (me_sI (me_sI _ _ _ _) _ _ _) _ _ _) _ _ _) _ _ _) _ _ _) _ _ _) _ _ = _
    iterate 7 rw [me_i_sI, if_neg (by omega)]
  rw [e11]
  refine ⟨by omega, by omega, ?_⟩
  intro M12
  have e12 : M12 = nd_put M p n v := by
    rw [← hv0]
    rfl
  rw [e12]
  have hx1 : ∀ j, me_i (nd_put M p n v) (p + 21) j = nx j := fun j => by
    rw [← hx j]
    split
    · rename_i c
      rw [c]
      have := nd_put_v (M := M) (p := p) (n := n) hvr 7 (by omega)
      rw [e0] at this
      exact this
    · rw [nd_put_fr.i (by omega)]
      rfl
  refine ca_V hd (c_318 nx h8 r2 hx1 fun j z => hv j (Or.inl z)) (fun M13 _ g => ?_) nt_E_no
  obtain ⟨f13, g1, g2⟩ := g
  have hx13 : ∀ j, me_i M13 (p + 21) j = nx j := fun j => by rw [f13.i (by omega), hx1]
  have K3 : ∀ M16, fr (fun b j => b = p + 22 ∧ j < n) (nd_put M p n v) M16 ∧ (∀ j, (rc nx x2 j ∨ ¬ (x1 = 8 ∨ x1 = 9 ∨ x1 = 11 ∨ x1 = 21) ∧ rc nx x3 j) → me_i M16 (p + 22) j = n) ∧ (∀ j, ¬ (rc nx x2 j ∨ ¬ (x1 = 8 ∨ x1 = 9 ∨ x1 = 11 ∨ x1 = 21) ∧ rc nx x3 j) → me_i M16 (p + 22) j = me_i (nd_put M p n v) (p + 22) j) → me_r x1 ∧ me_r 15 ∧ (¬ x1 = 15 → ∃ d', d = d' + 1 ∧ me_W (mt_G N X) 318 d' 0 [some (.inr (.inl (some p, 29, 0))), some (.inl (n : Int)), some (.inl x4), none] [] M16 (sx_qV (fun M19 => Q (.inr (some (.inl (n : Int)))) M19) (fun e21 M20 => Q (.inl e21) M20))) ∧ (x1 = 15 → ∃ d', d = d' + 1 ∧ me_W (mt_G N X) 318 d' 0 [some (.inr (.inl (some p, 29, 0))), some (.inl (n : Int)), some (.inl (-1)), none] [] M16 (sx_qV (fun M22 => Q (.inr (some (.inl (n : Int)))) M22) (fun e24 M23 => Q (.inl e24) M23))) := fun M16 ⟨f16, q1, q2⟩ => by
    have hx16 : ∀ j, me_i M16 (p + 21) j = nx j := fun j => by rw [f16.i (by omega), hx1]
    refine ⟨r1, ⟨by omega, by omega⟩, fun w => ?_, fun w => ?_⟩
    · refine ca_V hd (c_318 nx h8 r4 hx16 fun j z => hv j (Or.inr (Or.inr ⟨w, z⟩))) (fun M19 _ g => ?_) nt_E_no
      obtain ⟨f19, g3, g4⟩ := g
      refine fin M19 (f16.tr f19) (fun j z => ?_) (fun j z => ?_)
      · by_cases c : rc nx x4 j
        · exact g3 j c
        · rw [g4 j c]
          refine q1 j ?_
          rcases z with z | z | z
          · exact Or.inl z
          · exact Or.inr z
          · exact absurd z.2 c
      · rw [g4 j (fun c => z (Or.inr (Or.inr ⟨w, c⟩))), q2 j]
        rintro (c | c)
        · exact z (Or.inl c)
        · exact z (Or.inr (Or.inl c))
    · refine ca_V hd (c_318 nx h8 ⟨by omega, by omega⟩ hx16 fun j z => absurd z (rc_neg (by omega))) (fun M19 _ g => ?_) nt_E_no
      obtain ⟨f19, g3, g4⟩ := g
      refine fin M19 (f16.tr f19) (fun j z => ?_) (fun j z => ?_)
      · rw [g4 j (rc_neg (by omega))]
        refine q1 j ?_
        rcases z with z | z | z
        · exact Or.inl z
        · exact Or.inr z
        · exact absurd w z.1
      · rw [g4 j (rc_neg (by omega)), q2 j]
        rintro (c | c)
        · exact z (Or.inl c)
        · exact z (Or.inr (Or.inl c))
  have KN : (x1 = 8 ∨ x1 = 9 ∨ x1 = 11 ∨ x1 = 21) → ∀ M16, fr (fun b j => b = p + 22 ∧ j < n) M13 M16 → (∀ j, ¬ rc nx (-1) j → me_i M16 (p + 22) j = me_i M13 (p + 22) j) → fr (fun b j => b = p + 22 ∧ j < n) (nd_put M p n v) M16 ∧ (∀ j, (rc nx x2 j ∨ ¬ (x1 = 8 ∨ x1 = 9 ∨ x1 = 11 ∨ x1 = 21) ∧ rc nx x3 j) → me_i M16 (p + 22) j = n) ∧ (∀ j, ¬ (rc nx x2 j ∨ ¬ (x1 = 8 ∨ x1 = 9 ∨ x1 = 11 ∨ x1 = 21) ∧ rc nx x3 j) → me_i M16 (p + 22) j = me_i (nd_put M p n v) (p + 22) j) := fun hop M16 f q => by
    refine ⟨f13.tr f, fun j z => ?_, fun j z => ?_⟩
    · rw [q j (rc_neg (by omega))]
      rcases z with z | z
      · exact g1 j z
      · exact absurd hop z.1
    · rw [q j (rc_neg (by omega)), g2 j fun c => z (Or.inl c)]
  have KY : ¬ (x1 = 8 ∨ x1 = 9 ∨ x1 = 11 ∨ x1 = 21) → ∀ M16, fr (fun b j => b = p + 22 ∧ j < n) M13 M16 → (∀ j, rc nx x3 j → me_i M16 (p + 22) j = n) → (∀ j, ¬ rc nx x3 j → me_i M16 (p + 22) j = me_i M13 (p + 22) j) → fr (fun b j => b = p + 22 ∧ j < n) (nd_put M p n v) M16 ∧ (∀ j, (rc nx x2 j ∨ ¬ (x1 = 8 ∨ x1 = 9 ∨ x1 = 11 ∨ x1 = 21) ∧ rc nx x3 j) → me_i M16 (p + 22) j = n) ∧ (∀ j, ¬ (rc nx x2 j ∨ ¬ (x1 = 8 ∨ x1 = 9 ∨ x1 = 11 ∨ x1 = 21) ∧ rc nx x3 j) → me_i M16 (p + 22) j = me_i (nd_put M p n v) (p + 22) j) := fun hop M16 f q1 q => by
    refine ⟨f13.tr f, fun j z => ?_, fun j z => ?_⟩
    · by_cases c : rc nx x3 j
      · exact q1 j c
      · rw [q j c]
        rcases z with z | z
        · exact g1 j z
        · exact absurd z.2 c
    · rw [q j (fun c => z (Or.inr ⟨hop, c⟩)), g2 j fun c => z (Or.inl c)]
  have none1 : ∀ j, rc nx (-1) j → j < n ∧ (nx j < 0 ∨ (j : Int) < nx j) := fun j z => absurd z (rc_neg (by omega))
  have m1 : me_r (-1) := ⟨by omega, by omega⟩
  have N1 := fun (hop : x1 = 8 ∨ x1 = 9 ∨ x1 = 11 ∨ x1 = 21) => fun (K : me_M → Prop) (E : Nat → me_M → Prop) (hK : ∀ M16, _ → K M16) => (ca_V (E := E) hd (c_318 (N := N) (X := X) nx h8 m1 hx13 none1) (fun M16 _ g => hK M16 (KN hop M16 g.1 g.2.2)) nt_E_no)
  have Y1 := fun (hop : ¬ (x1 = 8 ∨ x1 = 9 ∨ x1 = 11 ∨ x1 = 21)) => fun (K : me_M → Prop) (E : Nat → me_M → Prop) (hK : ∀ M16, _ → K M16) => (ca_V (E := E) hd (c_318 (N := N) (X := X) nx h8 r3 hx13 fun j z => hv j (Or.inr (Or.inl ⟨hop, z⟩))) (fun M16 _ g => hK M16 (KY hop M16 g.1 g.2.1 g.2.2)) nt_E_no)
  refine ⟨r1, ⟨by omega, by omega⟩, fun c15 => ⟨r1, ⟨by omega, by omega⟩, fun c8 => N1 (by omega) _ _ K3, fun c8 => ⟨r1, ⟨by omega, by omega⟩, fun c9 => N1 (by omega) _ _ K3, fun c9 => ⟨r1, ⟨by omega, by omega⟩, fun c11 => N1 (by omega) _ _ K3, fun c11 => ⟨r1, ⟨by omega, by omega⟩, fun c21 => Y1 (by omega) _ _ K3, fun c21 => N1 (by omega) _ _ K3⟩⟩⟩⟩, fun c15 => ⟨r3, fun cy => ?_, fun cy => ⟨r1, ⟨by omega, by omega⟩, fun c8 => by omega, fun c8 => ⟨r1, ⟨by omega, by omega⟩, fun c9 => by omega, fun c9 => ⟨r1, ⟨by omega, by omega⟩, fun c11 => by omega, fun c11 => ⟨r1, ⟨by omega, by omega⟩, fun c21 => Y1 (by omega) _ _ K3, fun c21 => by omega⟩⟩⟩⟩⟩⟩
  refine K3 M13 ⟨f13, fun j z => ?_, fun j z => ?_⟩
  · rcases z with z | z
    · exact g1 j z
    · exact absurd z.2 (rc_neg cy)
  · exact g2 j fun c => z (Or.inl c)
theorem c_317 (hd : 1 ≤ d) (hn : me_i M p 4 = (n : Int)) (h8 : n < 4816) (ht : me_i M p 35 = (t : Int)) (r1 : me_r x1) (r2 : me_r x2) (r3 : me_r x3) (r4 : me_r x4) (r5 : me_r x5) (r6 : me_r x6) (r7 : me_r ((t : Int) - 1)) (nx : Nat → Int) (hx : ∀ j, (if j = n then -1 else nA p M 7 j) = nx j) (hv : ∀ j, ow nx x1 x2 x3 x4 j → j < n ∧ (nx j < 0 ∨ (j : Int) < nx j)) :
    me_W (mt_G N X) 317 d 0 [some (.inr (.inl (some p, 29, 0))), some (.inl x1), some (.inl x2), some (.inl x3), some (.inl x4), some (.inl x5), some (.inl x6), none] [] M (sx_qI (fun y M' => y = (n : Int) ∧ fr (fun b j => b = p ∧ j = 4 ∨ p + 14 ≤ b ∧ b ≤ p + 24 ∧ j = n ∨ b = p + 22 ∧ j < n) M M' ∧ me_i M' p 4 = (n : Int) + 1 ∧ (∀ i, i < 11 → nA p M' i n = nv x1 x2 x3 x4 x5 x6 ((t : Int) - 1) (me_i M p 38) i) ∧ (∀ j, ow nx x1 x2 x3 x4 j → nA p M' 8 j = n) ∧ ∀ j, ¬ j = n → ¬ ow nx x1 x2 x3 x4 j → nA p M' 8 j = nA p M 8 j) nt_E) := nd_317 hd hn h8 ht r1 r2 r3 r4 r5 r6 r7 nx hx hv fun M' h => ⟨rfl, h⟩
end NODE
end
section
/-! the reference's parser: what a row of nodes keeps -/
section CL
variable (A : Nat → Nat → Int) (b s : Nat → Int)
def ex (k : Int) : Prop := 0 ≤ k ∧ 1 ≤ A 0 k.toNat ∧ A 0 k.toNat ≤ 16
def sm (k : Int) : Prop := 0 ≤ k ∧ 20 ≤ A 0 k.toNat ∧ A 0 k.toNat ≤ 27
/-- a node's parts, by its sort -/
def opk (o x y z : Int) : Prop :=
  (1 ≤ o ∧ o ≤ 7 ∨ o = 9 ∨ o = 16) ∧ x = -1 ∧ y = -1 ∧ z = -1 ∨
  o = 8 ∧ (x = -1 ∨ ex A x) ∧ y = -1 ∧ z = -1 ∨
  (o = 10 ∨ o = 11 ∨ o = 13 ∨ o = 14) ∧ ex A x ∧ y = -1 ∧ z = -1 ∨
  o = 12 ∧ ex A x ∧ (y = -1 ∨ ex A y ∧ x < y) ∧ z = -1 ∨
  o = 15 ∧ ex A x ∧ ex A y ∧ x < y ∨
  o = 20 ∧ (x = -1 ∨ sm A x) ∧ y = -1 ∧ z = -1 ∨
  o = 21 ∧ ex A x ∧ 0 ≤ y ∧ z = -1 ∨
  o = 22 ∧ ex A x ∧ ex A y ∧ x < y ∧ z = -1 ∨
  (o = 23 ∨ o = 27) ∧ ex A x ∧ y = -1 ∧ z = -1 ∨
  o = 24 ∧ ex A x ∧ sm A y ∧ x < y ∧ (z = -1 ∨ sm A z ∧ y < z) ∨
  o = 25 ∧ ex A x ∧ sm A y ∧ x < y ∧ z = -1 ∨
  o = 26 ∧ (x = -1 ∨ ex A x) ∧ y = -1 ∧ z = -1
/-- the token of a node's name -/
def nmk (T : Nat) (o w : Int) : Prop := w < T ∧ (o = 1 → 0 ≤ w ∧ s w.toNat = 2) ∧ (o = 7 ∨ o = 8 ∨ o = 9 ∨ o = 11 ∨ o = 12 → 0 ≤ w ∧ s w.toNat = 1) ∧ (o = 16 → 0 ≤ w ∧ s w.toNat = 5) ∧ (¬ (o = 1 ∨ o = 7 ∨ o = 8 ∨ o = 9 ∨ o = 11 ∨ o = 12 ∨ o = 16) → w = -1)
def part (lo n : Nat) (k : Int) : Prop := k = -1 ∨ (lo : Int) ≤ k ∧ k < n ∧ A 8 k.toNat = n
def cl (lo hi dhi T : Nat) (h : Int) (n : Nat) : Prop :=
  opk A (A 0 n) (A 1 n) (A 2 n) (A 3 n) ∧ nmk s T (A 0 n) (A 4 n) ∧
  (0 ≤ A 5 n ∧ A 5 n ≤ A 6 n ∧ A 6 n < T) ∧ A 10 n = h ∧
  (A 0 n = 21 → A 2 n < dhi ∧ b (A 2 n).toNat = 4) ∧
  (A 8 n = -1 ∨ (n : Int) < A 8 n ∧ A 8 n < hi) ∧
  (∀ j, n < j → (j : Int) < A 8 n → 0 ≤ A 8 j ∧ A 8 j ≤ A 8 n) ∧
  (A 7 n = -1 ∨ (n : Int) < A 7 n ∧ A 7 n < hi ∧ A 8 (A 7 n).toNat = A 8 n ∧ (A 0 n ≤ 16 → A 0 (A 7 n).toNat ≤ 16) ∧ (20 ≤ A 0 n → 20 ≤ A 0 (A 7 n).toNat) ∧ (0 ≤ A 8 n → (A 0 (A 8 n).toNat = 8 ∨ A 0 (A 8 n).toNat = 12 ∨ A 0 (A 8 n).toNat = 20) ∧ (A 0 (A 8 n).toNat = 12 → ¬ A 1 (A 8 n).toNat = n))) ∧
  part A lo n (A 1 n) ∧ (¬ A 0 n = 21 → part A lo n (A 2 n)) ∧ (¬ A 0 n = 15 → part A lo n (A 3 n)) ∧
  ∀ k, lo ≤ k → k < n → A 8 k = n → (k : Int) = A 1 n ∨ ¬ A 0 n = 21 ∧ (k : Int) = A 2 n ∨ ¬ A 0 n = 15 ∧ (k : Int) = A 3 n ∨ ∃ j, lo ≤ j ∧ j < k ∧ A 8 j = n ∧ A 7 j = k
/-- nodes lo .. hi - 1 are a row of trees -/
def FR (lo hi dhi T : Nat) (h : Int) : Prop := ∀ n, lo ≤ n → n < hi → cl A b s lo hi dhi T h n
end CL
section CLT
variable {A A' : Nat → Nat → Int} {b b' s : Nat → Int} {lo mid hi dhi dhi' T T' : Nat} {h : Int}
theorem FR.nil : FR A b s lo lo dhi T h := fun _ h1 h2 => by omega
theorem FR.parent (F : FR A b s lo hi dhi T h) {n : Nat} (h1 : lo ≤ n) (h2 : n < hi) : A 8 n = -1 ∨ (n : Int) < A 8 n ∧ A 8 n < hi := (F n h1 h2).2.2.2.2.2.1
theorem FR.app (F : FR A b s lo mid dhi T h) (F' : FR A b s mid hi dhi' T' h) (h1 : lo ≤ mid) (h2 : mid ≤ hi) (hd : dhi ≤ dhi') (hT : T ≤ T') : FR A b s lo hi dhi' T' h := by
  intro n n1 n2
  by_cases c : n < mid
  · obtain ⟨c1, c2, c3, c4, c5, c6, c7, c8, c9, c10, c11, c12⟩ := F n n1 c
    refine ⟨c1, ⟨by have := c2.1; omega, c2.2⟩, ⟨c3.1, c3.2.1, by omega⟩, c4, fun z => ⟨by have := (c5 z).1; omega, (c5 z).2⟩, ?_, c7, ?_, c9, c10, c11, c12⟩
    · rcases c6 with z | z
      · exact Or.inl z
      · exact Or.inr ⟨z.1, by omega⟩
    · rcases c8 with z | z
      · exact Or.inl z
      · exact Or.inr ⟨z.1, by omega, z.2.2⟩
  · obtain ⟨c1, c2, c3, c4, c5, c6, c7, c8, c9, c10, c11, c12⟩ := F' n (by omega) n2
    have pm : ∀ k, part A mid n k → part A lo n k := fun k z => by
      rcases z with z | z
      · exact Or.inl z
      · exact Or.inr ⟨by omega, z.2⟩
    refine ⟨c1, c2, c3, c4, c5, c6, c7, c8, pm _ c9, fun z => pm _ (c10 z), fun z => pm _ (c11 z), fun k k1 k2 k3 => ?_⟩
    by_cases kc : k < mid
    · have := F.parent k1 kc
      omega
    · rcases c12 k (by omega) k2 k3 with z | z | z | ⟨j, z1, z2⟩
      · exact Or.inl z
      · exact Or.inr (Or.inl z)
      · exact Or.inr (Or.inr (Or.inl z))
      · exact Or.inr (Or.inr (Or.inr ⟨j, by omega, z2⟩))
theorem ex.eq {k : Int} (e : 0 ≤ k → A' 0 k.toNat = A 0 k.toNat) (z : ex A k) : ex A' k := by
  unfold ex at z ⊢
  rw [e z.1]
  exact z
theorem sm.eq {k : Int} (e : 0 ≤ k → A' 0 k.toNat = A 0 k.toNat) (z : sm A k) : sm A' k := by
  unfold sm at z ⊢
  rw [e z.1]
  exact z
theorem opk.eq {o x y z : Int} (ex1 : 0 ≤ x → A' 0 x.toNat = A 0 x.toNat) (ey : ¬ o = 21 → 0 ≤ y → A' 0 y.toNat = A 0 y.toNat) (ez : ¬ o = 15 → 0 ≤ z → A' 0 z.toNat = A 0 z.toNat) (q : opk A o x y z) : opk A' o x y z := by
  have X1 := fun z => ex.eq ex1 z
  have X2 := fun z => sm.eq ex1 z
  have Y1 := fun w z => ex.eq (ey w) z
  have Y2 := fun w z => sm.eq (ey w) z
  have Z2 := fun w z => sm.eq (ez w) z
  unfold opk at q ⊢
  rcases q with q | q | q | q | q | q | q | q | q | q | q | q
  · exact Or.inl q
  · exact Or.inr (Or.inl ⟨q.1, q.2.1.imp id X1, q.2.2⟩)
  · exact Or.inr (Or.inr (Or.inl ⟨q.1, X1 q.2.1, q.2.2⟩))
  · exact Or.inr (Or.inr (Or.inr (Or.inl ⟨q.1, X1 q.2.1, q.2.2.1.imp id (fun v => ⟨Y1 (by omega) v.1, v.2⟩), q.2.2.2⟩)))
  · exact Or.inr (Or.inr (Or.inr (Or.inr (Or.inl ⟨q.1, X1 q.2.1, Y1 (by omega) q.2.2.1, q.2.2.2⟩))))
  · exact Or.inr (Or.inr (Or.inr (Or.inr (Or.inr (Or.inl ⟨q.1, q.2.1.imp id X2, q.2.2⟩)))))
  · exact Or.inr (Or.inr (Or.inr (Or.inr (Or.inr (Or.inr (Or.inl ⟨q.1, X1 q.2.1, q.2.2⟩))))))
  · exact Or.inr (Or.inr (Or.inr (Or.inr (Or.inr (Or.inr (Or.inr (Or.inl ⟨q.1, X1 q.2.1, Y1 (by omega) q.2.2.1, q.2.2.2⟩)))))))
  · exact Or.inr (Or.inr (Or.inr (Or.inr (Or.inr (Or.inr (Or.inr (Or.inr (Or.inl ⟨q.1, X1 q.2.1, q.2.2⟩))))))))
  · exact Or.inr (Or.inr (Or.inr (Or.inr (Or.inr (Or.inr (Or.inr (Or.inr (Or.inr (Or.inl ⟨q.1, X1 q.2.1, Y2 (by omega) q.2.2.1, q.2.2.2.1, q.2.2.2.2.imp id (fun v => ⟨Z2 (by omega) v.1, v.2⟩)⟩)))))))))
  · exact Or.inr (Or.inr (Or.inr (Or.inr (Or.inr (Or.inr (Or.inr (Or.inr (Or.inr (Or.inr (Or.inl ⟨q.1, X1 q.2.1, Y2 (by omega) q.2.2.1, q.2.2.2⟩))))))))))
  · exact Or.inr (Or.inr (Or.inr (Or.inr (Or.inr (Or.inr (Or.inr (Or.inr (Or.inr (Or.inr (Or.inr ⟨q.1, q.2.1.imp id X1, q.2.2⟩))))))))))
/-- the same nodes elsewhere -/
theorem FR.eq (F : FR A b s lo hi dhi T h) (e : ∀ i j, i < 11 → lo ≤ j → j < hi → A' i j = A i j) (eb : ∀ j, j < dhi → b' j = b j) : FR A' b' s lo hi dhi T h := by
  intro n n1 n2
  obtain ⟨c1, c2, c3, c4, c5, c6, c7, c8, c9, c10, c11, c12⟩ := F n n1 n2
  have E := fun i (hi : i < 11) => e i n hi n1 n2
  have P : ∀ k, part A lo n k → 0 ≤ k → ∀ i, i < 11 → A' i k.toNat = A i k.toNat := fun k z z0 i hi => by
    rcases z with z | z
    · omega
    · exact e i _ hi (by omega) (by omega)
  have pm : ∀ k, part A lo n k → part A' lo n k := fun k z => by
    rcases z with z | z
    · exact Or.inl z
    · refine Or.inr ⟨z.1, z.2.1, ?_⟩
      rw [e 8 _ (by omega) (by omega) (by omega)]
      exact z.2.2
  unfold cl
  rw [E 0 (by omega), E 1 (by omega), E 2 (by omega), E 3 (by omega), E 4 (by omega), E 5 (by omega), E 6 (by omega), E 7 (by omega), E 8 (by omega), E 10 (by omega)]
  refine ⟨opk.eq (fun z => P _ c9 z 0 (by omega)) (fun w z => P _ (c10 w) z 0 (by omega)) (fun w z => P _ (c11 w) z 0 (by omega)) c1, c2, c3, c4, fun z => ⟨(c5 z).1, ?_⟩, c6, fun j j1 j2 => ?_, ?_, pm _ c9, fun z => pm _ (c10 z), fun z => pm _ (c11 z), fun k k1 k2 k3 => ?_⟩
  · rw [eb _ ?_]
    · exact (c5 z).2
    · have z1 := (c5 z).1
      have z2 : 0 ≤ A 2 n := by
        unfold opk at c1
        omega
      omega
  · rcases c6 with z | z
    · omega
    · rw [e 8 j (by omega) (by omega) (by omega)]
      exact c7 j j1 j2
  · rcases c8 with z | ⟨z1, z2, z3, z4, z5, z6⟩
    · exact Or.inl z
    · refine Or.inr ⟨z1, z2, ?_, ?_, ?_, fun w => ?_⟩
      · rw [e 8 _ (by omega) (by omega) (by omega)]
        exact z3
      · rw [e 0 _ (by omega) (by omega) (by omega)]
        exact z4
      · rw [e 0 _ (by omega) (by omega) (by omega)]
        exact z5
      · rw [e 0 _ (by omega) (by omega) (by omega), e 1 _ (by omega) (by omega) (by omega)]
        exact z6 w
  · rw [e 8 k (by omega) k1 (by omega)] at k3
    rcases c12 k k1 k2 k3 with z | z | z | ⟨j, z1, z2, z3, z4⟩
    · exact Or.inl z
    · exact Or.inr (Or.inl z)
    · exact Or.inr (Or.inr (Or.inl z))
    · refine Or.inr (Or.inr (Or.inr ⟨j, z1, z2, ?_, ?_⟩))
      · rw [e 8 j (by omega) (by omega) (by omega)]
        exact z3
      · rw [e 7 j (by omega) (by omega) (by omega)]
        exact z4
/-- a node more, whose parts are all roots -/
theorem FR.node (F : FR A b s lo hi dhi T h) (l0 : lo ≤ hi) (hT : T ≤ T') (e : ∀ i j, i < 11 → ¬ i = 8 → lo ≤ j → j < hi → A' i j = A i j) (r1 : ∀ j, lo ≤ j → j < hi → A 8 j = -1 → A' 8 j = hi) (r2 : ∀ j, lo ≤ j → j < hi → ¬ A 8 j = -1 → A' 8 j = A 8 j)
    (k1 : opk A (A' 0 hi) (A' 1 hi) (A' 2 hi) (A' 3 hi)) (k2 : nmk s T' (A' 0 hi) (A' 4 hi)) (k3 : 0 ≤ A' 5 hi ∧ A' 5 hi ≤ A' 6 hi ∧ A' 6 hi < T') (k4 : A' 10 hi = h) (k5 : A' 0 hi = 21 → A' 2 hi < dhi ∧ b (A' 2 hi).toNat = 4) (k6 : A' 8 hi = -1) (k7 : A' 7 hi = -1)
    (q1 : A' 1 hi = -1 ∨ (lo : Int) ≤ A' 1 hi ∧ A' 1 hi < hi ∧ A 8 (A' 1 hi).toNat = -1) (q2 : ¬ A' 0 hi = 21 → A' 2 hi = -1 ∨ (lo : Int) ≤ A' 2 hi ∧ A' 2 hi < hi ∧ A 8 (A' 2 hi).toNat = -1) (q3 : ¬ A' 0 hi = 15 → A' 3 hi = -1 ∨ (lo : Int) ≤ A' 3 hi ∧ A' 3 hi < hi ∧ A 8 (A' 3 hi).toNat = -1)
    (q4 : ∀ k, lo ≤ k → k < hi → A 8 k = -1 → (k : Int) = A' 1 hi ∨ ¬ A' 0 hi = 21 ∧ (k : Int) = A' 2 hi ∨ ¬ A' 0 hi = 15 ∧ (k : Int) = A' 3 hi ∨ ∃ j, lo ≤ j ∧ j < k ∧ A 8 j = -1 ∧ A 7 j = k)
    (q5 : ∀ k, lo ≤ k → k < hi → A 8 k = -1 → A 7 k = -1 ∨ (A' 0 hi = 8 ∨ A' 0 hi = 12 ∨ A' 0 hi = 20) ∧ (A' 0 hi = 12 → ¬ A' 1 hi = k)) : FR A' b s lo (hi + 1) dhi T' h := by
  intro n n1 n2
  by_cases c : n = hi
  · subst c
    have pm : ∀ k : Int, (k = -1 ∨ (lo : Int) ≤ k ∧ k < n ∧ A 8 k.toNat = -1) → part A' lo n k := fun k z => by
      rcases z with z | ⟨z1, z2, z3⟩
      · exact Or.inl z
      · exact Or.inr ⟨z1, z2, r1 _ (by omega) (by omega) z3⟩
    have P : ∀ k : Int, (k = -1 ∨ (lo : Int) ≤ k ∧ k < n ∧ A 8 k.toNat = -1) → 0 ≤ k → A' 0 k.toNat = A 0 k.toNat := fun k z z0 => by
      rcases z with z | z
      · omega
      · exact e 0 _ (by omega) (by omega) (by omega) (by omega)
    refine ⟨opk.eq (P _ q1) (fun w => P _ (q2 w)) (fun w => P _ (q3 w)) k1, k2, k3, k4, k5, Or.inl k6, fun j j1 j2 => by omega, Or.inl k7, pm _ q1, fun w => pm _ (q2 w), fun w => pm _ (q3 w), fun k a1 a2 a3 => ?_⟩
    have a4 : A 8 k = -1 := by
      by_cases w : A 8 k = -1
      · exact w
      · rw [r2 k a1 a2 w] at a3
        have := F.parent a1 a2
        omega
    rcases q4 k a1 a2 a4 with z | z | z | ⟨j, z1, z2, z3, z4⟩
    · exact Or.inl z
    · exact Or.inr (Or.inl z)
    · exact Or.inr (Or.inr (Or.inl z))
    · refine Or.inr (Or.inr (Or.inr ⟨j, z1, z2, r1 j z1 (by omega) z3, ?_⟩))
      rw [e 7 j (by omega) (by omega) z1 (by omega)]
      exact z4
  · have n3 : n < hi := by omega
    obtain ⟨c1, c2, c3, c4, c5, c6, c7, c8, c9, c10, c11, c12⟩ := F n n1 n3
    have E := fun i (h1 : i < 11) (h2 : ¬ i = 8) => e i n h1 h2 n1 n3
    have P : ∀ k, part A lo n k → 0 ≤ k → A' 0 k.toNat = A 0 k.toNat := fun k z z0 => by
      rcases z with z | z
      · omega
      · exact e 0 _ (by omega) (by omega) (by omega) (by omega)
    have R2 : ∀ j, lo ≤ j → j < hi → 0 ≤ A 8 j → A' 8 j = A 8 j := fun j j1 j2 j3 => r2 j j1 j2 (by omega)
    have pm : ∀ k, part A lo n k → part A' lo n k := fun k z => by
      rcases z with z | ⟨z1, z2, z3⟩
      · exact Or.inl z
      · refine Or.inr ⟨z1, z2, ?_⟩
        rw [R2 _ (by omega) (by omega) (by omega)]
        exact z3
    have p8 : A 8 n = -1 ∧ A' 8 n = hi ∨ ((n : Int) < A 8 n ∧ A 8 n < hi) ∧ A' 8 n = A 8 n := by
      rcases c6 with z | z
      · exact Or.inl ⟨z, r1 n n1 n3 z⟩
      · exact Or.inr ⟨z, R2 n n1 n3 (by omega)⟩
    unfold cl
    rw [E 0 (by omega) (by omega), E 1 (by omega) (by omega), E 2 (by omega) (by omega), E 3 (by omega) (by omega), E 4 (by omega) (by omega), E 5 (by omega) (by omega), E 6 (by omega) (by omega), E 7 (by omega) (by omega), E 10 (by omega) (by omega)]
    refine ⟨opk.eq (P _ c9) (fun w => P _ (c10 w)) (fun w => P _ (c11 w)) c1, ⟨by have := c2.1; omega, c2.2⟩, ⟨c3.1, c3.2.1, by omega⟩, c4, c5, by omega, fun j j1 j2 => ?_, ?_, pm _ c9, fun w => pm _ (c10 w), fun w => pm _ (c11 w), fun k a1 a2 a3 => ?_⟩
    · rcases p8 with ⟨z1, z2⟩ | ⟨z1, z2⟩
      · rw [z2] at j2 ⊢
        have jp := F.parent (n := j) (by omega) (by omega)
        rcases jp with w | w
        · rw [r1 j (by omega) (by omega) w]
          omega
        · rw [R2 j (by omega) (by omega) (by omega)]
          omega
      · rw [z2] at j2 ⊢
        have := c7 j j1 j2
        rw [R2 j (by omega) (by omega) (by omega)]
        exact this
    · rcases c8 with z | ⟨z1, z2, z3, z4, z5, z6⟩
      · exact Or.inl z
      · refine Or.inr ⟨z1, by omega, ?_, ?_, ?_, fun w => ?_⟩
        · rcases p8 with ⟨y1, y2⟩ | ⟨y1, y2⟩
          · rw [y2]
            exact r1 _ (by omega) (by omega) (by omega)
          · rw [y2, R2 _ (by omega) (by omega) (by omega)]
            exact z3
        · rw [e 0 _ (by omega) (by omega) (by omega) (by omega)]
          exact z4
        · rw [e 0 _ (by omega) (by omega) (by omega) (by omega)]
          exact z5
        · rcases p8 with ⟨y1, y2⟩ | ⟨y1, y2⟩
          · rw [y2, Int.toNat_natCast]
            rcases q5 n n1 n3 y1 with v | v
            · omega
            · exact v
          · rw [y2, e 0 _ (by omega) (by omega) (by omega) (by omega), e 1 _ (by omega) (by omega) (by omega) (by omega)]
            exact z6 (by omega)
    · have a4 : A 8 k = n := by
        by_cases w : A 8 k = -1
        · rw [r1 k a1 (by omega) w] at a3
          omega
        · rw [r2 k a1 (by omega) w] at a3
          exact a3
      rcases c12 k a1 a2 a4 with z | z | z | ⟨j, z1, z2, z3, z4⟩
      · exact Or.inl z
      · exact Or.inr (Or.inl z)
      · exact Or.inr (Or.inr (Or.inl z))
      · refine Or.inr (Or.inr (Or.inr ⟨j, z1, z2, ?_, ?_⟩))
        · rw [R2 j z1 (by omega) (by omega)]
          exact z3
        · rw [e 7 j (by omega) (by omega) z1 (by omega)]
          exact z4
/-- a root is hung behind a root -/
theorem FR.link (F : FR A b s lo hi dhi T h) {l r : Nat} (l1 : lo ≤ l) (l2 : l < r) (l3 : r < hi) (rl : A 8 l = -1) (rr : A 8 r = -1) (ko : A 0 l ≤ 16 ∧ A 0 r ≤ 16 ∨ 20 ≤ A 0 l ∧ 20 ≤ A 0 r) (nl : A 7 l = -1) (e7 : A' 7 l = r) (e : ∀ i j, i < 11 → ¬ (i = 7 ∧ j = l) → A' i j = A i j) : FR A' b s lo hi dhi T h := by
  intro n n1 n2
  obtain ⟨c1, c2, c3, c4, c5, c6, c7, c8, c9, c10, c11, c12⟩ := F n n1 n2
  have E := fun i (h1 : i < 11) (h2 : ¬ i = 7) j => e i j h1 (by omega)
  have pm : ∀ k, part A lo n k → part A' lo n k := fun k z => by
    rcases z with z | z
    · exact Or.inl z
    · refine Or.inr ⟨z.1, z.2.1, ?_⟩
      rw [E 8 (by omega) (by omega)]
      exact z.2.2
  unfold cl
  rw [E 0 (by omega) (by omega), E 1 (by omega) (by omega), E 2 (by omega) (by omega), E 3 (by omega) (by omega), E 4 (by omega) (by omega), E 5 (by omega) (by omega), E 6 (by omega) (by omega), E 8 (by omega) (by omega), E 10 (by omega) (by omega)]
  refine ⟨opk.eq (fun _ => E 0 (by omega) (by omega) _) (fun _ _ => E 0 (by omega) (by omega) _) (fun _ _ => E 0 (by omega) (by omega) _) c1, c2, c3, c4, c5, c6, fun j j1 j2 => ?_, ?_, pm _ c9, fun z => pm _ (c10 z), fun z => pm _ (c11 z), fun k k1 k2 k3 => ?_⟩
  · rw [E 8 (by omega) (by omega)]
    exact c7 j j1 j2
  · by_cases c : n = l
    · subst c
      rw [e7, Int.toNat_natCast, E 8 (by omega) (by omega), E 0 (by omega) (by omega), rl, rr]
      exact Or.inr ⟨by omega, by omega, rfl, by omega, by omega, by omega⟩
    · rw [e 7 n (by omega) (by omega), E 8 (by omega) (by omega), E 0 (by omega) (by omega), E 0 (by omega) (by omega), E 1 (by omega) (by omega)]
      exact c8
  · rw [E 8 (by omega) (by omega)] at k3
    rcases c12 k k1 k2 k3 with z | z | z | ⟨j, z1, z2, z3, z4⟩
    · exact Or.inl z
    · exact Or.inr (Or.inl z)
    · exact Or.inr (Or.inr (Or.inl z))
    · refine Or.inr (Or.inr (Or.inr ⟨j, z1, z2, ?_, ?_⟩))
      · rw [E 8 (by omega) (by omega)]
        exact z3
      · rw [e 7 j (by omega) (fun w => by
          rw [w.2, nl] at z4
          omega)]
        exact z4
end CLT
end
section
/-! the reference's parser: what is read (which tokens make an exp, a statement, a block), with how deep it stands -/
def g_need (s c : Nat → Int) (lim : Nat) (x : Int) (t : Nat) : Option Nat := if s t = 4 ∧ c t = x ∧ t < lim then some (t + 1) else none
def g_name (s : Nat → Int) (lim t : Nat) : Option Nat := if s t = 1 ∧ t < lim then some (t + 1) else none
/-- m: 0 exp of level l, 1 what follows within level l, 2 unary, 3 operand, 4 what follows with a dot, 5 arguments, 6 further arguments, 7 statement, 8 block, 9 its statements, 10 an inner statement, 11 a condition -/
def g (s c : Nat → Int) (lim : Nat) (gd : Nat → Option Nat) : Nat → Nat → Nat → Nat → Nat → Option Nat
  | 0, _, _, _, _ => none
  | n + 1, 0, l, t, dp => if 6 < l then g s c lim gd n 2 0 t dp else (g s c lim gd n 0 (l + 1) t dp).bind fun t1 => g s c lim gd n 1 l t1 dp
  | n + 1, 1, l, t, dp => if s t = -1 then none else if s t = 4 ∧ g_lv (c t) = l then (if t < lim then (g s c lim gd n 0 (l + 1) (t + 1) dp).bind fun t1 => g s c lim gd n 1 l t1 dp else none) else some t
  | n + 1, 2, _, t, dp => if s t = -1 then none else if s t = 4 ∧ (c t = 45 ∨ c t = 33) then (if t < lim ∧ g_in s c dp (t + 1) then g s c lim gd n 2 0 (t + 1) (dp + 1) else none) else (g s c lim gd n 3 0 t dp).bind fun t1 => g s c lim gd n 4 0 t1 dp
  | n + 1, 3, _, t, dp => if s t = 2 then (if t < lim then some (t + 1) else none)
    else if s t = 1 then (if t < lim then (if s (t + 1) = -1 then none else if s (t + 1) = 4 ∧ c (t + 1) = 40 then g s c lim gd n 5 0 (t + 1) dp else some (t + 1)) else none)
    else if s t = 5 then (if t < lim then gd t else none)
    else if s t = 3 ∧ (c t = 15 ∨ c t = 16 ∨ c t = 14 ∨ c t = 13 ∨ c t = 11) then (if t < lim then some (t + 1) else none)
    else if s t = 3 ∧ c t = 12 then (if t < lim then ((g_name s lim (t + 1)).bind fun t1 => (g_need s c lim 40 t1).bind fun t2 => g_need s c lim 41 t2) else none)
    else if s t = 4 ∧ c t = 40 ∧ t < lim ∧ g_in s c dp (t + 1) then (g s c lim gd n 0 1 (t + 1) (dp + 1)).bind fun t1 => g_need s c lim 41 t1
    else none
  | n + 1, 4, _, t, dp => if s t = -1 then none else if s t = 4 ∧ c t = 46 then (if t < lim then ((g_name s lim (t + 1)).bind fun t1 => if s t1 = -1 then none else if s t1 = 4 ∧ c t1 = 40 then (g s c lim gd n 5 0 t1 dp).bind fun t2 => g s c lim gd n 4 0 t2 dp else g s c lim gd n 4 0 t1 dp) else none) else some t
  | n + 1, 5, _, t, dp => (g_need s c lim 40 t).bind fun t1 => if s t1 = -1 then none else if s t1 = 4 ∧ c t1 = 41 then (if t1 < lim then some (t1 + 1) else none) else if g_in s c dp t1 then g s c lim gd n 6 0 t1 (dp + 1) else none
  | n + 1, 6, _, t, dp => (g s c lim gd n 0 1 t dp).bind fun t1 => if s t1 = -1 then none else if s t1 = 4 ∧ c t1 = 44 then (if t1 < lim then g s c lim gd n 6 0 (t1 + 1) dp else none) else g_need s c lim 41 t1
  | n + 1, 7, _, t, dp => if s t = -1 then none
    else if s t = 4 ∧ c t = 123 then g s c lim gd n 8 0 t dp
    else if g_lo s c t then (if t < lim then ((g_name s lim (t + 1)).bind fun t1 => (g_need s c lim 61 t1).bind fun t2 => (g s c lim gd n 0 1 t2 dp).bind fun t3 => g_need s c lim 59 t3) else none)
    else if s t = 3 ∧ c t = 6 then (if t < lim then ((g s c lim gd n 11 0 (t + 1) dp).bind fun t1 => (g s c lim gd n 10 0 t1 dp).bind fun t2 => if s t2 = -1 then none else if s t2 = 3 ∧ c t2 = 7 then (if t2 < lim then g s c lim gd n 10 0 (t2 + 1) dp else none) else some t2) else none)
    else if s t = 3 ∧ c t = 8 then (if t < lim then ((g s c lim gd n 11 0 (t + 1) dp).bind fun t1 => g s c lim gd n 10 0 t1 dp) else none)
    else if s t = 3 ∧ c t = 9 then (if t < lim then (if s (t + 1) = -1 then none else if s (t + 1) = 4 ∧ c (t + 1) = 59 then g_need s c lim 59 (t + 1) else (g s c lim gd n 0 1 (t + 1) dp).bind fun t1 => g_need s c lim 59 t1) else none)
    else if s t = 3 ∧ c t = 10 then (if t < lim then ((g s c lim gd n 0 1 (t + 1) dp).bind fun t1 => g_need s c lim 59 t1) else none)
    else (g s c lim gd n 0 1 t dp).bind fun t1 => if s t1 = -1 then none else if s t1 = 4 ∧ c t1 = 61 then (if t1 < lim then ((g s c lim gd n 0 1 (t1 + 1) dp).bind fun t2 => g_need s c lim 59 t2) else none) else g_need s c lim 59 t1
  | n + 1, 8, _, t, dp => (g_need s c lim 123 t).bind fun t1 => if g_in s c dp t1 then g s c lim gd n 9 0 t1 (dp + 1) else none
  | n + 1, 9, _, t, dp => if s t = -1 then none else if s t = 4 ∧ c t = 125 then (if t < lim then some (t + 1) else none) else (g s c lim gd n 7 0 t dp).bind fun t1 => g s c lim gd n 9 0 t1 dp
  | n + 1, 10, _, t, dp => if g_in s c dp t then g s c lim gd n 7 0 t (dp + 1) else none
  | n + 1, 11, _, t, dp => (g_need s c lim 40 t).bind fun t1 => if g_in s c dp t1 then (g s c lim gd n 0 1 t1 (dp + 1)).bind fun t2 => g_need s c lim 41 t2 else none
  | _ + 1, _ + 12, _, _, _ => none
section GG
variable {s c : Nat → Int} {lim t dp : Nat} {gd : Nat → Option Nat}
/-- at } or ) no exp and no statement begins -/
theorem g_sg (h : s t = 4 ∧ (c t = 125 ∨ c t = 41)) : ∀ (n l : Nat), g s c lim gd n 0 l t dp = none ∧ g s c lim gd n 2 l t dp = none ∧ g s c lim gd n 3 l t dp = none ∧ g s c lim gd n 7 l t dp = none
  | 0, _ => ⟨rfl, rfl, rfl, rfl⟩
  | n + 1, l => by
    have i1 := g_sg h n (l + 1)
    have i0 := g_sg h n 0
    have i2 := g_sg h n 1
    refine ⟨?_, ?_, ?_, ?_⟩
    · rw [g, i0.2.1, i1.1]
      split <;> rfl
    · rw [g, if_neg (by omega), if_neg (by omega), i0.2.2.1]
      rfl
    · rw [g, if_neg (by omega), if_neg (by omega), if_neg (by omega), if_neg (by omega), if_neg (by omega), if_neg (by omega)]
    · rw [g, if_neg (by omega), if_neg (by omega), if_neg (by unfold g_lo; omega), if_neg (by omega), if_neg (by omega), if_neg (by omega), if_neg (by omega), i2.1]
      rfl
end GG
end
section
/-! the reference's parser: its state while exps are read -/
/-- what is told: 0 sort 1 name 2 type 3 owner 4 static 5 body 6 begin 7 end 8 told type 9 params -/
def tA (p : Nat) (M : me_M) (i j : Nat) : Int := me_i M (p + 25 + i) j
/-- where reading exps changes ints -/
def rE (p n0 : Nat) : Nat → Nat → Prop := fun b j => fF b j ∨ b = p ∧ (j = 4 ∨ j = 35 ∨ j = 37 ∨ j = 43 ∨ j = 45 ∨ j = 46) ∨ p + 14 ≤ b ∧ b ≤ p + 24 ∧ n0 ≤ j ∨ b = p + 40
theorem rE_mo {p n0 n1 : Nat} (h : n0 ≤ n1) : ∀ b j, rE p n1 b j → rE p n0 b j := fun b j z => by
  unfold rE at z ⊢
  rcases z with z | z | z | z
  · exact Or.inl z
  · exact Or.inr (Or.inl z)
  · exact Or.inr (Or.inr (Or.inl ⟨z.1, z.2.1, by omega⟩))
  · exact Or.inr (Or.inr (Or.inr z))
theorem rE_F {p n0 : Nat} : ∀ b j, fF b j → rE p n0 b j := fun _ _ z => Or.inl z
/-- before a reading -/
def pr (p : Nat) (s c : Nat → Int) (lim e0 : Nat) (h : Int) (M : me_M) (t n dp D : Nat) : Prop := pk p s c lim M ∧ me_i M p 35 = (t : Int) ∧ t ≤ e0 ∧ me_i M p 37 = (dp : Int) ∧ dp ≤ 21 ∧ me_i M p 4 = (n : Int) ∧ n ≤ t ∧ me_i M p 38 = h ∧ me_i M p 16 = (D : Int) ∧ (20 < dp → s t = 4 ∧ (c t = 125 ∨ c t = 41))
/-- since M0, where n0 nodes were and t0 was the token: now t, n; w: names that are read and have no node yet -/
def pe (p : Nat) (s : Nat → Int) (e0 : Nat) (h : Int) (D dp : Nat) (M0 : me_M) (n0 t0 : Nat) (w : Nat → Prop) (M : me_M) (t n : Nat) : Prop :=
  fr (rE p n0) M0 M ∧ me_i M p 35 = (t : Int) ∧ me_i M p 37 = (dp : Int) ∧ me_i M p 4 = (n : Int) ∧ (t0 ≤ t ∧ t ≤ e0) ∧ n0 ≤ n ∧ n + t0 ≤ n0 + t ∧ FR (nA p M) (tA p M 0) s n0 n D t h ∧ ∀ k, t0 ≤ k → k < t → s k = 1 → w k ∨ ∃ m, n0 ≤ m ∧ m < n ∧ nA p M 4 m = k
/-- the last node is the only root -/
def rt (A : Nat → Nat → Int) (n0 n t0 t : Nat) : Prop := n0 < n ∧ (∀ m, n0 ≤ m → m < n → A 8 m = -1 → m + 1 = n) ∧ A 8 (n - 1) = -1 ∧ A 7 (n - 1) = -1 ∧ A 5 (n - 1) = t0 ∧ A 6 (n - 1) = (t : Int) - 1
section PE
variable {p e0 D n0 t0 t n t1 n1 lim dp : Nat} {s c : Nat → Int} {h : Int} {M0 M M1 : me_M} {w w' : Nat → Prop}
theorem rE_8 (j : Nat) : ¬ rE p n0 (p + 8) j ∨ p ≤ 164 := by
  unfold rE fF
  omega
theorem pk_e (k : pk p s c lim M0) (hp : 164 < p) (f : fr (rE p n0) M0 M) : pk p s c lim M := by
  refine k.fr f (fun j => ?_) (fun j => ?_) ?_ ?_ <;> unfold rE fF <;> omega
theorem pr.st (P : pr p s c lim e0 h M0 t0 n0 dp D) : pe p s e0 h D dp M0 n0 t0 w M0 t0 n0 := ⟨fr.rf, P.2.1, P.2.2.2.1, P.2.2.2.2.2.1, ⟨Nat.le_refl _, P.2.2.1⟩, Nat.le_refl _, by omega, FR.nil, fun k k1 k2 => by omega⟩
theorem pe.pr {dp' : Nat} (Q : pe p s e0 h D dp M0 n0 t0 w M t n) (hp : 164 < p) (P : pr p s c lim e0 h M0 t0 n0 dp' D) (hd1 : dp ≤ 21) (hd : 20 < dp → s t = 4 ∧ (c t = 125 ∨ c t = 41)) : pr p s c lim e0 h M t n dp D := by
  obtain ⟨f, q1, q2, q3, q4, q5, q6, _⟩ := Q
  obtain ⟨k, _, _, _, _, _, p6, p7, p8, _⟩ := P
  refine ⟨pk_e k hp f, q1, q4.2, q2, hd1, q3, by omega, ?_, ?_, hd⟩
  · rw [f.i (by unfold rE fF; omega), p7]
  · rw [f.i (by unfold rE fF; omega), p8]
theorem pe.pass (Q : pe p s e0 h D dp M0 n0 t0 w M t n) (hp : 164 < p) (ht : t < 2147483646) (he : t < e0) (hw : s t = 1 → w t) : pe p s e0 h D dp M0 n0 t0 w (pT M p t) (t + 1) n := by
  obtain ⟨f, q1, q2, q3, q4, q5, q6, q7, q8⟩ := Q
  have f1 : fr (fun b j => b = p ∧ j = 35) M (pT M p t) := fr_sI ⟨rfl, rfl⟩
  have fA : ∀ i j, nA p (pT M p t) i j = nA p M i j := fun i j => f1.i (by omega)
  have fB : ∀ i j, tA p (pT M p t) i j = tA p M i j := fun i j => f1.i (by omega)
  refine ⟨f.tr (f1.mo fun b j z => Or.inr (Or.inl ⟨z.1, Or.inr (Or.inl z.2)⟩)), ?_, ?_, ?_, by omega, q5, by omega, ?_, fun k k1 k2 k3 => ?_⟩
  · show me_i (me_sI _ _ _ _) _ _ = _
    rw [me_i_sI, if_pos ⟨rfl, rfl⟩, me_to ⟨by omega, by omega⟩]
    omega
  · rw [f1.i (by omega), q2]
  · rw [f1.i (by omega), q3]
  · have F := q7.eq (A' := nA p (pT M p t)) (b' := tA p (pT M p t) 0) (fun i j _ _ _ => fA i j) fun j _ => fB 0 j
    intro m m1 m2
    obtain ⟨c1, c2, c3, c4⟩ := F m m1 m2
    exact ⟨c1, ⟨by have := c2.1; omega, c2.2⟩, ⟨c3.1, c3.2.1, by omega⟩, c4⟩
  · by_cases e : k = t
    · subst e
      exact Or.inl (hw k3)
    · rcases q8 k k1 (by omega) k3 with z | ⟨m, z1, z2, z3⟩
      · exact Or.inl z
      · exact Or.inr ⟨m, z1, z2, by rw [fA]; exact z3⟩
theorem pe.deep {dp' : Nat} (Q : pe p s e0 h D dp M0 n0 t0 w M t n) (hp : 164 < p) (hd : dp' < 1000) : pe p s e0 h D dp' M0 n0 t0 w (me_sI M p 37 (Int32.ofInt (dp' : Int))) t n := by
  obtain ⟨f, q1, q2, q3, q4, q5, q6, q7, q8⟩ := Q
  have f1 : fr (fun b j => b = p ∧ j = 37) M (me_sI M p 37 (Int32.ofInt (dp' : Int))) := fr_sI ⟨rfl, rfl⟩
  have fA : ∀ i j, nA p (me_sI M p 37 (Int32.ofInt (dp' : Int))) i j = nA p M i j := fun i j => f1.i (by omega)
  have fB : ∀ i j, tA p (me_sI M p 37 (Int32.ofInt (dp' : Int))) i j = tA p M i j := fun i j => f1.i (by omega)
  refine ⟨f.tr (f1.mo fun b j z => Or.inr (Or.inl ⟨z.1, Or.inr (Or.inr (Or.inl z.2))⟩)), ?_, ?_, ?_, q4, q5, q6, q7.eq (fun i j _ _ _ => fA i j) (fun j _ => fB 0 j), fun k k1 k2 k3 => ?_⟩
  · rw [f1.i (by omega), q1]
  · rw [me_i_sI, if_pos ⟨rfl, rfl⟩, me_to ⟨by omega, by omega⟩]
  · rw [f1.i (by omega), q3]
  · rcases q8 k k1 k2 k3 with z | ⟨m, z1, z2, z3⟩
    · exact Or.inl z
    · exact Or.inr ⟨m, z1, z2, by rw [fA]; exact z3⟩
/-- a reading behind a reading -/
theorem pe.seq {dp' : Nat} (hp : 164 < p) (Q : pe p s e0 h D dp M0 n0 t0 w M t n) (R : pe p s e0 h D dp' M n t w' M1 t1 n1) (hw : ∀ k, w' k → w k) : pe p s e0 h D dp' M0 n0 t0 w M1 t1 n1 := by
  obtain ⟨f, q1, q2, q3, q4, q5, q6, q7, q8⟩ := Q
  obtain ⟨g, r1, r2, r3, r4, r5, r6, r7, r8⟩ := R
  have fA : ∀ i j, i < 11 → j < n → nA p M1 i j = nA p M i j := fun i j _ _ => g.i (by unfold rE fF; omega)
  have fB : ∀ i j, i < 10 → tA p M1 i j = tA p M i j := fun i j _ => g.i (by unfold rE fF; omega)
  refine ⟨f.tr (g.mo (rE_mo q5)), r1, r2, r3, by omega, by omega, by omega, ?_, fun k k1 k2 k3 => ?_⟩
  · exact (q7.eq (fun i j i1 _ j2 => fA i j i1 j2) fun j _ => fB 0 j (by omega)).app r7 q5 r5 (Nat.le_refl _) (by omega)
  · by_cases e : k < t
    · rcases q8 k k1 e k3 with z | ⟨m, z1, z2, z3⟩
      · exact Or.inl z
      · exact Or.inr ⟨m, z1, by omega, by rw [fA 4 m (by omega) z2]; exact z3⟩
    · rcases r8 k (by omega) k2 k3 with z | ⟨m, z1, z2, z3⟩
      · exact Or.inl (hw k z)
      · exact Or.inr ⟨m, by omega, z2, z3⟩
theorem pe.keep (hp : 164 < p) (R : pe p s e0 h D dp M n t w' M1 t1 n1) {i j : Nat} (hi : i < 11) (hj : j < n) : nA p M1 i j = nA p M i j := R.1.i (by unfold rE fF; omega)
theorem pe.wk (Q : pe p s e0 h D dp M0 n0 t0 w M t n) (hw : ∀ k, w k → w' k) : pe p s e0 h D dp M0 n0 t0 w' M t n := ⟨Q.1, Q.2.1, Q.2.2.1, Q.2.2.2.1, Q.2.2.2.2.1, Q.2.2.2.2.2.1, Q.2.2.2.2.2.2.1, Q.2.2.2.2.2.2.2.1, fun k k1 k2 k3 => (Q.2.2.2.2.2.2.2.2 k k1 k2 k3).imp (hw k) id⟩
end PE
/-- the roots there are -/
def RL (A : Nat → Nat → Int) (n0 n : Nat) (L : List Nat) : Prop := (∀ k, n0 ≤ k → k < n → A 8 k = -1 → k ∈ L) ∧ ∀ k, k ∈ L → n0 ≤ k ∧ k < n ∧ A 8 k = -1 ∧ A 7 k = -1
section RLT
variable {p e0 D dp dp' n0 t0 t n t1 n1 : Nat} {s : Nat → Int} {h : Int} {M0 M M1 : me_M} {w w' : Nat → Prop} {A A' : Nat → Nat → Int} {L L' : List Nat}
theorem RL.nil : RL A n0 n0 [] := ⟨fun _ _ _ => by omega, fun k z => by cases z⟩
theorem RL.eq (R : RL A n0 n L) (e : ∀ i j, i < 11 → j < n → A' i j = A i j) : RL A' n0 n L := ⟨fun k k1 k2 k3 => R.1 k k1 k2 (by rw [← e 8 k (by omega) k2]; exact k3), fun k z => by
  obtain ⟨z1, z2, z3, z4⟩ := R.2 k z
  exact ⟨z1, z2, by rw [e 8 k (by omega) z2]; exact z3, by rw [e 7 k (by omega) z2]; exact z4⟩⟩
theorem RL.eq' (R : RL A n0 n L) (e : ∀ i j, i < 11 → n0 ≤ j → j < n → A' i j = A i j) : RL A' n0 n L := ⟨fun k k1 k2 k3 => R.1 k k1 k2 (by rw [← e 8 k (by omega) k1 k2]; exact k3), fun k z => by
  obtain ⟨z1, z2, z3, z4⟩ := R.2 k z
  exact ⟨z1, z2, by rw [e 8 k (by omega) z1 z2]; exact z3, by rw [e 7 k (by omega) z1 z2]; exact z4⟩⟩
theorem RL.seq (R : RL A n0 n L) (R' : RL A n n1 L') (h0 : n0 ≤ n) (h1 : n ≤ n1) : RL A n0 n1 (L ++ L') := ⟨fun k k1 k2 k3 => by
  by_cases c : k < n
  · exact List.mem_append_left _ (R.1 k k1 c k3)
  · exact List.mem_append_right _ (R'.1 k (by omega) k2 k3), fun k z => by
  rcases List.mem_append.mp z with z | z
  · have := R.2 k z
    exact ⟨this.1, by omega, this.2.2⟩
  · have := R'.2 k z
    exact ⟨by omega, this.2⟩⟩
theorem pT_A (p t : Nat) (M : me_M) (i j : Nat) : nA p (pT M p t) i j = nA p M i j := by
  have f1 : fr (fun b j => b = p ∧ j = 35) M (pT M p t) := fr_sI ⟨rfl, rfl⟩
  exact f1.i (by omega)
theorem dp_A (p : Nat) (M : me_M) (x : Int32) (i j : Nat) : nA p (me_sI M p 37 x) i j = nA p M i j := by
  have f1 : fr (fun b j => b = p ∧ j = 37) M (me_sI M p 37 x) := fr_sI ⟨rfl, rfl⟩
  exact f1.i (by omega)
end RLT
section PN
variable {N : Nat} {X : Nat → Int32} {d p e0 D n0 t0 t n dp : Nat} {s : Nat → Int} {h : Int} {M0 M : me_M} {w w' : Nat → Prop} {x1 x2 x3 x4 x5 : Int}
/-- a node whose parts are all roots there are -/
theorem pe_node (hd : 1 ≤ d) (hp : 164 < p) (Q : pe p s e0 h D dp M0 n0 t0 w M t n) (h8 : n < 4816) (ht : t < 2408) (t1 : t0 < t) (hn : n + t0 < n0 + t) (hm : me_i M p 38 = h) (r1 : me_r x1) (r2 : me_r x2) (r3 : me_r x3) (r4 : me_r x4) (r5 : me_r x5)
    (k1 : opk (nA p M) x1 x2 x3 x4) (k2 : nmk s t x1 x5) (k5 : x1 = 21 → x3 < D ∧ tA p M 0 x3.toNat = 4)
    (q1 : x2 = -1 ∨ (n0 : Int) ≤ x2 ∧ x2 < n ∧ nA p M 8 x2.toNat = -1) (q2 : ¬ x1 = 21 → x3 = -1 ∨ (n0 : Int) ≤ x3 ∧ x3 < n ∧ nA p M 8 x3.toNat = -1) (q3 : ¬ x1 = 15 → x4 = -1 ∨ (n0 : Int) ≤ x4 ∧ x4 < n ∧ nA p M 8 x4.toNat = -1)
    (q4 : ∀ k, n0 ≤ k → k < n → nA p M 8 k = -1 → (k : Int) = x2 ∨ ¬ x1 = 21 ∧ (k : Int) = x3 ∨ ¬ x1 = 15 ∧ (k : Int) = x4 ∨ ∃ j, n0 ≤ j ∧ j < k ∧ nA p M 8 j = -1 ∧ nA p M 7 j = k)
    (q5 : ∀ k, n0 ≤ k → k < n → nA p M 8 k = -1 → nA p M 7 k = -1 ∨ (x1 = 8 ∨ x1 = 12 ∨ x1 = 20) ∧ (x1 = 12 → ¬ x2 = k)) (hw : ∀ k, w k → w' k ∨ x5 = (k : Int)) :
    me_W (mt_G N X) 317 d 0 [some (.inr (.inl (some p, 29, 0))), some (.inl x1), some (.inl x2), some (.inl x3), some (.inl x4), some (.inl x5), some (.inl (t0 : Int)), none] [] M (sx_qI (fun y M' => y = (n : Int) ∧ pe p s e0 h D dp M0 n0 t0 w' M' t (n + 1) ∧ rt (nA p M') n0 (n + 1) t0 t ∧ nA p M' 0 n = x1 ∧ nA p M' 2 n = x3 ∧ fr (rE p n0) M M') nt_E) := by
  obtain ⟨f, e1, e2, e3, e4, e5, e6, e7, e8⟩ := Q
  have hx : ∀ j, (if j = n then -1 else nA p M 7 j) = (fun j => if j = n then -1 else nA p M 7 j) j := fun _ => rfl
  generalize (fun j => if j = n then -1 else nA p M 7 j) = nx at hx
  have hroot : ∀ j, (n0 ≤ j ∧ j < n ∧ nA p M 8 j = -1) → 0 ≤ nx j → (n0 ≤ (nx j).toNat ∧ (nx j).toNat < n ∧ nA p M 8 (nx j).toNat = -1) := fun j ⟨j1, j2, j3⟩ j4 => by
    rw [← hx j, if_neg (by omega)] at j4 ⊢
    obtain ⟨_, _, _, _, _, _, _, c8, _⟩ := e7 j j1 j2
    rcases c8 with z | z
    · omega
    · refine ⟨by omega, by omega, ?_⟩
      rw [z.2.2.1, j3]
  have hst : ∀ (x : Int) (j : Nat), (x = -1 ∨ (n0 : Int) ≤ x ∧ x < n ∧ nA p M 8 x.toNat = -1) → rc nx x j → (n0 ≤ j ∧ j < n ∧ nA p M 8 j = -1) := fun x j z ⟨m, hm⟩ => rc_ind hroot m x (fun x0 => by
    rcases z with z | z
    · omega
    · exact ⟨by omega, by omega, z.2.2⟩) j hm
  have yz : ¬ (x1 = 8 ∨ x1 = 9 ∨ x1 = 11 ∨ x1 = 21) → ¬ x1 = 21 := by omega
  have how : ∀ j, ow nx x1 x2 x3 x4 j → (n0 ≤ j ∧ j < n ∧ nA p M 8 j = -1) := fun j z => by
    rcases z with z | z | z
    · exact hst _ j q1 z
    · exact hst _ j (q2 (yz z.1)) z.2
    · exact hst _ j (q3 z.1) z.2
  have hyn : (x1 = 8 ∨ x1 = 9 ∨ x1 = 11) → x3 = -1 := fun z => by
    unfold opk at k1
    omega
  have hall : ∀ (b j : Nat), j < b → n0 ≤ j → j < n → nA p M 8 j = -1 → ow nx x1 x2 x3 x4 j := by
    intro b
    induction b with
    | zero => intro j z; omega
    | succ b ih =>
      intro j _ j1 j2 j3
      rcases q4 j j1 j2 j3 with z | z | z | ⟨i, z1, z2, z3, z4⟩
      · exact Or.inl (z ▸ rc_self)
      · exact Or.inr (Or.inl ⟨by omega, z.2 ▸ rc_self⟩)
      · exact Or.inr (Or.inr ⟨z.1, z.2 ▸ rc_self⟩)
      · have st : nx i = j := by rw [← hx i, if_neg (by omega), z4]
        rcases ih i (by omega) z1 (by omega) z3 with v | v | v
        · exact Or.inl (rc_step v st)
        · exact Or.inr (Or.inl ⟨v.1, rc_step v.2 st⟩)
        · exact Or.inr (Or.inr ⟨v.1, rc_step v.2 st⟩)
  refine nd_317 hd e3 h8 e1 r1 r2 r3 r4 r5 ⟨by omega, by omega⟩ ⟨by omega, by omega⟩ nx hx (fun j z => ?_) fun M' g => ?_
  · have hj := how j z
    refine ⟨hj.2.1, ?_⟩
    rw [← hx j, if_neg (by omega)]
    obtain ⟨_, _, _, _, _, _, _, c8, _⟩ := e7 j hj.1 hj.2.1
    omega
  obtain ⟨g1, g2, g3, g4, g5⟩ := g
  have fE : fr (rE p n0) M M' := ⟨g1.1, g1.2.1, g1.2.2.1, fun b j nb => by
    by_cases c : b = p + 22 ∧ j < n
    · obtain ⟨rfl, c⟩ := c
      have := g5 j (by omega) fun z => nb (Or.inr (Or.inr (Or.inl ⟨by omega, by omega, (how j z).1⟩)))
      exact Int32.toInt_inj.mp this
    · refine g1.2.2.2 b j fun z => nb ?_
      rcases z with z | z | z
      · exact Or.inr (Or.inl ⟨z.1, Or.inl z.2⟩)
      · exact Or.inr (Or.inr (Or.inl ⟨z.1, z.2.1, by omega⟩))
      · exact absurd z c⟩
  have eN : ∀ i j, i < 11 → ¬ i = 8 → j < n → nA p M' i j = nA p M i j := fun i j i1 i2 j1 => g1.i (by omega)
  have v : ∀ i, i < 11 → nA p M' i n = nv x1 x2 x3 x4 x5 t0 ((t : Int) - 1) (me_i M p 38) i := g3
  have v0 : nA p M' 0 n = x1 := v 0 (by omega)
  have v1 : nA p M' 1 n = x2 := v 1 (by omega)
  have v2 : nA p M' 2 n = x3 := v 2 (by omega)
  have v3 : nA p M' 3 n = x4 := v 3 (by omega)
  have v4 : nA p M' 4 n = x5 := v 4 (by omega)
  have v5 : nA p M' 5 n = t0 := v 5 (by omega)
  have v6 : nA p M' 6 n = (t : Int) - 1 := v 6 (by omega)
  have v7 : nA p M' 7 n = -1 := v 7 (by omega)
  have v8 : nA p M' 8 n = -1 := v 8 (by omega)
  have v10 : nA p M' 10 n = h := (v 10 (by omega)).trans hm
  have R1 : ∀ j, n0 ≤ j → j < n → nA p M 8 j = -1 → nA p M' 8 j = n := fun j j1 j2 j3 => g4 j (hall (j + 1) j (by omega) j1 j2 j3)
  have R2 : ∀ j, n0 ≤ j → j < n → ¬ nA p M 8 j = -1 → nA p M' 8 j = nA p M 8 j := fun j j1 j2 j3 => g5 j (by omega) fun z => j3 (how j z).2.2
  refine ⟨rfl, ⟨f.tr fE, by rw [g1.i (by omega), e1], by rw [g1.i (by omega), e2], g2, e4, by omega, by omega, ?_, fun k a1 a2 a3 => ?_⟩, ⟨by omega, fun m m1 m2 m3 => ?_, v8, v7, v5, v6⟩, v0, v2, fE⟩
  · have F := e7.node (A' := nA p M') (T' := t) e5 (Nat.le_refl _) (fun i j i1 i2 _ j2 => eN i j i1 i2 j2) R1 R2
    rw [v0, v1, v2, v3, v4, v5, v6, v7, v8, v10] at F
    exact (F k1 k2 ⟨by omega, by omega, by omega⟩ rfl k5 rfl rfl q1 q2 q3 q4 q5).eq (fun _ _ _ _ _ => rfl) fun j _ => g1.i (by omega)
  · rcases e8 k a1 a2 a3 with z | ⟨m, z1, z2, z3⟩
    · rcases hw k z with z | z
      · exact Or.inl z
      · exact Or.inr ⟨n, e5, by omega, by rw [v4, z]⟩
    · exact Or.inr ⟨m, z1, by omega, by rw [eN 4 m (by omega) (by omega) z2]; exact z3⟩
  · by_cases c : m = n
    · omega
    · by_cases c2 : nA p M 8 m = -1
      · rw [R1 m m1 (by omega) c2] at m3
        omega
      · rw [R2 m m1 (by omega) c2] at m3
        exact absurd m3 c2
/-- a node, from a list of the roots -/
theorem pe_nodeL {L : List Nat} (hd : 1 ≤ d) (hp : 164 < p) (Q : pe p s e0 h D dp M0 n0 t0 w M t n) (R : RL (nA p M) n0 n L) (h8 : n < 4816) (ht : t < 2408) (t1 : t0 < t) (hn : n + t0 < n0 + t) (hm : me_i M p 38 = h) (r1 : me_r x1) (r4 : me_r x4)
    (k1 : opk (nA p M) x1 x2 x3 x4) (k2 : nmk s t x1 x5) (r3 : me_r x3) (k5 : x1 = 21 → x3 < D ∧ tA p M 0 x3.toNat = 4)
    (q1 : x2 = -1 ∨ 0 ≤ x2 ∧ x2.toNat ∈ L) (q2 : ¬ x1 = 21 → x3 = -1 ∨ 0 ≤ x3 ∧ x3.toNat ∈ L) (q3 : ¬ x1 = 15 → x4 = -1 ∨ 0 ≤ x4 ∧ x4.toNat ∈ L)
    (q4 : ∀ k, k ∈ L → (k : Int) = x2 ∨ ¬ x1 = 21 ∧ (k : Int) = x3 ∨ ¬ x1 = 15 ∧ (k : Int) = x4) (hw : ∀ k, w k → w' k ∨ x5 = (k : Int)) :
    me_W (mt_G N X) 317 d 0 [some (.inr (.inl (some p, 29, 0))), some (.inl x1), some (.inl x2), some (.inl x3), some (.inl x4), some (.inl x5), some (.inl (t0 : Int)), none] [] M (sx_qI (fun y M' => y = (n : Int) ∧ pe p s e0 h D dp M0 n0 t0 w' M' t (n + 1) ∧ RL (nA p M') n0 (n + 1) [n] ∧ nA p M' 0 n = x1 ∧ nA p M' 2 n = x3 ∧ nA p M' 5 n = t0 ∧ nA p M' 6 n = (t : Int) - 1 ∧ fr (rE p n0) M M') nt_E) := by
  have cv : ∀ x : Int, (x = -1 ∨ 0 ≤ x ∧ x.toNat ∈ L) → x = -1 ∨ (n0 : Int) ≤ x ∧ x < n ∧ nA p M 8 x.toNat = -1 := fun x z => by
    rcases z with z | z
    · exact Or.inl z
    · obtain ⟨v1, v2, v3, _⟩ := R.2 _ z.2
      exact Or.inr ⟨by omega, by omega, v3⟩
  have rr : ∀ x : Int, (x = -1 ∨ (n0 : Int) ≤ x ∧ x < n ∧ nA p M 8 x.toNat = -1) → me_r x := fun x z => by
    rcases z with z | z
    · exact ⟨by omega, by omega⟩
    · exact ⟨by omega, by omega⟩
  have r5 : me_r x5 := by
    unfold nmk at k2
    by_cases c : x1 = 1 ∨ x1 = 7 ∨ x1 = 8 ∨ x1 = 9 ∨ x1 = 11 ∨ x1 = 12 ∨ x1 = 16
    · have : 0 ≤ x5 := by omega
      exact ⟨by omega, by omega⟩
    · have : x5 = -1 := by omega
      exact ⟨by omega, by omega⟩
  refine (pe_node (w' := w') hd hp Q h8 ht t1 hn hm r1 (rr _ (cv _ q1)) r3 r4 r5 k1 k2 k5 (cv _ q1) (fun z => cv _ (q2 z)) (fun z => cv _ (q3 z)) (fun k a1 a2 a3 => ?_) (fun k a1 a2 a3 => Or.inl (R.2 k (R.1 k a1 a2 a3)).2.2.2) hw).mono fun o M' _ g => ?_
  · rcases q4 k (R.1 k a1 a2 a3) with z | z | z
    · exact Or.inl z
    · exact Or.inr (Or.inl z)
    · exact Or.inr (Or.inr (Or.inl z))
  · rcases o with a | _ | x | ⟨q, u⟩ | j <;> first | exact g.elim | skip
    obtain ⟨g1, g2, g3, g4, g5, g6⟩ := g
    refine ⟨g1, g2, ⟨fun k a1 a2 a3 => ?_, fun k z => ?_⟩, g4, g5, g3.2.2.2.2.1, g3.2.2.2.2.2, g6⟩
    · have := g3.2.1 k a1 a2 a3
      rw [show k = n by omega]
      exact List.mem_singleton.mpr rfl
    · rw [List.mem_singleton.mp z]
      exact ⟨by have := g3.1; omega, by omega, g3.2.2.1, g3.2.2.2.1⟩
end PN
end
section
/-! the reference's parser: exps -/
section DEFS
variable (N : Nat) (X : Nat → Int32) (p : Nat) (s c : Nat → Int) (lim : Nat) (gd : Nat → Option Nat) (e0 : Nat) (h : Int)
/-- what reading a tree ends with -/
def EX (o1 o2 : Int) (D dp : Nat) (M0 : me_M) (n0 t0 : Nat) (go : Option Nat) : Int → me_M → Prop := fun r M => ∃ t n, go = some t ∧ t0 < t ∧ n0 < n ∧ r = (n : Int) - 1 ∧ pe p s e0 h D dp M0 n0 t0 (fun _ => False) M t n ∧ RL (nA p M) n0 n [n - 1] ∧ o1 ≤ nA p M 0 (n - 1) ∧ nA p M 0 (n - 1) ≤ o2 ∧ nA p M 5 (n - 1) = t0 ∧ nA p M 6 (n - 1) = (t : Int) - 1
/-- a chain of roots from r -/
def CH (o1 o2 : Int) (A : Nat → Nat → Int) (n0 n : Nat) (r : Int) : Prop := (r = -1 ∧ n = n0 ∨ (n0 : Int) ≤ r ∧ r < n ∧ A 8 r.toNat = -1) ∧ ∀ m, n0 ≤ m → m < n → A 8 m = -1 → o1 ≤ A 0 m ∧ A 0 m ≤ o2 ∧ ((m : Int) = r ∨ ∃ j, n0 ≤ j ∧ j < m ∧ A 8 j = -1 ∧ A 7 j = m)
def AR (D dp : Nat) (M0 : me_M) (n0 t0 : Nat) (go : Option Nat) : Int → me_M → Prop := fun r M => ∃ t n, go = some t ∧ t0 + 2 ≤ t ∧ n + t0 + 2 ≤ n0 + t ∧ pe p s e0 h D dp M0 n0 t0 (fun _ => False) M t n ∧ CH 1 16 (nA p M) n0 n r
def C0 (k : Nat) : Prop := ∀ (M : me_M) (l t n dp D d : Nat), pr p s c lim e0 h M t n dp D → 1 ≤ l → l ≤ 7 → 32 * (e0 + 1 - t) + (14 - l) ≤ k → 20 * (22 - dp) + (17 - l) ≤ d →
  me_W (mt_G N X) 315 d 0 [some (.inr (.inl (some p, 29, 0))), some (.inl (l : Int)), none, none, none, none] [] M (sx_qI (EX p s e0 h 1 16 D dp M n t (g s c lim gd k 0 l t dp)) (px (g s c lim gd k 0 l t dp = none) (rE p n) M))
def C1 (k : Nat) : Prop := ∀ (M0 M : me_M) (l t0 n0 t n dp D d : Nat) (e : Int), pr p s c lim e0 h M0 t0 n0 dp D → EX p s e0 h 1 16 D dp M0 n0 t0 (some t) e M → e = (n : Int) - 1 → 1 ≤ l → l ≤ 6 → dp ≤ 20 → 32 * (e0 + 1 - t) ≤ k → 20 * (22 - dp) + (17 - l) ≤ d →
  me_W (mt_G N X) 315 d 24 [some (.inr (.inl (some p, 29, 0))), some (.inl (l : Int)), some (.inl (t0 : Int)), some (.inl e), none, none] [] M (sx_qI (EX p s e0 h 1 16 D dp M0 n0 t0 (g s c lim gd k 1 l t dp)) (px (g s c lim gd k 1 l t dp = none) (rE p n0) M0))
def C2 (k : Nat) : Prop := ∀ (M : me_M) (t n dp D d : Nat), pr p s c lim e0 h M t n dp D → 32 * (e0 + 1 - t) + 6 ≤ k → 20 * (22 - dp) + 9 ≤ d →
  me_W (mt_G N X) 316 d 0 [some (.inr (.inl (some p, 29, 0))), none, none, none, none] [] M (sx_qI (EX p s e0 h 1 16 D dp M n t (g s c lim gd k 2 0 t dp)) (px (g s c lim gd k 2 0 t dp = none) (rE p n) M))
def C3 (k : Nat) : Prop := ∀ (M : me_M) (t n dp D d : Nat), pr p s c lim e0 h M t n dp D → 32 * (e0 + 1 - t) + 3 ≤ k → 20 * (22 - dp) + 8 ≤ d →
  me_W (mt_G N X) 319 d 0 [some (.inr (.inl (some p, 29, 0))), none, none, none, none, none] [] M (sx_qI (EX p s e0 h 1 16 D dp M n t (g s c lim gd k 3 0 t dp)) (px (g s c lim gd k 3 0 t dp = none) (rE p n) M))
def C4 (k : Nat) : Prop := ∀ (M0 M : me_M) (t0 n0 t n dp D d : Nat) (e : Int), pr p s c lim e0 h M0 t0 n0 dp D → EX p s e0 h 1 16 D dp M0 n0 t0 (some t) e M → e = (n : Int) - 1 → dp ≤ 20 → 32 * (e0 + 1 - t) ≤ k → 20 * (22 - dp) + 9 ≤ d →
  me_W (mt_G N X) 316 d 80 [some (.inr (.inl (some p, 29, 0))), some (.inl (t0 : Int)), some (.inl e), none, none] [] M (sx_qI (EX p s e0 h 1 16 D dp M0 n0 t0 (g s c lim gd k 4 0 t dp)) (px (g s c lim gd k 4 0 t dp = none) (rE p n0) M0))
def C5 (k : Nat) : Prop := ∀ (M : me_M) (t n dp D d : Nat), pr p s c lim e0 h M t n dp D → dp ≤ 20 → 32 * (e0 + 1 - t) ≤ k → 20 * (22 - dp) + 7 ≤ d →
  me_W (mt_G N X) 320 d 0 [some (.inr (.inl (some p, 29, 0))), none, none, none] [] M (sx_qI (AR p s e0 h D dp M n t (g s c lim gd k 5 0 t dp)) (px (g s c lim gd k 5 0 t dp = none) (rE p n) M))
/-- dp: how deep outside the arguments -/
def C6 (k : Nat) : Prop := ∀ (M0 M : me_M) (t0 n0 t n dp D d : Nat) (bg la : Int), pr p s c lim e0 h M0 t0 n0 dp D → dp ≤ 20 → t0 + 1 ≤ t → n + t0 + 1 ≤ n0 + t → pe p s e0 h D (dp + 1) M0 n0 t0 (fun _ => False) M t n → CH 1 16 (nA p M) n0 n bg → (la = -1 ∧ n = n0 ∨ (n0 : Int) ≤ la ∧ la < n ∧ nA p M 8 la.toNat = -1 ∧ nA p M 7 la.toNat = -1) → (20 < dp + 1 → s t = 4 ∧ (c t = 125 ∨ c t = 41)) → 32 * (e0 + 1 - t) + 14 ≤ k → 20 * (22 - dp) + 7 ≤ d →
  me_W (mt_G N X) 320 d 25 [some (.inr (.inl (some p, 29, 0))), some (.inl bg), some (.inl la), none] [] M (sx_qI (AR p s e0 h D dp M0 n0 t0 (g s c lim gd k 6 0 t (dp + 1))) (px (g s c lim gd k 6 0 t (dp + 1) = none) (rE p n0) M0))
/-- what is wanted of dollar -/
def CD : Prop := ∀ (M : me_M) (t n dp D d : Nat), pr p s c lim e0 h M t n dp D → s t = 5 → t < lim → 20 ≤ d →
  me_W (mt_G N X) 321 d 0 [some (.inr (.inl (some p, 29, 0))), some (.inl (t : Int)), none, none, none] [] (pT M p t) (sx_qI (EX p s e0 h 1 16 D dp M n t (gd t)) (px (gd t = none) (rE p n) M))
end DEFS
section EXPS
variable {N : Nat} {X : Nat → Int32} {p : Nat} {s c : Nat → Int} {lim : Nat} {gd : Nat → Option Nat} {e0 : Nat} {h : Int} {k : Nat}
theorem g_lv_r (x : Int) : 0 ≤ g_lv x ∧ g_lv x ≤ 6 := by
  unfold g_lv
  (repeat' split) <;> omega
/-- no NAME waits: the list of names does not matter -/
theorem w0 {w : Nat → Prop} : ∀ k : Nat, (fun _ => False) k → w k := fun _ z => z.elim
theorem e1 (hp : 164 < p) (he : e0 ≤ 2405) (hl : lim < 2408) (z0 : s e0 = 0) (H0 : C0 N X p s c lim gd e0 h k) (H1 : C1 N X p s c lim gd e0 h k) : C1 N X p s c lim gd e0 h (k + 1) := by
  intro M0 M l t0 n0 t n dp D d e P S he1 l1 l6 hdp hk hd
  obtain ⟨t', n', S1, S2, S3, S4, S5, S6, S7, S8, S9, S10⟩ := S
  cases S1
  have en : n' = n := by omega
  subst en
  have PM := S5.pr hp P (by omega) (by omega)
  have ht := PM.2.1
  have hte := S5.2.2.2.2.1
  have hnn := S5.2.2.2.2.2.2.1
  have hn0 : n0 ≤ t0 := P.2.2.2.2.2.2.1
  rw [g]
  refine b315_24 (ca_I (by omega) (c_293 (by omega) PM.1 ht (by omega)) (fun y M1 _ q => ?_) (fun _ _ _ q => q.mo (fun z => by rw [if_pos z]) rE_F S5.1))
  obtain ⟨rfl, rfl, q⟩ := q
  rw [if_neg q]
  have fin : ¬ (s t = 4 ∧ g_lv (c t) = l) → EX p s e0 h 1 16 D dp M0 n0 t0 (if s t = 4 ∧ g_lv (c t) = l then (if t < lim then (g s c lim gd k 0 (l + 1) (t + 1) dp).bind fun t1 => g s c lim gd k 1 l t1 dp else none) else some t) e M1 := fun z => ⟨t, n', by rw [if_neg z], S2, S3, S4, S5, S6, S7, S8, S9, S10⟩
  refine ⟨PM.1.rs t, ⟨by omega, by omega⟩, fun z => fin fun w => z w.1, fun z => ?_⟩
  rw [ht, Int.toNat_natCast]
  refine ⟨by omega, by omega, ?_⟩
  rw [show me_i M1 (p + 9) t = c t from PM.1.2.1 t]
  refine ca_I (by omega) (c_328 (PM.1.rc t)) (fun y M2 _ q => ?_) nt_E_no
  obtain ⟨rfl, rfl⟩ := q
  have lr := g_lv_r (c t)
  refine ⟨⟨by omega, by omega⟩, ⟨by omega, by omega⟩, fun w => fin fun v => w v.2, fun w => ?_⟩
  rw [if_pos ⟨z, w⟩]
  refine ca_I (by omega) (c_299 (by omega) PM.1 ht (by omega) hl) (fun y M1 _ q => ?_) (fun _ _ _ q => q.mo (fun z => by rw [if_neg (by omega)]) rE_F S5.1)
  obtain ⟨rfl, rfl, q2⟩ := q
  have te : t < e0 := by
    have : ¬ t = e0 := fun v => by
      rw [v, z0] at z
      omega
    omega
  rw [if_pos q2]
  have T5 := S5.pass hp (by omega) te (fun v => by omega)
  have PT := T5.pr hp P (by omega) (by omega)
  refine ⟨by omega, by omega, ?_⟩
  have H := H0 (pT M2 p t) (l + 1) (t + 1) n' dp D (d - 1) PT (by omega) (by omega) (by omega) (by omega)
  refine ca_I (by omega) H (fun y M3 _ q => ?_) (fun _ _ _ q => q.mo (fun z => by rw [z]; rfl) (rE_mo (by omega)) T5.1)
  obtain ⟨t2, n2, g2, t12, n12, rfl, R, R6, o1, o2, o5, o6⟩ := q
  rw [g2]
  have U := T5.seq hp R w0
  have kA : ∀ i j, i < 11 → j < n' → nA p M3 i j = nA p M2 i j := fun i j i1 j1 => (R.keep hp i1 j1).trans (pT_A p t M2 i j)
  have UL := (S6.eq kA).seq R6 (by omega) (by omega)
  have hte2 := R.2.2.2.2.1
  have hnn2 := R.2.2.2.2.2.2.1
  have PU := U.pr hp P (by omega) (by omega)
  rw [Int.toNat_natCast, show me_i (pT M2 p t) (p + 9) t = c t from PT.1.2.1 t]
  have ka0 := kA 0 (n' - 1) (by omega) (by omega)
  have i1 : (e).toNat = n' - 1 := by omega
  have i2 : ((n2 : Int) - 1).toNat = n2 - 1 := by omega
  refine ca_I (by omega) (pe_nodeL (w' := fun _ => False) (by omega) hp U UL (by omega) (by omega) (by omega) (by omega) PU.2.2.2.2.2.2.2.1 ⟨by omega, by omega⟩ (PM.1.rc t) ?_ ?_ ⟨by omega, by omega⟩ (fun v => by omega) ?_ (fun _ => ?_) (fun v => by omega) (fun m mv => ?_) w0) (fun y M4 _ q => ?_) nt_E_no
  · unfold opk ex
    rw [i1, i2]
    exact Or.inr (Or.inr (Or.inr (Or.inr (Or.inl ⟨rfl, ⟨by omega, by omega, by omega⟩, ⟨by omega, by omega, by omega⟩, by omega⟩))))
  · exact ⟨by omega, by omega, by omega, by omega, fun _ => rfl⟩
  · exact Or.inr ⟨by omega, by rw [i1]; exact List.mem_cons_self⟩
  · exact Or.inr ⟨by omega, by rw [i2]; exact List.mem_cons_of_mem _ List.mem_cons_self⟩
  · rcases List.mem_cons.mp mv with v | v
    · exact Or.inl (by omega)
    · rw [List.mem_singleton.mp v]
      exact Or.inr (Or.inl ⟨by omega, by omega⟩)
  obtain ⟨rfl, V, VL, v0, v2, v5, v6, _⟩ := q
  exact H1 M0 M4 l t0 n0 t2 (n2 + 1) dp D d n2 P ⟨t2, n2 + 1, rfl, by omega, by omega, by omega, V, VL, by show 1 ≤ nA p M4 0 n2; omega, by show nA p M4 0 n2 ≤ 16; omega, v5, v6⟩ (by omega) l1 l6 hdp (by omega) hd
theorem e0c (hp : 164 < p) (he : e0 ≤ 2405) (H0 : C0 N X p s c lim gd e0 h k) (H1 : C1 N X p s c lim gd e0 h k) (H2 : C2 N X p s c lim gd e0 h k) : C0 N X p s c lim gd e0 h (k + 1) := by
  intro M l t n dp D d P l1 l7 hk hd
  have ht := P.2.2.1
  rw [g]
  refine b315_0 ⟨⟨by omega, by omega⟩, ⟨by omega, by omega⟩, fun z => ?_, fun z => ?_⟩
  · rw [if_neg (by omega)]
    refine ca_I (by omega) (H0 M (l + 1) t n dp D (d - 1) P (by omega) (by omega) (by omega) (by omega)) (fun y M1 _ q => ?_) (fun _ _ _ q => q.mo (fun z => by rw [z]; rfl) (fun _ _ z => z) fr.rf)
    obtain ⟨t1, n1, g1, q⟩ := id q
    rw [g1]
    rw [P.2.1]
    have hdp : dp ≤ 20 := by
      by_cases v : 20 < dp
      · have := (g_sg (lim := lim) (dp := dp) (gd := gd) (P.2.2.2.2.2.2.2.2.2 v) k (l + 1)).1
        rw [g1] at this
        cases this
      · omega
    refine H1 M M1 l t n t1 n1 dp D d y P ⟨t1, n1, rfl, q⟩ q.2.2.1 l1 (by omega) hdp ?_ hd
    have := q.1
    omega
  · rw [if_pos (by omega)]
    exact ca_I (by omega) (H2 M t n dp D (d - 1) P (by omega) (by omega)) (fun y M1 _ q => q) (fun _ _ _ q => q)
end EXPS
end
section
/-! the reference's parser: exps, further -/
theorem rE_W {p n0 : Nat} : ∀ b j, (fF b j ∨ b = p ∧ j = 37) → rE p n0 b j := fun b j z => by
  rcases z with z | z
  · exact Or.inl z
  · exact Or.inr (Or.inl ⟨z.1, by omega⟩)
section EXPS2
variable {N : Nat} {X : Nat → Int32} {p : Nat} {s c : Nat → Int} {lim : Nat} {gd : Nat → Option Nat} {e0 : Nat} {h : Int} {k : Nat}
theorem mkEX {o1 o2 x1 : Int} {D dp n0 t0 t n : Nat} {M0 M' : me_M} (V : pe p s e0 h D dp M0 n0 t0 (fun _ => False) M' t (n + 1)) (VL : RL (nA p M') n0 (n + 1) [n]) (v0 : nA p M' 0 n = x1) (a1 : o1 ≤ x1) (a2 : x1 ≤ o2) (v5 : nA p M' 5 n = t0) (v6 : nA p M' 6 n = (t : Int) - 1) (t1 : t0 < t) (nn : n0 ≤ n) : EX p s e0 h o1 o2 D dp M0 n0 t0 (some t) (n : Int) M' := ⟨t, n + 1, rfl, t1, by omega, by omega, V, VL, by show o1 ≤ nA p M' 0 n; omega, by show nA p M' 0 n ≤ o2; omega, v5, v6⟩
/-- a node with one exp -/
theorem pe_one {o e x5 : Int} {d D dp dp' n0 t0 t n : Nat} {M0 M : me_M} {w : Nat → Prop} (hd : 1 ≤ d) (hp : 164 < p) (he : e0 ≤ 2405) (P : pr p s c lim e0 h M0 t0 n0 dp' D) (Q : pe p s e0 h D dp M0 n0 t0 w M t n) (R : RL (nA p M) n0 n [n - 1]) (n12 : n0 < n) (o1 : 1 ≤ nA p M 0 (n - 1)) (o2 : nA p M 0 (n - 1) ≤ 16) (ee : e = (n : Int) - 1) (hn : n + t0 < n0 + t) (ho : o = 10 ∨ o = 11 ∨ o = 13 ∨ o = 14) (k2 : nmk s t o x5) (hw : ∀ k, w k → x5 = (k : Int)) :
    me_W (mt_G N X) 317 d 0 [some (.inr (.inl (some p, 29, 0))), some (.inl o), some (.inl e), some (.inl (-1)), some (.inl (-1)), some (.inl x5), some (.inl (t0 : Int)), none] [] M (sx_qI (fun y M' => EX p s e0 h 1 16 D dp M0 n0 t0 (some t) y M' ∧ y = (n : Int)) nt_E) := by
  have b1 := Q.2.2.2.2.1
  have b2 := P.2.2.2.2.2.2.1
  have hm : me_i M p 38 = h := by
    rw [Q.1.i (by unfold rE fF; omega)]
    exact P.2.2.2.2.2.2.2.1
  have i1 : e.toNat = n - 1 := by omega
  refine (pe_nodeL (w' := fun _ => False) hd hp Q R (by omega) (by omega) (by omega) hn hm ⟨by omega, by omega⟩ ⟨by omega, by omega⟩ ?_ k2 ⟨by omega, by omega⟩ (fun v => by omega) (Or.inr ⟨by omega, by rw [i1]; exact List.mem_cons_self⟩) (fun _ => Or.inl rfl) (fun _ => Or.inl rfl) (fun m mv => Or.inl (by rw [List.mem_singleton.mp mv]; omega)) (fun m mv => Or.inr (hw m mv))).mono fun o M' _ g => ?_
  · unfold opk ex
    rw [i1]
    exact Or.inr (Or.inr (Or.inl ⟨by omega, ⟨by omega, by omega, by omega⟩, rfl, rfl⟩))
  · rcases o with a | _ | x | ⟨q, u⟩ | j <;> first | exact g.elim | skip
    obtain ⟨rfl, V, VL, v0, v2, v5, v6, _⟩ := g
    exact ⟨mkEX V VL v0 (by omega) (by omega) v5 v6 (by omega) (by omega), rfl⟩
/-- a node without parts -/
theorem pe_leaf {o x5 : Int} {d D dp dp' n0 t0 t : Nat} {M0 M : me_M} {w : Nat → Prop} (hd : 1 ≤ d) (hp : 164 < p) (he : e0 ≤ 2405) (P : pr p s c lim e0 h M0 t0 n0 dp' D) (Q : pe p s e0 h D dp M0 n0 t0 w M t n0) (t1 : t0 < t) (ho : 1 ≤ o ∧ o ≤ 7 ∨ o = 9 ∨ o = 16) (k2 : nmk s t o x5) (hw : ∀ k, w k → x5 = (k : Int)) :
    me_W (mt_G N X) 317 d 0 [some (.inr (.inl (some p, 29, 0))), some (.inl o), some (.inl (-1)), some (.inl (-1)), some (.inl (-1)), some (.inl x5), some (.inl (t0 : Int)), none] [] M (sx_qI (fun y M' => EX p s e0 h 1 16 D dp M0 n0 t0 (some t) y M') nt_E) := by
  have b1 := Q.2.2.2.2.1
  have b2 := P.2.2.2.2.2.2.1
  have hm : me_i M p 38 = h := by
    rw [Q.1.i (by unfold rE fF; omega)]
    exact P.2.2.2.2.2.2.2.1
  refine (pe_nodeL (w' := fun _ => False) (L := []) hd hp Q RL.nil (by omega) (by omega) t1 (by omega) hm ⟨by omega, by omega⟩ ⟨by omega, by omega⟩ (Or.inl ⟨ho, rfl, rfl, rfl⟩) k2 ⟨by omega, by omega⟩ (fun v => by omega) (Or.inl rfl) (fun _ => Or.inl rfl) (fun _ => Or.inl rfl) (fun m mv => by cases mv) (fun m mv => Or.inr (hw m mv))).mono fun o M' _ g => ?_
  rcases o with a | _ | x | ⟨q, u⟩ | j <;> first | exact g.elim | skip
  obtain ⟨rfl, V, VL, v0, v2, v5, v6, _⟩ := g
  exact mkEX V VL v0 (by omega) (by omega) v5 v6 (by omega) (by omega)
theorem e2u {Q : me_Q} {M5 : me_M} {t n dp D d : Nat} {y8 : Int} (hp : 164 < p) (he : e0 ≤ 2405) (hl : lim < 2408) (z0 : s e0 = 0) (H2 : C2 N X p s c lim gd e0 h k) (P : pr p s c lim e0 h M5 t n dp D) (hy : y8 = 0 ∨ y8 = 1) (hs : s t = 4) (hc : c t = 45 ∨ c t = 33) (hk : 32 * (e0 + 1 - t) + 6 ≤ k + 1) (hd : 20 * (22 - dp) + 9 ≤ d)
    (HR : ∀ t2 y M', t < lim → g_in s c dp (t + 1) → g s c lim gd k 2 0 (t + 1) (dp + 1) = some t2 → EX p s e0 h 1 16 D dp M5 n t (some t2) y M' → Q (.inr (some (.inl y))) M')
    (HE : ∀ a M', px (¬ (t < lim ∧ g_in s c dp (t + 1)) ∨ g s c lim gd k 2 0 (t + 1) (dp + 1) = none) (rE p n) M5 a M' → Q (.inl a) M') :
    ∃ d', d = d' + 1 ∧ me_W (mt_G N X) 299 d' 0 [some (.inr (.inl (some p, 29, 0)))] [] M5 (sx_qI (fun y12 M9 => ∃ d', d = d' + 1 ∧ me_W (mt_G N X) 311 d' 0 [some (.inr (.inl (some p, 29, 0)))] [] M9 (sx_qV (fun M13 => ∃ d', d = d' + 1 ∧ me_W (mt_G N X) 316 d' 0 [some (.inr (.inl (some p, 29, 0))), none, none, none, none] [] M13 (sx_qI (fun y19 M16 => let M20 : me_M := me_sI M16 p 37 (Int32.ofInt ((me_i M16 p 37) - 1)); me_r y8 ∧ (y8 = 0 → ∃ d', d = d' + 1 ∧ me_W (mt_G N X) 317 d' 0 [some (.inr (.inl (some p, 29, 0))), some (.inl 14), some (.inl y19), some (.inl (-1)), some (.inl (-1)), some (.inl (-1)), some (.inl ((t : Int))), none] [] M20 (sx_qI (fun y24 M21 => Q (.inr (some (.inl y24))) M21) (fun e23 M22 => Q (.inl e23) M22))) ∧ (¬ y8 = 0 → ∃ d', d = d' + 1 ∧ me_W (mt_G N X) 317 d' 0 [some (.inr (.inl (some p, 29, 0))), some (.inl 13), some (.inl y19), some (.inl (-1)), some (.inl (-1)), some (.inl (-1)), some (.inl ((t : Int))), none] [] M20 (sx_qI (fun y28 M25 => Q (.inr (some (.inl y28))) M25) (fun e27 M26 => Q (.inl e27) M26)))) (fun e18 M17 => Q (.inl e18) M17))) (fun e15 M14 => Q (.inl e15) M14))) (fun e11 M10 => Q (.inl e11) M10)) := by
  have ht := P.2.1
  have he1 := P.2.2.1
  have hz := P.2.2.2.2.2.2.2.2.2
  have hn0 := P.2.2.2.2.2.2.1
  have dp20 : dp ≤ 20 := by omega
  have te : t < e0 := by
    have : ¬ t = e0 := fun v => by
      rw [v, z0] at hs
      omega
    omega
  refine ca_I (by omega) (c_299 (by omega) P.1 ht (by omega) hl) (fun y M1 _ q => ?_) (fun a M' _ q => HE a M' (q.mo (fun z => Or.inl (by omega)) rE_F fr.rf))
  obtain ⟨rfl, rfl, q2⟩ := q
  have T := (P.st (w := fun _ => False)).pass hp (by omega) te (fun v => by omega)
  have PT := T.pr hp P (by omega) (by omega)
  refine ca_V (by omega) (c_311 (by omega) PT.1 hp PT.2.1 (by omega) PT.2.2.2.1 (by omega)) (fun M2 _ q => ?_) (fun a M' _ q => HE a M' (q.mo (fun z => Or.inl fun v => z v.2) rE_W T.1))
  obtain ⟨rfl, gi⟩ := q
  have W := T.deep (dp' := dp + 1) hp (by omega)
  rw [show ((dp : Int) + 1) = ((dp + 1 : Nat) : Int) by omega]
  have PW := W.pr hp P (by omega) (fun v => by unfold g_in at gi; omega)
  refine ca_I (by omega) (H2 _ (t + 1) n (dp + 1) D _ PW (by omega) (by omega)) (fun y M3 _ q => ?_) (fun a M' _ q => HE a M' (q.mo Or.inr (fun _ _ z => z) W.1))
  obtain ⟨t2, n2, g2, t12, n12, rfl, R, R6, o1, o2, o5, o6⟩ := q
  have U := (W.seq hp R w0).deep (dp' := dp) hp (by omega)
  have b1 := R.2.2.2.2.2.2.1
  intro M20
  have e20 : M20 = me_sI M3 p 37 (Int32.ofInt (dp : Int)) := by
    show me_sI _ _ _ _ = _
    rw [R.2.2.1, show ((dp + 1 : Nat) : Int) - 1 = (dp : Int) by omega]
  rw [e20]
  clear e20
  clear M20
  have UL := R6.eq (A' := nA p (me_sI M3 p 37 (Int32.ofInt (dp : Int)))) (fun i j _ _ => dp_A p M3 _ i j)
  have nm : ∀ o : Int, (o = 13 ∨ o = 14) → nmk s t2 o (-1) := fun o ho => ⟨by omega, by omega, by omega, by omega, fun _ => rfl⟩
  have node := fun (o : Int) (ho : o = 13 ∨ o = 14) => ca_I (d := d) (K := fun y M => Q (.inr (some (.inl y))) M) (E := fun e M => Q (.inl e) M) (by omega) (pe_one (N := N) (X := X) (d := d - 1) (o := o) (x5 := -1) (by omega) hp he P U UL (by omega) (by rw [dp_A]; exact o1) (by rw [dp_A]; exact o2) rfl (by omega) (by omega) (nm o ho) (fun _ z => z.elim)) (fun y M4 _ q => HR t2 y M4 q2 gi g2 q.1) nt_E_no
  exact ⟨by rcases hy with rfl | rfl <;> exact ⟨by omega, by omega⟩, fun _ => node 14 (by omega), fun _ => node 13 (by omega)⟩
theorem e2 (hp : 164 < p) (he : e0 ≤ 2405) (hl : lim < 2408) (z0 : s e0 = 0) (H2 : C2 N X p s c lim gd e0 h k) (H3 : C3 N X p s c lim gd e0 h k) (H4 : C4 N X p s c lim gd e0 h k) : C2 N X p s c lim gd e0 h (k + 1) := by
  intro M t n dp D d P hk hd
  have ht := P.2.1
  have he1 := P.2.2.1
  rw [g]
  refine b316_0 (ca_I (by omega) (c_307 (by omega) P.1 ht (by omega) ⟨by omega, by omega⟩) (fun y M1 _ q => ?_) (fun _ _ _ q => q.mo (fun z => by rw [if_pos z]) rE_F fr.rf))
  obtain ⟨rfl, q0, q⟩ := q
  rw [if_neg q0, ht]
  have tail := fun (y8 : Int) (hy : y8 = 0 ∨ y8 = 1) (hs : s t = 4) (hc : c t = 45 ∨ c t = 33) => e2u (Q := sx_qI (EX p s e0 h 1 16 D dp M1 n t (if s t = 4 ∧ (c t = 45 ∨ c t = 33) then (if t < lim ∧ g_in s c dp (t + 1) then g s c lim gd k 2 0 (t + 1) (dp + 1) else none) else (g s c lim gd k 3 0 t dp).bind fun t1 => g s c lim gd k 4 0 t1 dp)) (px ((if s t = 4 ∧ (c t = 45 ∨ c t = 33) then (if t < lim ∧ g_in s c dp (t + 1) then g s c lim gd k 2 0 (t + 1) (dp + 1) else none) else (g s c lim gd k 3 0 t dp).bind fun t1 => g s c lim gd k 4 0 t1 dp) = none) (rE p n) M1)) hp he hl z0 H2 P hy hs hc hk hd (fun t2 y M' a1 a2 a3 q => by rw [if_pos ⟨hs, hc⟩, if_pos ⟨a1, a2⟩, a3]; exact q) (fun a M' q => q.mo (fun z => by
    rw [if_pos ⟨hs, hc⟩]
    split
    · rename_i v
      rcases z with z | z
      · exact absurd v z
      · exact z
    · rfl) (fun _ _ z => z) fr.rf)
  refine ⟨⟨by omega, by omega⟩, fun z => ?_, fun z => ?_⟩
  · have q1 : s t = 4 ∧ c t = 45 := by omega
    refine ca_I (by omega) (c_307 (by omega) P.1 ht (by omega) ⟨by omega, by omega⟩) (fun y M2 _ q => ?_) (fun _ _ _ q => absurd q.2.1 q0)
    obtain ⟨rfl, _, q'⟩ := q
    exact tail y (by omega) q1.1 (Or.inl q1.2)
  refine ca_I (by omega) (c_307 (by omega) P.1 ht (by omega) ⟨by omega, by omega⟩) (fun y M2 _ q' => ?_) (fun _ _ _ q => absurd q.2.1 q0)
  obtain ⟨rfl, _, q'⟩ := q'
  refine ⟨⟨by omega, by omega⟩, fun w => ?_, fun w => ?_⟩
  · rw [if_neg (by omega)]
    refine ca_I (by omega) (H3 M2 t n dp D (d - 1) P (by omega) (by omega)) (fun y M3 _ q => ?_) (fun _ _ _ q => q.mo (fun z => by rw [z]; rfl) (fun _ _ z => z) fr.rf)
    obtain ⟨t1, n1, g1, q⟩ := id q
    rw [g1]
    have hdp : dp ≤ 20 := by
      by_cases v : 20 < dp
      · have := (g_sg (lim := lim) (dp := dp) (gd := gd) (P.2.2.2.2.2.2.2.2.2 v) k 0).2.2.1
        rw [g1] at this
        cases this
      · omega
    have q1 := q.1
    exact H4 M2 M3 t n t1 n1 dp D d y P ⟨t1, n1, rfl, q⟩ q.2.2.1 hdp (by omega) hd
  · refine ca_I (by omega) (c_307 (by omega) P.1 ht (by omega) ⟨by omega, by omega⟩) (fun y M2 _ q3 => ?_) (fun _ _ _ q => absurd q.2.1 q0)
    obtain ⟨rfl, _, q3⟩ := q3
    exact tail y (by omega) (by omega) (by omega)
end EXPS2
end
section
/-! the reference's parser: arguments, operands -/
section EXPS3
variable {N : Nat} {X : Nat → Int32} {p : Nat} {s c : Nat → Int} {lim : Nat} {gd : Nat → Option Nat} {e0 : Nat} {h : Int} {k : Nat}
theorem te_of {t : Nat} (z0 : s e0 = 0) (h1 : t ≤ e0) (h2 : ¬ s t = 0) : t < e0 := by
  have : ¬ t = e0 := fun v => h2 (by rw [v, z0])
  omega
theorem c_314 {D d t n dp : Nat} {M : me_M} (H0 : C0 N X p s c lim gd e0 h k) (P : pr p s c lim e0 h M t n dp D) (hk : 32 * (e0 + 1 - t) + 13 ≤ k) (hd : 20 * (22 - dp) + 17 ≤ d) :
    me_W (mt_G N X) 314 d 0 [some (.inr (.inl (some p, 29, 0)))] [] M (sx_qI (EX p s e0 h 1 16 D dp M n t (g s c lim gd k 0 1 t dp)) (px (g s c lim gd k 0 1 t dp = none) (rE p n) M)) :=
  b314_0 (ca_I (by omega) (H0 M 1 t n dp D (d - 1) P (by omega) (by omega) (by omega) (by omega)) (fun _ _ _ q => q) (fun _ _ _ q => q))
/-- a node with a chain of arguments: 8 or 12 -/
theorem pe_args {x1 x2 x3 x5 : Int} {d D dp dp' n0 t0 n n1 t : Nat} {M0 M : me_M} {w : Nat → Prop} (hd : 1 ≤ d) (hp : 164 < p) (he : e0 ≤ 2405) (P : pr p s c lim e0 h M0 t0 n0 dp' D) (Q : pe p s e0 h D dp M0 n0 t0 w M t n1) (hn : n1 + t0 < n0 + t) (t1 : t0 < t) (nn : n0 ≤ n) (nn1 : n ≤ n1) (r : Int) (hC : CH 1 16 (nA p M) n n1 r)
    (ho : x1 = 8 ∧ x2 = r ∧ x3 = -1 ∧ n = n0 ∨ x1 = 12 ∧ x3 = r ∧ n0 < n ∧ x2 = (n : Int) - 1 ∧ RL (nA p M) n0 n [n - 1] ∧ 1 ≤ nA p M 0 (n - 1) ∧ nA p M 0 (n - 1) ≤ 16) (k2 : nmk s t x1 x5) (hw : ∀ k, w k → x5 = (k : Int)) :
    me_W (mt_G N X) 317 d 0 [some (.inr (.inl (some p, 29, 0))), some (.inl x1), some (.inl x2), some (.inl x3), some (.inl (-1)), some (.inl x5), some (.inl (t0 : Int)), none] [] M (sx_qI (fun y M' => EX p s e0 h 1 16 D dp M0 n0 t0 (some t) y M' ∧ y = (n1 : Int)) nt_E) := by
  have b1 := Q.2.2.2.2.1
  have b2 := P.2.2.2.2.2.2.1
  have hm : me_i M p 38 = h := by
    rw [Q.1.i (by unfold rE fF; omega)]
    exact P.2.2.2.2.2.2.2.1
  obtain ⟨hC1, hC2⟩ := hC
  have hr : r = -1 ∧ n1 = n ∨ (n : Int) ≤ r ∧ r < n1 ∧ nA p M 8 r.toNat = -1 ∧ ex (nA p M) r := by
    rcases hC1 with z | ⟨z1, z2, z3⟩
    · exact Or.inl z
    · have := hC2 r.toNat (by omega) (by omega) z3
      exact Or.inr ⟨z1, z2, z3, by omega, by omega, by omega⟩
  have hop : opk (nA p M) x1 x2 x3 (-1) := by
    rcases ho with ⟨rfl, rfl, rfl, rfl⟩ | ⟨rfl, rfl, n3, rfl, _, o1, o2⟩
    · refine Or.inr (Or.inl ⟨rfl, ?_, rfl, rfl⟩)
      rcases hr with z | z
      · exact Or.inl z.1
      · exact Or.inr z.2.2.2
    · have i1 : ((n : Int) - 1).toNat = n - 1 := by omega
      refine Or.inr (Or.inr (Or.inr (Or.inl ⟨rfl, ⟨by omega, by rw [i1]; exact o1, by rw [i1]; exact o2⟩, ?_, rfl⟩)))
      rcases hr with z | z
      · exact Or.inl z.1
      · exact Or.inr ⟨z.2.2.2, by omega⟩
  have rr : me_r r := by
    rcases hr with z | z
    · exact ⟨by omega, by omega⟩
    · exact ⟨by omega, by omega⟩
  have r5 : me_r x5 := by
    unfold nmk at k2
    exact ⟨by omega, by omega⟩
  refine (pe_node (w' := fun _ => False) hd hp Q (by omega) (by omega) t1 hn hm ⟨by omega, by omega⟩ (by rcases ho with z | z; (rw [z.2.1]; exact rr); (rw [z.2.2.2.1]; exact ⟨by omega, by omega⟩)) (by rcases ho with z | z; (rw [z.2.2.1]; exact ⟨by omega, by omega⟩); (rw [z.2.1]; exact rr)) ⟨by omega, by omega⟩ r5 hop k2 (fun v => by omega) ?_ ?_ (fun _ => Or.inl rfl) (fun m m1 m2 m3 => ?_) (fun m m1 m2 m3 => ?_) (fun m mv => Or.inr (hw m mv))).mono fun o M' _ g => ?_
  · rcases ho with ⟨rfl, rfl, rfl, rfl⟩ | ⟨rfl, rfl, n3, rfl, R, _⟩
    · rcases hr with z | z
      · exact Or.inl z.1
      · exact Or.inr ⟨z.1, z.2.1, z.2.2.1⟩
    · refine Or.inr ⟨by omega, by omega, ?_⟩
      rw [show ((n : Int) - 1).toNat = n - 1 by omega]
      exact (R.2 _ List.mem_cons_self).2.2.1
  · intro _
    rcases ho with ⟨rfl, rfl, rfl, rfl⟩ | ⟨rfl, rfl, n3, rfl, R, _⟩
    · exact Or.inl rfl
    · rcases hr with z | z
      · exact Or.inl z.1
      · exact Or.inr ⟨by omega, z.2.1, z.2.2.1⟩
  · by_cases cm : m < n
    · rcases ho with z | ⟨rfl, rfl, n3, rfl, R, _⟩
      · omega
      · have := List.mem_singleton.mp (R.1 m m1 cm m3)
        exact Or.inl (by omega)
    · rcases (hC2 m (by omega) m2 m3).2.2 with v | ⟨j, v1, v2⟩
      · rcases ho with ⟨rfl, rfl, rfl, rfl⟩ | ⟨rfl, rfl, n3, rfl, R, _⟩
        · exact Or.inl v
        · exact Or.inr (Or.inl ⟨by omega, v⟩)
      · exact Or.inr (Or.inr (Or.inr ⟨j, by omega, v2⟩))
  · rcases ho with ⟨rfl, rfl, rfl, rfl⟩ | ⟨rfl, rfl, n3, rfl, R, _⟩
    · exact Or.inr ⟨Or.inl rfl, by omega⟩
    · by_cases cm : m < n
      · exact Or.inl (R.2 m (R.1 m m1 cm m3)).2.2.2
      · exact Or.inr ⟨Or.inr (Or.inl rfl), by omega⟩
  · rcases o with a | _ | x | ⟨q, u⟩ | j <;> first | exact g.elim | skip
    obtain ⟨rfl, V, ⟨g1, g2, g3, g4, v5, v6⟩, v0, v2, _⟩ := g
    refine ⟨mkEX V ⟨fun m a1 a2 a3 => ?_, fun m z => ?_⟩ v0 (by omega) (by omega) v5 v6 t1 (by omega), rfl⟩
    · have := g2 m a1 a2 a3
      rw [show m = n1 by omega]
      exact List.mem_singleton.mpr rfl
    · rw [List.mem_singleton.mp z]
      exact ⟨by omega, by omega, g3, g4⟩
theorem e5 (hp : 164 < p) (he : e0 ≤ 2405) (hl : lim < 2408) (z0 : s e0 = 0) (H6 : C6 N X p s c lim gd e0 h k) : C5 N X p s c lim gd e0 h (k + 1) := by
  intro M t n dp D d P hdp hk hd
  have ht := P.2.1
  have he1 := P.2.2.1
  rw [g]
  refine b320_0 (ca_V (by omega) (c_305 (by omega) P.1 ht (by omega) hl ⟨by omega, by omega⟩) (fun M1 _ q => ?_) (fun _ _ _ q => q.mo (fun z => by rw [g_need, if_neg z]; rfl) rE_F fr.rf))
  obtain ⟨rfl, q1, q2, q3⟩ := q
  have te := te_of z0 he1 (by omega)
  have T := (P.st (w := fun _ => False)).pass hp (by omega) te (fun v => by omega)
  have PT := T.pr hp P (by omega) (by omega)
  rw [show g_need s c lim 40 t = some (t + 1) by rw [g_need, if_pos ⟨q1, q2, q3⟩]]
  show ∃ d', _
  simp only [Option.bind_some]
  refine ca_I (by omega) (c_306 (by omega) PT.1 PT.2.1 (by omega) hl ⟨by omega, by omega⟩) (fun y M1 _ q => ?_) (fun _ _ _ q => q.mo (fun z => by
    rcases z with z | z
    · rw [if_pos z]
    · rw [if_neg (by omega), if_pos ⟨z.1, z.2.1⟩, if_neg (by omega)]) rE_F T.1)
  rcases q with ⟨rfl, rfl, a1, a2, a3⟩ | ⟨rfl, rfl, a1, a2⟩
  · have te2 := te_of z0 (by omega) (show ¬ s (t + 1) = 0 by omega)
    have T2 := T.pass hp (by omega) te2 (fun v => by omega)
    refine ⟨⟨by omega, by omega⟩, fun v => by omega, fun _ => ⟨t + 1 + 1, n, by rw [if_neg (by omega), if_pos ⟨a1, a2⟩, if_pos a3], by omega, by omega, T2, Or.inl ⟨rfl, rfl⟩, fun m m1 m2 => by omega⟩⟩
  · refine ⟨⟨by omega, by omega⟩, fun _ => ?_, fun v => by omega⟩
    rw [if_neg a1, if_neg a2]
    refine ca_V (by omega) (c_311 (by omega) PT.1 hp PT.2.1 (by omega) PT.2.2.2.1 (by omega)) (fun M2 _ q => ?_) (fun a M' _ q => q.mo (fun z => by rw [if_neg z]) rE_W T.1)
    obtain ⟨rfl, gi⟩ := q
    have W := T.deep (dp' := dp + 1) hp (by omega)
    rw [show ((dp : Int) + 1) = ((dp + 1 : Nat) : Int) by omega, if_pos gi]
    exact H6 M _ t n (t + 1) n dp D d (-1) (-1) P hdp (by omega) (by omega) W ⟨Or.inl ⟨rfl, rfl⟩, fun m m1 m2 => by omega⟩ (Or.inl ⟨rfl, rfl⟩) (fun v => by unfold g_in at gi; omega) (by omega) (by omega)
theorem lk_A {M : me_M} {l : Nat} {x : Int32} (i j : Nat) (hi : ¬ (i = 7 ∧ j = l)) (hi2 : i < 11) : nA p (me_sI M (p + 21) l x) i j = nA p M i j := by
  have f1 : fr (fun b j => b = p + 21 ∧ j = l) M (me_sI M (p + 21) l x) := fr_sI ⟨rfl, rfl⟩
  exact f1.i (by omega)
/-- a root is hung behind the last of a chain -/
theorem pe.link {D dp n0 t0 t n : Nat} {M0 M : me_M} {w : Nat → Prop} (hp : 164 < p) (Q : pe p s e0 h D dp M0 n0 t0 w M t n) {l r : Nat} (h8 : n < 2147483647) (l1 : n0 ≤ l) (l2 : l < r) (l3 : r < n) (rl : nA p M 8 l = -1) (rr : nA p M 8 r = -1) (ko : nA p M 0 l ≤ 16 ∧ nA p M 0 r ≤ 16 ∨ 20 ≤ nA p M 0 l ∧ 20 ≤ nA p M 0 r) (nl : nA p M 7 l = -1) : pe p s e0 h D dp M0 n0 t0 w (me_sI M (p + 21) l (Int32.ofInt (r : Int))) t n := by
  obtain ⟨f, q1, q2, q3, q4, q5, q6, q7, q8⟩ := Q
  have f1 : fr (fun b j => b = p + 21 ∧ j = l) M (me_sI M (p + 21) l (Int32.ofInt (r : Int))) := fr_sI ⟨rfl, rfl⟩
  have fB : ∀ i j, i < 10 → tA p (me_sI M (p + 21) l (Int32.ofInt (r : Int))) i j = tA p M i j := fun i j _ => f1.i (by omega)
  refine ⟨f.tr (f1.mo fun b j z => Or.inr (Or.inr (Or.inl ⟨by omega, by omega, by omega⟩))), ?_, ?_, ?_, q4, q5, q6, ?_, fun k k1 k2 k3 => ?_⟩
  · rw [f1.i (by omega), q1]
  · rw [f1.i (by omega), q2]
  · rw [f1.i (by omega), q3]
  · refine (q7.link l1 l2 l3 rl rr ko nl ?_ fun i j i1 i2 => lk_A i j i2 i1).eq (fun _ _ _ _ _ => rfl) fun j _ => fB 0 j (by omega)
    show me_i (me_sI _ _ _ _) _ _ = _
    rw [me_i_sI, if_pos ⟨rfl, rfl⟩, me_to ⟨by omega, by omega⟩]
  · rcases q8 k k1 k2 k3 with z | ⟨m, z1, z2, z3⟩
    · exact Or.inl z
    · exact Or.inr ⟨m, z1, z2, by rw [lk_A 4 m (by omega) (by omega)]; exact z3⟩
theorem CH.eq {o1 o2 r : Int} {A A' : Nat → Nat → Int} {n0 n : Nat} (H : CH o1 o2 A n0 n r) (e : ∀ i j, i < 11 → ¬ i = 7 → j < n → A' i j = A i j) (e7 : ∀ j, j < n → A 8 j = -1 → ¬ A 7 j = -1 → A' 7 j = A 7 j) : CH o1 o2 A' n0 n r := by
  obtain ⟨H1, H2⟩ := H
  refine ⟨?_, fun m m1 m2 m3 => ?_⟩
  · rcases H1 with z | z
    · exact Or.inl z
    · exact Or.inr ⟨z.1, z.2.1, by rw [e 8 _ (by omega) (by omega) (by omega)]; exact z.2.2⟩
  · rw [e 8 m (by omega) (by omega) m2] at m3
    obtain ⟨v1, v2, v3⟩ := H2 m m1 m2 m3
    refine ⟨by rw [e 0 m (by omega) (by omega) m2]; exact v1, by rw [e 0 m (by omega) (by omega) m2]; exact v2, ?_⟩
    rcases v3 with v | ⟨j, j1, j2, j3, j4⟩
    · exact Or.inl v
    · exact Or.inr ⟨j, j1, j2, by rw [e 8 j (by omega) (by omega) (by omega)]; exact j3, by rw [e7 j (by omega) j3 (by omega)]; exact j4⟩
/-- a chain that was linked to the tree behind it -/
theorem CH.app {o1 o2 r : Int} {A : Nat → Nat → Int} {n0 n n1 l : Nat} (H : CH o1 o2 A n0 n r) (R : RL A n n1 [n1 - 1]) (nn : n < n1) (h1 : o1 ≤ A 0 (n1 - 1)) (h2 : A 0 (n1 - 1) ≤ o2) (l0 : n0 ≤ l) (l1 : l < n) (l2 : A 8 l = -1) (l3 : A 7 l = ((n1 - 1 : Nat) : Int)) : CH o1 o2 A n0 n1 r := by
  obtain ⟨H1, H2⟩ := H
  refine ⟨?_, fun m m1 m2 m3 => ?_⟩
  · rcases H1 with z | z
    · omega
    · exact Or.inr ⟨z.1, by omega, z.2.2⟩
  · by_cases cm : m < n
    · exact H2 m m1 cm m3
    · have := List.mem_singleton.mp (R.1 m (by omega) m2 m3)
      subst this
      exact ⟨h1, h2, Or.inr ⟨l, l0, by omega, l2, l3⟩⟩
theorem CH.one {o1 o2 : Int} {A : Nat → Nat → Int} {n0 n1 : Nat} (R : RL A n0 n1 [n1 - 1]) (nn : n0 < n1) (h1 : o1 ≤ A 0 (n1 - 1)) (h2 : A 0 (n1 - 1) ≤ o2) : CH o1 o2 A n0 n1 ((n1 : Int) - 1) := by
  refine ⟨Or.inr ⟨by omega, by omega, ?_⟩, fun m m1 m2 m3 => ?_⟩
  · rw [show ((n1 : Int) - 1).toNat = n1 - 1 by omega]
    exact (R.2 _ List.mem_cons_self).2.2.1
  · have := List.mem_singleton.mp (R.1 m m1 m2 m3)
    subst this
    exact ⟨h1, h2, Or.inl (by omega)⟩
theorem e6 (hp : 164 < p) (he : e0 ≤ 2405) (hl : lim < 2408) (z0 : s e0 = 0) (H0 : C0 N X p s c lim gd e0 h k) (H6 : C6 N X p s c lim gd e0 h k) : C6 N X p s c lim gd e0 h (k + 1) := by
  intro M0 M t0 n0 t n dp D d bg la P hdp ht0 hnt Q hC hla hz hk hd
  have hn0 := P.2.2.2.2.2.2.1
  have hte := Q.2.2.2.2.1
  have hnn := Q.2.2.2.2.2.1
  have PM := Q.pr hp P (by omega) hz
  rw [g]
  refine b320_25 (ca_I (by omega) (c_314 (d := d - 1) H0 PM (by omega) (by omega)) (fun y M1 _ q => ?_) (fun _ _ _ q => q.mo (fun z => by rw [z]; rfl) (rE_mo hnn) Q.1))
  obtain ⟨t1, n1, g1, t11, n11, rfl, R, R6, o1, o2, o5, o6⟩ := q
  have hdp2 : dp + 1 ≤ 20 := by
    by_cases v : 20 < dp + 1
    · have := (g_sg (lim := lim) (dp := dp + 1) (gd := gd) (hz v) k 1).1
      rw [g1] at this
      cases this
    · omega
  rw [g1]
  simp only [Option.bind_some]
  have hte1 := R.2.2.2.2.1
  have hnn1 := R.2.2.2.2.2.2.1
  -- what follows, from the memory with the link
  have K : ∀ (M5 : me_M) (bg' : Int), pe p s e0 h D (dp + 1) M0 n0 t0 (fun _ => False) M5 t1 n1 → CH 1 16 (nA p M5) n0 n1 bg' → nA p M5 8 (n1 - 1) = -1 → nA p M5 7 (n1 - 1) = -1 → ∀ Q0 : me_Q, Q0 = sx_qI (AR p s e0 h D dp M0 n0 t0 (if s t1 = -1 then none else if s t1 = 4 ∧ c t1 = 44 then (if t1 < lim then g s c lim gd k 6 0 (t1 + 1) (dp + 1) else none) else g_need s c lim 41 t1)) (px ((if s t1 = -1 then none else if s t1 = 4 ∧ c t1 = 44 then (if t1 < lim then g s c lim gd k 6 0 (t1 + 1) (dp + 1) else none) else g_need s c lim 41 t1) = none) (rE p n0) M0) →
      ∃ d', d = d' + 1 ∧ me_W (mt_G N X) 306 d' 0 [some (.inr (.inl (some p, 29, 0))), some (.inl 44)] [] M5 (sx_qI (fun y9 M6 => me_r y9 ∧ (¬ y9 = 0 → me_W (mt_G N X) 320 d 25 [some (.inr (.inl (some p, 29, 0))), some (.inl bg'), some (.inl ((n1 : Int) - 1)), none] [] M6 Q0) ∧ (y9 = 0 → let M10 : me_M := me_sI M6 p 37 (Int32.ofInt ((me_i M6 p 37) - 1)); ∃ d', d = d' + 1 ∧ me_W (mt_G N X) 305 d' 0 [some (.inr (.inl (some p, 29, 0))), some (.inl 41)] [] M10 (sx_qV (fun M11 => Q0 (.inr (some (.inl bg'))) M11) (fun e13 M12 => Q0 (.inl e13) M12)))) (fun e8 M7 => Q0 (.inl e8) M7)) := by
    intro M5 bg' V hC5 v8 v7 Q0 hQ0
    subst hQ0
    have PV := V.pr hp P (by omega) (by omega)
    refine ca_I (by omega) (c_306 (by omega) PV.1 PV.2.1 (by omega) hl ⟨by omega, by omega⟩) (fun y M6 _ q => ?_) (fun _ _ _ q => q.mo (fun z => by
      rcases z with z | z
      · rw [if_pos z]
      · rw [if_neg (by omega), if_pos ⟨z.1, z.2.1⟩, if_neg (by omega)]) rE_F V.1)
    rcases q with ⟨rfl, rfl, a1, a2, a3⟩ | ⟨rfl, rfl, a1, a2⟩
    · refine ⟨⟨by omega, by omega⟩, fun _ => ?_, fun v => by omega⟩
      rw [if_neg (by omega), if_pos ⟨a1, a2⟩, if_pos a3]
      have te2 := te_of z0 (by omega) (show ¬ s t1 = 0 by omega)
      have T2 := V.pass hp (by omega) te2 (fun v => by omega)
      refine H6 M0 _ t0 n0 (t1 + 1) n1 dp D d bg' ((n1 : Int) - 1) P hdp (by omega) (by omega) T2 (hC5.eq (fun i j _ _ _ => pT_A p t1 M5 i j) fun j _ _ _ => pT_A p t1 M5 7 j) (Or.inr ⟨by omega, by omega, ?_, ?_⟩) (by omega) (by omega) hd
      · rw [pT_A, show ((n1 : Int) - 1).toNat = n1 - 1 by omega]
        exact v8
      · rw [pT_A, show ((n1 : Int) - 1).toNat = n1 - 1 by omega]
        exact v7
    · refine ⟨⟨by omega, by omega⟩, fun v => by omega, fun _ => ?_⟩
      rw [if_neg a1, if_neg a2]
      intro M10
      have e10 : M10 = me_sI M6 p 37 (Int32.ofInt (dp : Int)) := by
        show me_sI _ _ _ _ = _
        rw [V.2.2.1, show ((dp + 1 : Nat) : Int) - 1 = (dp : Int) by omega]
      rw [e10]
      clear e10
      clear M10
      have V2 := V.deep (dp' := dp) hp (by omega)
      have PV2 := V2.pr hp P (by omega) (by omega)
      refine ca_V (by omega) (c_305 (by omega) PV2.1 PV2.2.1 (by omega) hl ⟨by omega, by omega⟩) (fun M11 _ q => ?_) (fun _ _ _ q => q.mo (fun z => by rw [g_need, if_neg z]) rE_F V2.1)
      obtain ⟨rfl, b1, b2, b3⟩ := q
      have te2 := te_of z0 (by omega) (show ¬ s t1 = 0 by omega)
      have V3 := V2.pass hp (by omega) te2 (fun v => by omega)
      refine ⟨t1 + 1, n1, by rw [g_need, if_pos ⟨b1, b2, b3⟩], by omega, by omega, V3, hC5.eq (fun i j _ _ _ => (pT_A p t1 _ i j).trans (dp_A p M6 _ i j)) fun j _ _ _ => (pT_A p t1 _ 7 j).trans (dp_A p M6 _ 7 j)⟩
  have U := Q.seq hp R w0
  have kA : ∀ i j, i < 11 → j < n → nA p M1 i j = nA p M i j := fun i j i1 j1 => R.keep hp i1 j1
  have r8 := (R6.2 _ List.mem_cons_self).2.2.1
  have r7 := (R6.2 _ List.mem_cons_self).2.2.2
  refine ⟨by rcases hla with z | z <;> exact ⟨by omega, by omega⟩, fun v => ?_, fun v => ?_⟩
  · rcases hla with z | ⟨z1, z2, z3, z4⟩
    · omega
    · refine ⟨by omega, by omega, ?_⟩
      have eq1 : ((n1 : Int) - 1) = ((n1 - 1 : Nat) : Int) := by omega
      have la1 : nA p M1 8 la.toNat = -1 := by rw [kA 8 _ (by omega) (by omega)]; exact z3
      have la2 : nA p M1 7 la.toNat = -1 := by rw [kA 7 _ (by omega) (by omega)]; exact z4
      have la3 := (hC.2 la.toNat (by omega) (by omega) z3)
      have la4 := kA 0 la.toNat (by omega) (by omega)
      have U2 := U.link hp (l := la.toNat) (r := n1 - 1) (by omega) (by omega) (by omega) (by omega) la1 r8 (Or.inl ⟨by omega, by omega⟩) la2
      have hC1 : CH 1 16 (nA p M1) n0 n bg := hC.eq (fun i j i1 _ j1 => kA i j i1 j1) fun j j1 _ _ => kA 7 j (by omega) j1
      rw [← eq1] at U2
      have lA : ∀ i j, i < 11 → ¬ (i = 7 ∧ j = la.toNat) → nA p (me_sI M1 (p + 21) la.toNat (Int32.ofInt ((n1 : Int) - 1))) i j = nA p M1 i j := fun i j i1 i2 => lk_A i j i2 i1
      refine K _ bg U2 ?_ ?_ ?_ _ rfl
      · refine CH.app (n := n) (l := la.toNat) (hC1.eq (fun i j i1 i2 _ => lA i j i1 (fun w => i2 w.1)) fun j j1 j2 j3 => lA 7 j (by omega) fun w => j3 (by rw [w.2]; exact la2)) (R6.eq' ?_) n11 ?_ ?_ (by omega) (by omega) ?_ ?_
        · intro i j i1 j1 j2
          exact lA i j i1 (by omega)
        · rw [lA 0 _ (by omega) (by omega)]
          exact o1
        · rw [lA 0 _ (by omega) (by omega)]
          exact o2
        · rw [lA 8 _ (by omega) (by omega)]
          exact la1
        · show me_i (me_sI _ _ _ _) _ _ = _
          rw [me_i_sI, if_pos ⟨rfl, rfl⟩, me_to ⟨by omega, by omega⟩, eq1]
      · rw [lA 8 _ (by omega) (by omega)]
        exact r8
      · rw [lA 7 _ (by omega) (by omega)]
        exact r7
  · rcases hla with z | z
    · obtain ⟨_, rfl⟩ := z
      exact K M1 ((n1 : Int) - 1) U (CH.one R6 n11 o1 o2) r8 r7 _ rfl
    · omega
end EXPS3
end
