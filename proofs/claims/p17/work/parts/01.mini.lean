/-! THE SMALL MACHINE (mv_): the decoded instructions run over locals as a list of pairs, a stack of values and a heap as a list of cells. Its pointer k stands for the address mv_ad .. k of the real machine; in its heap an array's class is the number of its type. -/
/-- a state: pc, locals, operand stack, heap, cells and slots that may still be made -/
abbrev mv_S : Type := Nat × List (Nat × Value) × List Value × List va_E × Nat × Nat
/-- what an instruction comes to: it goes on; it calls (method, arguments, the stack below them, its length); it returns; it throws -/
abbrev mv_R : Type := mv_S ⊕ ((Nat × List Value × List Value × Nat) ⊕ (Option Value ⊕ Nat))
/-- what a call comes to: it has thrown, or returned; the heap, what may still be made -/
abbrev mv_E : Type := (Nat ⊕ Option Value) × List va_E × Nat × Nat
/-- the tables: instructions; fields (class, place; by method and constant pool number); classes to make; types of arrays to make; calls (kind, method, how many arguments); constants; locals of a method; handlers; slots of a class's objects; first values of its fields; types of its fields; whether a field is final; constructors; types of arrays of ints, bytes, booleans; component types; the class that an array's type has; what a method returns; the class that a method's receiver has; the class that is thrown; the three types of a grid -/
abbrev mv_G : Type := (Nat → Nat → Option (Instr × Nat)) × (Nat → Nat → Option (Nat × Nat)) × (Nat → Nat → Option Nat) × (Nat → Nat → Option Nat) × (Nat → Nat → Option (Nat × Nat × Nat)) × (Nat → Nat → Option Value) × (Nat → Nat) × (Nat → List (Nat × Nat × Nat × Nat)) × (Nat → Nat) × (Nat → List Value) × (Nat → Nat → Option FieldType) × (Nat → Nat → Bool) × (Nat → Nat → Bool) × (Nat → Option FieldType) × (Nat → Option Nat) × (Nat → Option FieldType) × (Nat → Nat) × Nat × (Nat → Nat → Option (Nat × Nat × Nat)) × (Nat → Option (Nat × (Nat → Int32))) × (Nat → Option (List Int32)) × (Nat → Option Nat)
def mv_gI (G : mv_G) : Nat → Nat → Option (Instr × Nat) := G.1
def mv_gF (G : mv_G) : Nat → Nat → Option (Nat × Nat) := G.2.1
def mv_gN (G : mv_G) : Nat → Nat → Option Nat := G.2.2.1
def mv_gA (G : mv_G) : Nat → Nat → Option Nat := G.2.2.2.1
def mv_gC (G : mv_G) : Nat → Nat → Option (Nat × Nat × Nat) := G.2.2.2.2.1
def mv_gK (G : mv_G) : Nat → Nat → Option Value := G.2.2.2.2.2.1
def mv_gL (G : mv_G) : Nat → Nat := G.2.2.2.2.2.2.1
def mv_gH (G : mv_G) : Nat → List (Nat × Nat × Nat × Nat) := G.2.2.2.2.2.2.2.1
def mv_gZ (G : mv_G) : Nat → Nat := G.2.2.2.2.2.2.2.2.1
def mv_gD (G : mv_G) : Nat → List Value := G.2.2.2.2.2.2.2.2.2.1
def mv_gT (G : mv_G) : Nat → Nat → Option FieldType := G.2.2.2.2.2.2.2.2.2.2.1
def mv_gP (G : mv_G) : Nat → Nat → Bool := G.2.2.2.2.2.2.2.2.2.2.2.1
def mv_gQ (G : mv_G) : Nat → Nat → Bool := G.2.2.2.2.2.2.2.2.2.2.2.2.1
def mv_gY (G : mv_G) : Nat → Option FieldType := G.2.2.2.2.2.2.2.2.2.2.2.2.2.1
def mv_gE (G : mv_G) : Nat → Option Nat := G.2.2.2.2.2.2.2.2.2.2.2.2.2.2.1
def mv_gR (G : mv_G) : Nat → Option FieldType := G.2.2.2.2.2.2.2.2.2.2.2.2.2.2.2.1
def mv_gW (G : mv_G) : Nat → Nat := G.2.2.2.2.2.2.2.2.2.2.2.2.2.2.2.2.1
def mv_gX (G : mv_G) : Nat := G.2.2.2.2.2.2.2.2.2.2.2.2.2.2.2.2.2.1
def mv_gM (G : mv_G) : Nat → Nat → Option (Nat × Nat × Nat) := G.2.2.2.2.2.2.2.2.2.2.2.2.2.2.2.2.2.2.1
/-- arrays of ints that were there before, by their pointers: length, what they hold -/
def mv_gS (G : mv_G) : Nat → Option (Nat × (Nat → Int32)) := G.2.2.2.2.2.2.2.2.2.2.2.2.2.2.2.2.2.2.2.1
/-- texts, by the pointers of their constants: their bytes -/
def mv_gX2 (G : mv_G) : Nat → Option (List Int32) := G.2.2.2.2.2.2.2.2.2.2.2.2.2.2.2.2.2.2.2.2.1
/-- types of arrays of arrays: the type of what they hold -/
def mv_gB (G : mv_G) : Nat → Option Nat := G.2.2.2.2.2.2.2.2.2.2.2.2.2.2.2.2.2.2.2.2.2
/-- pointers from here on are constants of text -/
def mv_big : Nat := 1099511627776
def mv_tgt (pc : Nat) (off : Int) : Option Nat := if 0 ≤ (pc : Int) + off then some ((pc : Int) + off).toNat else none
theorem mv_tgt_eq {pc t : Nat} {off : Int} (h : mv_tgt pc off = some t) : (pc : Int) + off = (t : Int) := by
  unfold mv_tgt at h
  split at h
  · cases h
    omega
  · cases h
def mv_find (i : Nat) : List (Nat × Value) → Nat → Option (Nat × Value)
  | [], _ => none
  | q :: r, k => if q.1 = i then some (k, q.2) else mv_find i r (k + 1)
theorem mv_find_at {i : Nat} : ∀ (l : List (Nat × Value)) (k j : Nat) (v : Value), mv_find i l k = some (j, v) → k ≤ j ∧ l[j - k]? = some (i, v)
  | [], _, _, _, h => by cases h
  | q :: r, k, j, v, h => by
    unfold mv_find at h
    split at h
    · rename_i e
      cases h
      exact ⟨Nat.le_refl _, by simp [← e]⟩
    · obtain ⟨h1, h2⟩ := mv_find_at r (k + 1) j v h
      refine ⟨by omega, ?_⟩
      rw [show j - k = (j - (k + 1)) + 1 by omega, List.getElem?_cons_succ]
      exact h2
def mv_keep (i : Nat) (l : List (Nat × Value)) : List (Nat × Value) := l.filter (fun q => !(q.1 == i) && !(q.1 + 1 == i && q.2.category == 2))
def mv_int : Value → Bool
  | .int _ => true
  | _ => false
def mv_rfv : Value → Bool
  | .ref _ => true
  | .null => true
  | _ => false
def mv_one (b : Value → Bool) (v : Value) : Bool := b v
section
variable (G : mv_G) (y pc : Nat) (l : List (Nat × Value)) (st : List Value) (hp : List va_E) (cb sb : Nat)
def mv_load (i len : Nat) (b : Value → Bool) : Option mv_R := match mv_find i l 0 with
  | some (_, v) => if b v = true then some (.inl (pc + len, l, v :: st, hp, cb, sb)) else none
  | none => none
def mv_store (i len : Nat) (b : Value → Bool) : Option mv_R := match st with
  | v :: r => if b v = true ∧ i < mv_gL G y then some (.inl (pc + len, (i, v) :: mv_keep i l, r, hp, cb, sb)) else none
  | [] => none
def mv_inc (i : Nat) (n : Int) (len : Nat) : Option mv_R := match mv_find i l 0 with
  | some (_, .int x) => if i < mv_gL G y then some (.inl (pc + len, (i, .int (x + Int32.ofInt n)) :: mv_keep i l, st, hp, cb, sb)) else none
  | _ => none
def mv_bin (f : Int32 → Int32 → Int32) : Option mv_R := match st with
  | .int b :: .int a :: r => some (.inl (pc + 1, l, .int (f a b) :: r, hp, cb, sb))
  | _ => none
def mv_dvd (f : Int32 → Int32 → Int32) : Option mv_R := match st with
  | .int b :: .int a :: r => if b = 0 then none else some (.inl (pc + 1, l, .int (f a b) :: r, hp, cb, sb))
  | _ => none
def mv_un (f : Int32 → Int32) : Option mv_R := match st with
  | .int a :: r => some (.inl (pc + 1, l, .int (f a) :: r, hp, cb, sb))
  | _ => none
def mv_cond : Jvm.ClassFile.Cond → Int32 → Int32 → Bool
  | .eq, a, b => decide (a = b)
  | .ne, a, b => decide (¬ a = b)
  | .lt, a, b => decide (a < b)
  | .ge, a, b => decide (b ≤ a)
  | .gt, a, b => decide (b < a)
  | .le, a, b => decide (a ≤ b)
def mv_jump (off : Int) (c : Bool) (r : List Value) : Option mv_R := match mv_tgt pc off with
  | some t => some (.inl (if c = true then t else pc + 3, l, r, hp, cb, sb))
  | none => none
def mv_if (c : Jvm.ClassFile.Cond) (off : Int) : Option mv_R := match st with
  | .int a :: r => mv_jump pc l hp cb sb off (mv_cond c a 0) r
  | _ => none
def mv_icmp (c : Jvm.ClassFile.Cond) (off : Int) : Option mv_R := match st with
  | .int b :: .int a :: r => mv_jump pc l hp cb sb off (mv_cond c a b) r
  | _ => none
/-- a reference that is no constant of text, or null -/
def mv_ptr : Value → Option (Option Nat)
  | .null => some none
  | .ref a => if a < mv_big then some (some a) else none
  | _ => none
def mv_acmp (c : ACond) (off : Int) : Option mv_R := match st with
  | b :: a :: r => match mv_ptr a, mv_ptr b with
    | some x, some z => mv_jump pc l hp cb sb off (match c with | .eq => decide (x = z) | .ne => decide (¬ x = z)) r
    | _, _ => none
  | _ => none
def mv_ifn (n : Bool) (off : Int) : Option mv_R := match st with
  | .null :: r => mv_jump pc l hp cb sb off n r
  | .ref _ :: r => mv_jump pc l hp cb sb off (!n) r
  | _ => none
def mv_push (len : Nat) (v : Value) : Option mv_R := some (.inl (pc + len, l, v :: st, hp, cb, sb))
def mv_dup : Option mv_R := match st with
  | v :: r => if v.category = 1 then some (.inl (pc + 1, l, v :: v :: r, hp, cb, sb)) else none
  | _ => none
def mv_pop : Option mv_R := match st with
  | v :: r => if v.category = 1 then some (.inl (pc + 1, l, r, hp, cb, sb)) else none
  | _ => none
def mv_dupx : Option mv_R := match st with
  | v :: w :: r => if v.category = 1 ∧ w.category = 1 then some (.inl (pc + 1, l, v :: w :: v :: r, hp, cb, sb)) else none
  | _ => none
def mv_dup2 : Option mv_R := match st with
  | v :: w :: r => if v.category = 1 ∧ w.category = 1 then some (.inl (pc + 1, l, v :: w :: v :: w :: r, hp, cb, sb)) else none
  | _ => none
def mv_tsw (dflt lo hi : Int) (offs : Array Int) : Option mv_R := match st with
  | .int x :: r => if x.toInt < lo ∨ hi < x.toInt then match mv_tgt pc dflt with
      | some t => some (.inl (t, l, r, hp, cb, sb))
      | none => none
    else match offs[(x.toInt - lo).toNat]? with
      | some off => match mv_tgt pc off with
        | some t => some (.inl (t, l, r, hp, cb, sb))
        | none => none
      | none => none
  | _ => none
def mv_lsw (dflt : Int) (ps : Array (Int × Int)) : Option mv_R := match st with
  | .int x :: r => if (ps.toList.zip (ps.toList.drop 1)).all (fun (a, next) => a.1 < next.1) = true then match mv_tgt pc (Op.lookupswitch.offset ps.toList dflt x.toInt) with
      | some t => some (.inl (t, l, r, hp, cb, sb))
      | none => none
    else none
  | _ => none
end
def mv_f_iadd (a b : Int32) : Int32 := a + b
def mv_f_isub (a b : Int32) : Int32 := a - b
def mv_f_imul (a b : Int32) : Int32 := a * b
def mv_f_iand (a b : Int32) : Int32 := a &&& b
def mv_f_ior (a b : Int32) : Int32 := a ||| b
def mv_f_ixor (a b : Int32) : Int32 := a ^^^ b
def mv_f_ishl (a b : Int32) : Int32 := a <<< (b &&& 31)
def mv_f_ishr (a b : Int32) : Int32 := a >>> (b &&& 31)
def mv_f_iushr (a b : Int32) : Int32 := (a.toUInt32 >>> (b.toUInt32 &&& Int32.toUInt32 31)).toInt32
def mv_f_idiv (a b : Int32) : Int32 := a / b
def mv_f_irem (a b : Int32) : Int32 := a - a / b * b
def mv_f_ineg (a : Int32) : Int32 := -a
def mv_f_i2b (a : Int32) : Int32 := a.toInt8.toInt32
def mv_f_i2c (a : Int32) : Int32 := (a.toUInt32 % 65536).toInt32
