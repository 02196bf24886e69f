/-! the tables are right -/
theorem mt_cls (y : Nat) : (mt_Nm y).cls = mt_own (mt_oc y) := by
  unfold mt_Nm mt_oc
  cases mt_m[y]? with
  | none => exact (by decide +kernel : "" = mt_own 99)
  | some q => rfl
def mt_mem (w : Jvm.Cond) : Bool := decide (w ∈ tables_1)
theorem mt_mem_mem {w : Jvm.Cond} (h : mt_mem w = true) : w ∈ mt_Ts := List.mem_append.mpr (Or.inr (of_decide_eq_true h))
def mt_all {α : Type} (l : List (List α)) (b : Nat → α → Bool) : Bool := (List.range l.length).all fun o => (l.getD o []).all (b o)
theorem mt_all_of {α : Type} {l : List (List α)} {b : Nat → α → Bool} (h : mt_all l b = true) {o : Nat} {e : α} (he : e ∈ l.getD o []) : b o e = true := by
  rcases Nat.lt_or_ge o l.length with q | q
  · exact List.all_eq_true.mp (List.all_eq_true.mp h o (List.mem_range.mpr q)) e he
  · rw [List.getD_eq_getElem?_getD, List.getElem?_eq_none q] at he
    exact absurd he List.not_mem_nil
/-- classes -/
def mt_okk (ci : Nat) : Bool := match mt_k[ci]? with
  | some q => (List.range q.2.2.1.length).all (fun k => match q.2.2.1[k]? with
      | some f => Nat.beq f.1 q.1 && mt_in f.2.2.2.2 (u_lay (mt_cn ci) (mt_T ci) k) && (parseFieldDescriptor f.2.2.1).isSome
      | none => false) && decide ((q.2.2.1.map fun f => f.2.1).Nodup) && mt_in q.2.2.2.1 (.instantiable (mt_cn ci) q.2.1) && mt_in q.2.2.2.2 (.initialized (mt_cn ci)) && (mt_gD ci).all (fun v => match v with
        | .null => true
        | .int _ => true
        | _ => false)
  | none => false
set_option maxRecDepth 100000 in
theorem mt_okk_all : (List.range mt_k.length).all mt_okk = true := by decide +kernel
def mt_okf (o : Nat) (e : Nat × Nat × Nat × Bool × String × (Nat × Nat)) : Bool := Nat.blt e.2.1 mt_k.length && Nat.blt e.2.2.1 (mt_fl e.2.1).length && mt_in e.2.2.2.2.2 (if e.2.2.2.1 = true then .fieldLinkNest (mt_own o) e.1 (mt_T e.2.1 e.2.2.1).1 (mt_T e.2.1 e.2.2.1).2.1 (mt_T e.2.1 e.2.2.1).2.2.1 e.2.2.2.2.1 else .fieldLink (mt_own o) e.1 (mt_T e.2.1 e.2.2.1).1 (mt_T e.2.1 e.2.2.1).2.1 (mt_T e.2.1 e.2.2.1).2.2.1) && (!e.2.2.2.1 || !decide (mt_own o = mt_cn e.2.1))
set_option maxRecDepth 100000 in
theorem mt_okf_all : mt_all mt_F mt_okf = true := by decide +kernel
def mt_okn (o : Nat) (e : Nat × Nat × (Nat × Nat)) : Bool := Nat.blt e.2.1 mt_k.length && mt_in e.2.2 (.classLink (mt_own o) e.1 (mt_cn e.2.1))
set_option maxRecDepth 100000 in
theorem mt_okn_all : mt_all mt_N mt_okn = true := by decide +kernel
def mt_oka (o : Nat) (e : Nat × Nat × (Nat × Nat) × (Nat × Nat)) : Bool := match mt_L[e.2.1]? with
  | some (.object C) => mt_in e.2.2.1 (.classLink (mt_own o) e.1 C) && mt_in e.2.2.2 (.arrayOver (.object C))
  | some (.array ty) => mt_in e.2.2.1 (.classLink (mt_own o) e.1 (FieldType.array ty).toString) && mt_in e.2.2.2 (.arrayOver (.array ty))
  | _ => false
set_option maxRecDepth 100000 in
theorem mt_oka_all : mt_all mt_A mt_oka = true := by decide +kernel
def mt_oki (o : Nat) (e : Nat × Int × (Nat × Nat)) : Bool := mt_in e.2.2 (.constant (mt_own o) e.1 (Int32.ofInt e.2.1))
set_option maxRecDepth 100000 in
theorem mt_oki_all : mt_all mt_K mt_oki = true := by decide +kernel
def mt_leq : List UInt8 → List UInt8 → Bool
  | [], [] => true
  | a :: r, b :: t => Nat.beq a.toNat b.toNat && mt_leq r t
  | _, _ => false
theorem mt_leq_eq : ∀ {a b : List UInt8}, mt_leq a b = true → a = b
  | [], [], _ => rfl
  | [], _ :: _, h => by cases h
  | _ :: _, [], h => by cases h
  | a :: r, b :: t, h => by
    unfold mt_leq at h
    obtain ⟨h1, h2⟩ := Bool.and_eq_true_iff.mp h
    rw [mt_leq_eq h2, UInt8.toNat_inj.mp (Nat.eq_of_beq_eq_true h1)]
def mt_beq (a b : ByteArray) : Bool := mt_leq a.data.toList b.data.toList
theorem mt_beq_eq {a b : ByteArray} (h : mt_beq a b = true) : a = b := by
  have h1 := mt_leq_eq h
  obtain ⟨⟨x⟩⟩ := a
  obtain ⟨⟨y⟩⟩ := b
  cases h1
  rfl
def mt_inC (q : Nat × Nat) (m : MethodName) (b : ByteArray) (l : Nat) (r : Option FieldType) : Bool := match (mt_ch q.1)[q.2]? with
  | some (.code m' b' l' r') => decide (m' = m) && mt_beq b' b && Nat.beq l' l && decide (r' = r)
  | _ => false
def mt_inH (q : Nat × Nat) (m : MethodName) (b : ByteArray) (l : Nat) (r : Option FieldType) (h : List (Nat × Nat × Nat × Nat)) : Bool := match (mt_ch q.1)[q.2]? with
  | some (.codeWith m' b' l' r' h') => decide (m' = m) && mt_beq b' b && Nat.beq l' l && decide (r' = r) && decide (h' = h)
  | _ => false
def mt_okm (z : Nat) : Bool := (match mt_gH z with
  | [] => mt_inC (mt_inf z).2.2.1 (mt_Nm z) (mt_Cd z) (mt_inf z).1 (mt_inf z).2.1
  | h => mt_inH (mt_inf z).2.2.1 (mt_Nm z) (mt_Cd z) (mt_inf z).1 (mt_inf z).2.1 h) && !decide ((mt_Nm z).cls = "java/lang/invoke/MethodHandle") && !decide ((mt_Nm z).cls = "java/lang/invoke/VarHandle")
set_option maxRecDepth 100000 in
theorem mt_okm_all : ((List.range mt_m.length).drop 1).all mt_okm = true := by decide +kernel
set_option maxRecDepth 100000 in
theorem mt_okp_all : ((List.range mt_m.length).drop 1).all (fun z => plainFor (mt_Nm z)) = true := by decide +kernel
