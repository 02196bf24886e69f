/-! the tables as the small machine takes them -/
def mt_Nm (y : Nat) : MethodName := match mt_m[y]? with
  | some q => ⟨mt_own q.1, q.2.1, q.2.2⟩
  | none => ⟨"", "", ""⟩
def mt_Cd (y : Nat) : ByteArray := mt_c.getD y ⟨#[]⟩
def mt_pv : List (MethodName × Nat) := mt_v.map fun q => (mt_Nm q.1, q.2.1)
def mt_Ts : List Jvm.Cond := k2_sels mt_pv ++ tables_1
def mt_Us : List Jvm.Cond := [.laysStatic Bundle.tN "UNASSIGNED_STACK" Bundle.steD, .laysStatic Bundle.tN "SUPPRESSED_SENTINEL" Bundle.listD, .isRef (.static Bundle.tN "UNASSIGNED_STACK" Bundle.steD), .isRef (.static Bundle.tN "SUPPRESSED_SENTINEL" Bundle.listD)]
def mt_ch : Nat → List Jvm.Cond
  | 0 => tables_1_1
  | 1 => tables_1_2
  | 2 => tables_1_3
  | 3 => tables_1_4
  | 4 => tables_1_5
  | 5 => tables_1_6
  | 6 => tables_1_7
  | 7 => tables_1_8
  | 8 => tables_1_9
  | 9 => tables_1_10
  | 10 => tables_1_11
  | 11 => tables_1_12
  | 12 => tables_1_13
  | 13 => tables_1_14
  | 14 => tables_1_15
  | 15 => tables_1_16
  | 16 => k2_sels mt_pv
  | _ => []
def mt_in (q : Nat × Nat) (w : Jvm.Cond) : Bool := decide ((mt_ch q.1)[q.2]? = some w)
theorem mt_in_mem {q : Nat × Nat} {w : Jvm.Cond} (h : mt_in q w = true) : w ∈ mt_Ts := by
  have h1 : w ∈ mt_ch q.1 := List.mem_of_getElem? (of_decide_eq_true h)
  have h2 : w ∈ mt_ch q.1 → w ∈ mt_Ts := by
    unfold mt_ch mt_Ts tables_1
    split <;> intro h <;> first | (exact absurd h List.not_mem_nil) | simp only [List.mem_append, h, true_or, or_true]
  exact h2 h1
def mt_fl (ci : Nat) : List (Nat × String × String × Bool × (Nat × Nat)) := match mt_k[ci]? with
  | some q => q.2.2.1
  | none => []
def mt_T (ci : Nat) : u_T := fun k => match (mt_fl ci)[k]? with
  | some f => (mt_own f.1, f.2.1, f.2.2.1, f.2.2.2.1)
  | none => ("", "", "", false)
def mt_cn (ci : Nat) : String := match mt_k[ci]? with
  | some q => mt_own q.1
  | none => ""
def mt_cl : List vw_C := (List.range mt_k.length).map fun ci => (mt_cn ci, mt_T ci, (mt_fl ci).length)
theorem mt_cl_at {ci : Nat} (h : ci < mt_k.length) : mt_cl[ci]? = some (mt_cn ci, mt_T ci, (mt_fl ci).length) := by
  unfold mt_cl
  rw [List.getElem?_map, List.getElem?_range h]
  rfl
theorem mt_cl_of {ci : Nat} {r : vw_C} (h : mt_cl[ci]? = some r) : ci < mt_k.length ∧ r = (mt_cn ci, mt_T ci, (mt_fl ci).length) := by
  have h1 : ci < mt_cl.length := (List.getElem?_eq_some_iff.mp h).1
  have h2 : ci < mt_k.length := by simpa [mt_cl] using h1
  rw [mt_cl_at h2] at h
  exact ⟨h2, (Option.some.inj h).symm⟩
def mt_oc (y : Nat) : Nat := match mt_m[y]? with
  | some q => q.1
  | none => 99
def mt_pick {α : Type} (l : List (List (Nat × α))) (y idx : Nat) : Option α := ((l.getD (mt_oc y) []).find? (fun e => Nat.beq e.1 idx)).map (fun e => e.2)
theorem mt_pick_of {α : Type} {l : List (List (Nat × α))} {y idx : Nat} {r : α} (h : mt_pick l y idx = some r) : (idx, r) ∈ l.getD (mt_oc y) [] := by
  unfold mt_pick at h
  rw [Option.map_eq_some_iff] at h
  obtain ⟨e, h1, h2⟩ := h
  have h3 := List.mem_of_find?_eq_some h1
  have h4 := List.find?_some h1
  have h5 : e.1 = idx := Nat.eq_of_beq_eq_true h4
  obtain ⟨a, b⟩ := e
  cases h5
  cases h2
  exact h3
def mt_gT (ci k : Nat) : Option FieldType := match (mt_fl ci)[k]? with
  | some f => parseFieldDescriptor f.2.2.1
  | none => none
def mt_inf (y : Nat) : Nat × Option FieldType × (Nat × Nat) × (Nat × Nat) × (Nat × Nat) := mt_i.getD y (0, none, (99, 0), (99, 0), (99, 0))
def mt_gH (y : Nat) : List (Nat × Nat × Nat × Nat) := match mt_h.find? (fun e => Nat.beq e.1 y) with
  | some e => e.2
  | none => []
def mt_gW (z : Nat) : Nat := (mt_k.findIdx? (fun c => Nat.beq c.1 (mt_oc z))).getD 99
def mt_gD (ci : Nat) : List Value := (mt_fl ci).map fun f => match parseFieldDescriptor f.2.2.1 with
  | some ty => defaultValue ty
  | none => .null
/-- the tables, for a script of n ints f -/
def mt_G (n : Nat) (f : Nat → Int32) : mv_G :=
  (fun y pc => match decode (mt_Cd y) pc with
    | .ok q => some q
    | .error _ => none,
   fun y idx => (mt_pick mt_F y idx).map fun e => (e.1, e.2.1),
   fun y idx => (mt_pick mt_N y idx).map fun e => e.1,
   fun y idx => (mt_pick mt_A y idx).map fun e => e.1,
   fun y idx => (mt_pick mt_C y idx).map fun e => (e.1, e.2.1, e.2.2.1),
   fun y idx => match mt_pick mt_K y idx with
    | some e => some (.int (Int32.ofInt e.1))
    | none => (mt_pick mt_U y idx).map fun e => .ref (mv_big + 1 + e.1),
   fun y => (mt_inf y).1,
   mt_gH,
   fun ci => match mt_k[ci]? with
    | some q => q.2.1
    | none => 0,
   mt_gD,
   mt_gT,
   fun ci k => match (mt_fl ci)[k]? with
    | some f => f.2.2.2.1
    | none => false,
   fun y ci => match mt_m[y]?, mt_k[ci]? with
    | some q, some c => Nat.beq q.1 c.1 && decide (q.2.1 = "<init>")
    | _, _ => false,
   fun t => mt_L[t]?,
   fun t => (mt_E.find? (fun e => Nat.beq e.1 t)).map fun e => e.2,
   fun y => (mt_inf y).2.1,
   mt_gW,
   mt_X,
   fun y idx => (mt_pick mt_M y idx).map fun e => (e.1, e.2.1, e.2.2.1),
   fun a => if a = mv_big then some (n, f) else none,
   fun a => if a ≤ mv_big then none else (mt_TX[a - (mv_big + 1)]?).map fun e => e.2.2.2,
   fun t => (mt_B.find? (fun e => Nat.beq e.1 t)).map fun e => e.2)
