/-! the tables are right: calls, constants, grids, handlers, the private methods' selection -/
def mt_okl (o : Nat) (e : Nat × Nat × Nat × Nat × String × (Nat × Nat)) : Bool := if e.2.1 = 1 ∨ e.2.1 = 3 ∨ e.2.1 = 5 then mt_in e.2.2.2.2.2 (.methodLinkNest (mt_own o) e.1 (mt_Nm e.2.2.1) e.2.2.2.2.1) else mt_in e.2.2.2.2.2 (.methodLink (mt_own o) e.1 (mt_Nm e.2.2.1))
def mt_okd (z n : Nat) : Bool := match parseMethodDescriptor (mt_Nm z).desc with
  | some sig => Nat.beq n sig.parameters.length
  | none => true
def mt_zin (z : Nat) : Bool := Nat.blt 0 z && Nat.blt z mt_m.length
def mt_okc (o : Nat) (e : Nat × Nat × Nat × Nat × String × (Nat × Nat)) : Bool :=
  if e.2.1 ≤ 1 then mt_zin e.2.2.1 && mt_okl o e && mt_okd e.2.2.1 e.2.2.2.1 && mt_in (mt_inf e.2.2.1).2.2.2.1 (.static (mt_Nm e.2.2.1)) && mt_in (mt_inf e.2.2.1).2.2.2.2 (.initialized (mt_Nm e.2.2.1).cls)
  else if e.2.1 ≤ 3 then mt_zin e.2.2.1 && mt_okl o e && mt_okd e.2.2.1 e.2.2.2.1 && mt_in (mt_inf e.2.2.1).2.2.2.1 (.instanceMethod (mt_Nm e.2.2.1)) && mt_in (mt_inf e.2.2.1).2.2.2.2 (.selects (mt_Nm e.2.2.1).cls (mt_Nm e.2.2.1) (mt_Nm e.2.2.1)) && Nat.blt (mt_gW e.2.2.1) mt_k.length && decide (mt_cn (mt_gW e.2.2.1) = (mt_Nm e.2.2.1).cls)
  else if e.2.1 ≤ 5 then mt_zin e.2.2.1 && mt_okl o e && mt_okd e.2.2.1 e.2.2.2.1 && mt_in (mt_inf e.2.2.1).2.2.2.1 (.instanceMethod (mt_Nm e.2.2.1)) && decide ((mt_Nm e.2.2.1).name = "<init>") && mt_inC (mt_inf e.2.2.1).2.2.1 (mt_Nm e.2.2.1) (mt_Cd e.2.2.1) (mt_inf e.2.2.1).1 none
  else if e.2.1 = 7 then mt_in e.2.2.2.2.2 (.methodLink (mt_own o) e.1 arraycopyName)
  else if e.2.1 = 9 then mt_in e.2.2.2.2.2 (.methodLink (mt_own o) e.1 Lib.objectInit)
  else if e.2.1 = 10 then mt_in e.2.2.2.2.2 (.methodLink (mt_own o) e.1 st_y6)
  else if e.2.1 = 11 then mt_in e.2.2.2.2.2 (.methodLink (mt_own o) e.1 st_y4)
  else true
def mt_stayb : Jvm.Cond → Bool
  | .arrayClass _ => true
  | .arrayOver (.object _) => true
  | .arrayOver (.array _) => true
  | .declares _ => true
  | .castable _ _ => true
  | w => w.onTables && w.keepsH
def mt_ok8 (o : Nat) (e : Nat × Nat × Nat × Nat × String × (Nat × Nat)) : Bool := !(Nat.beq e.2.1 8) || (Bundle.ownAtoms (mt_own o) e.1 mv_ISE mv_up).all (fun w => (mt_mem w && mt_stayb w) || decide (w ∈ mt_Us))
set_option maxRecDepth 100000 in
theorem mt_ok8_all : mt_all mt_C mt_ok8 = true := by decide +kernel
def mt_seg {α : Type} (l : List α) (i : Nat) : List α := (l.drop (40 * i)).take 40
theorem mt_seg_of {α : Type} {l : List α} {p : α → Bool} {k : Nat} (hl : l.length ≤ 40 * k) (h : ∀ i, i < k → (mt_seg l i).all p = true) : l.all p = true := by
  refine List.all_eq_true.mpr fun e he => ?_
  obtain ⟨j, hj⟩ := List.mem_iff_getElem?.mp he
  have hlt : j < l.length := (List.getElem?_eq_some_iff.mp hj).1
  refine List.all_eq_true.mp (h (j / 40) (by omega)) e (List.mem_of_getElem? (i := j % 40) ?_)
  unfold mt_seg
  rw [List.getElem?_take, if_pos (by omega), List.getElem?_drop, show 40 * (j / 40) + j % 40 = j by omega]
  exact hj
set_option maxRecDepth 100000 in
theorem mt_sg_0_0 : (mt_seg (mt_C.getD 0 []) 0).all (mt_okc 0) = true := by decide +kernel
set_option maxRecDepth 100000 in
theorem mt_sg_0_1 : (mt_seg (mt_C.getD 0 []) 1).all (mt_okc 0) = true := by decide +kernel
set_option maxRecDepth 100000 in
theorem mt_sg_1_0 : (mt_seg (mt_C.getD 1 []) 0).all (mt_okc 1) = true := by decide +kernel
set_option maxRecDepth 100000 in
theorem mt_sg_1_1 : (mt_seg (mt_C.getD 1 []) 1).all (mt_okc 1) = true := by decide +kernel
set_option maxRecDepth 100000 in
theorem mt_sg_2_0 : (mt_seg (mt_C.getD 2 []) 0).all (mt_okc 2) = true := by decide +kernel
set_option maxRecDepth 100000 in
theorem mt_sg_2_1 : (mt_seg (mt_C.getD 2 []) 1).all (mt_okc 2) = true := by decide +kernel
set_option maxRecDepth 100000 in
theorem mt_sg_3_0 : (mt_seg (mt_C.getD 3 []) 0).all (mt_okc 3) = true := by decide +kernel
set_option maxRecDepth 100000 in
theorem mt_sg_3_1 : (mt_seg (mt_C.getD 3 []) 1).all (mt_okc 3) = true := by decide +kernel
set_option maxRecDepth 100000 in
theorem mt_sg_4_0 : (mt_seg (mt_C.getD 4 []) 0).all (mt_okc 4) = true := by decide +kernel
set_option maxRecDepth 100000 in
theorem mt_sg_5_0 : (mt_seg (mt_C.getD 5 []) 0).all (mt_okc 5) = true := by decide +kernel
set_option maxRecDepth 100000 in
theorem mt_sg_6_0 : (mt_seg (mt_C.getD 6 []) 0).all (mt_okc 6) = true := by decide +kernel
set_option maxRecDepth 100000 in
theorem mt_sg_6_1 : (mt_seg (mt_C.getD 6 []) 1).all (mt_okc 6) = true := by decide +kernel
set_option maxRecDepth 100000 in
theorem mt_sg_6_2 : (mt_seg (mt_C.getD 6 []) 2).all (mt_okc 6) = true := by decide +kernel
set_option maxRecDepth 100000 in
theorem mt_sg_7_0 : (mt_seg (mt_C.getD 7 []) 0).all (mt_okc 7) = true := by decide +kernel
set_option maxRecDepth 100000 in
theorem mt_sg_8_0 : (mt_seg (mt_C.getD 8 []) 0).all (mt_okc 8) = true := by decide +kernel
set_option maxRecDepth 100000 in
theorem mt_sg_9_0 : (mt_seg (mt_C.getD 9 []) 0).all (mt_okc 9) = true := by decide +kernel
set_option maxRecDepth 100000 in
theorem mt_sg_10_0 : (mt_seg (mt_C.getD 10 []) 0).all (mt_okc 10) = true := by decide +kernel
set_option maxRecDepth 100000 in
theorem mt_sg_12_0 : (mt_seg (mt_C.getD 12 []) 0).all (mt_okc 12) = true := by decide +kernel
set_option maxRecDepth 100000 in
theorem mt_sg_13_0 : (mt_seg (mt_C.getD 13 []) 0).all (mt_okc 13) = true := by decide +kernel
set_option maxRecDepth 100000 in
theorem mt_sg_14_0 : (mt_seg (mt_C.getD 14 []) 0).all (mt_okc 14) = true := by decide +kernel
set_option maxRecDepth 100000 in
theorem mt_sg_15_0 : (mt_seg (mt_C.getD 15 []) 0).all (mt_okc 15) = true := by decide +kernel
set_option maxRecDepth 100000 in
theorem mt_sg_15_1 : (mt_seg (mt_C.getD 15 []) 1).all (mt_okc 15) = true := by decide +kernel
set_option maxRecDepth 100000 in
theorem mt_sg_15_2 : (mt_seg (mt_C.getD 15 []) 2).all (mt_okc 15) = true := by decide +kernel
set_option maxRecDepth 100000 in
theorem mt_sg_15_3 : (mt_seg (mt_C.getD 15 []) 3).all (mt_okc 15) = true := by decide +kernel
set_option maxRecDepth 100000 in
theorem mt_sg_16_0 : (mt_seg (mt_C.getD 16 []) 0).all (mt_okc 16) = true := by decide +kernel
set_option maxRecDepth 100000 in
theorem mt_sg_16_1 : (mt_seg (mt_C.getD 16 []) 1).all (mt_okc 16) = true := by decide +kernel
set_option maxRecDepth 100000 in
theorem mt_sg_17_0 : (mt_seg (mt_C.getD 17 []) 0).all (mt_okc 17) = true := by decide +kernel
theorem mt_sg_0 : (mt_C.getD 0 []).all (mt_okc 0) = true := mt_seg_of (k := 2) (by decide +kernel) fun i hi => match i, hi with
  | 0, _ => mt_sg_0_0
  | 1, _ => mt_sg_0_1
  | n + 2, h => absurd h (by omega)
theorem mt_sg_1 : (mt_C.getD 1 []).all (mt_okc 1) = true := mt_seg_of (k := 2) (by decide +kernel) fun i hi => match i, hi with
  | 0, _ => mt_sg_1_0
  | 1, _ => mt_sg_1_1
  | n + 2, h => absurd h (by omega)
theorem mt_sg_2 : (mt_C.getD 2 []).all (mt_okc 2) = true := mt_seg_of (k := 2) (by decide +kernel) fun i hi => match i, hi with
  | 0, _ => mt_sg_2_0
  | 1, _ => mt_sg_2_1
  | n + 2, h => absurd h (by omega)
theorem mt_sg_3 : (mt_C.getD 3 []).all (mt_okc 3) = true := mt_seg_of (k := 2) (by decide +kernel) fun i hi => match i, hi with
  | 0, _ => mt_sg_3_0
  | 1, _ => mt_sg_3_1
  | n + 2, h => absurd h (by omega)
theorem mt_sg_4 : (mt_C.getD 4 []).all (mt_okc 4) = true := mt_seg_of (k := 1) (by decide +kernel) fun i hi => match i, hi with
  | 0, _ => mt_sg_4_0
  | n + 1, h => absurd h (by omega)
theorem mt_sg_5 : (mt_C.getD 5 []).all (mt_okc 5) = true := mt_seg_of (k := 1) (by decide +kernel) fun i hi => match i, hi with
  | 0, _ => mt_sg_5_0
  | n + 1, h => absurd h (by omega)
theorem mt_sg_6 : (mt_C.getD 6 []).all (mt_okc 6) = true := mt_seg_of (k := 3) (by decide +kernel) fun i hi => match i, hi with
  | 0, _ => mt_sg_6_0
  | 1, _ => mt_sg_6_1
  | 2, _ => mt_sg_6_2
  | n + 3, h => absurd h (by omega)
theorem mt_sg_7 : (mt_C.getD 7 []).all (mt_okc 7) = true := mt_seg_of (k := 1) (by decide +kernel) fun i hi => match i, hi with
  | 0, _ => mt_sg_7_0
  | n + 1, h => absurd h (by omega)
theorem mt_sg_8 : (mt_C.getD 8 []).all (mt_okc 8) = true := mt_seg_of (k := 1) (by decide +kernel) fun i hi => match i, hi with
  | 0, _ => mt_sg_8_0
  | n + 1, h => absurd h (by omega)
theorem mt_sg_9 : (mt_C.getD 9 []).all (mt_okc 9) = true := mt_seg_of (k := 1) (by decide +kernel) fun i hi => match i, hi with
  | 0, _ => mt_sg_9_0
  | n + 1, h => absurd h (by omega)
theorem mt_sg_10 : (mt_C.getD 10 []).all (mt_okc 10) = true := mt_seg_of (k := 1) (by decide +kernel) fun i hi => match i, hi with
  | 0, _ => mt_sg_10_0
  | n + 1, h => absurd h (by omega)
theorem mt_sg_11 : (mt_C.getD 11 []).all (mt_okc 11) = true := by decide +kernel
theorem mt_sg_12 : (mt_C.getD 12 []).all (mt_okc 12) = true := mt_seg_of (k := 1) (by decide +kernel) fun i hi => match i, hi with
  | 0, _ => mt_sg_12_0
  | n + 1, h => absurd h (by omega)
theorem mt_sg_13 : (mt_C.getD 13 []).all (mt_okc 13) = true := mt_seg_of (k := 1) (by decide +kernel) fun i hi => match i, hi with
  | 0, _ => mt_sg_13_0
  | n + 1, h => absurd h (by omega)
theorem mt_sg_14 : (mt_C.getD 14 []).all (mt_okc 14) = true := mt_seg_of (k := 1) (by decide +kernel) fun i hi => match i, hi with
  | 0, _ => mt_sg_14_0
  | n + 1, h => absurd h (by omega)
theorem mt_sg_15 : (mt_C.getD 15 []).all (mt_okc 15) = true := mt_seg_of (k := 4) (by decide +kernel) fun i hi => match i, hi with
  | 0, _ => mt_sg_15_0
  | 1, _ => mt_sg_15_1
  | 2, _ => mt_sg_15_2
  | 3, _ => mt_sg_15_3
  | n + 4, h => absurd h (by omega)
theorem mt_sg_16 : (mt_C.getD 16 []).all (mt_okc 16) = true := mt_seg_of (k := 2) (by decide +kernel) fun i hi => match i, hi with
  | 0, _ => mt_sg_16_0
  | 1, _ => mt_sg_16_1
  | n + 2, h => absurd h (by omega)
theorem mt_sg_17 : (mt_C.getD 17 []).all (mt_okc 17) = true := mt_seg_of (k := 1) (by decide +kernel) fun i hi => match i, hi with
  | 0, _ => mt_sg_17_0
  | n + 1, h => absurd h (by omega)
theorem mt_okc_all : mt_all mt_C mt_okc = true := List.all_eq_true.mpr fun o ho => match o, ho with
  | 0, _ => mt_sg_0
  | 1, _ => mt_sg_1
  | 2, _ => mt_sg_2
  | 3, _ => mt_sg_3
  | 4, _ => mt_sg_4
  | 5, _ => mt_sg_5
  | 6, _ => mt_sg_6
  | 7, _ => mt_sg_7
  | 8, _ => mt_sg_8
  | 9, _ => mt_sg_9
  | 10, _ => mt_sg_10
  | 11, _ => mt_sg_11
  | 12, _ => mt_sg_12
  | 13, _ => mt_sg_13
  | 14, _ => mt_sg_14
  | 15, _ => mt_sg_15
  | 16, _ => mt_sg_16
  | 17, _ => mt_sg_17
  | n + 18, h => absurd (List.mem_range.mp h) (by rw [show mt_C.length = 18 by decide +kernel]; omega)
set_option maxRecDepth 100000 in
theorem mt_okc_79 : (mt_mem (.native arraycopyName) && mt_mem (.static arraycopyName) && mt_mem (.initialized "java/lang/System") && mt_mem (.instanceMethod Lib.objectInit)) = true := by decide +kernel
theorem mt_objc : Cond.code Lib.objectInit ⟨#[0xb1]⟩ 1 none ∈ mt_Ts := List.mem_append.mpr (Or.inr (List.mem_of_getElem? (i := 34) rfl))
def mt_okv (q : Nat × Nat × (Nat × Nat) × (Nat × Nat) × (Nat × Nat)) : Bool := decide ((mt_ch q.2.2.1.1)[q.2.2.1.2]? = some (.instantiable (mt_Nm q.1).cls q.2.1)) && decide ((mt_ch q.2.2.2.1.1)[q.2.2.2.1.2]? = some (.privateMethod (mt_Nm q.1))) && decide ((mt_ch q.2.2.2.2.1)[q.2.2.2.2.2]? = some (.instanceMethod (mt_Nm q.1))) && Nat.blt q.2.2.1.1 16 && Nat.blt q.2.2.2.1.1 16 && Nat.blt q.2.2.2.2.1 16 && mt_zin q.1
set_option maxRecDepth 100000 in
theorem mt_okv_all : mt_v.all mt_okv = true := by decide +kernel
def mt_is (t : Nat) (ty : FieldType) : Bool := decide (mt_L[t]? = some ty)
def mt_okr (o : Nat) (e : Nat × Nat × Nat × Nat × (Nat × Nat) × (Nat × Nat) × (Nat × Nat)) (ty : FieldType) : Bool :=
  if e.2.2.2.1 = 0 then mt_is e.2.1 (.array ty) && mt_is e.2.2.1 ty && mt_in e.2.2.2.2.2.1 (.arrayOver (.array ty)) && mt_in e.2.2.2.2.1 (.classLink (mt_own o) e.1 ("[" ++ (FieldType.array ty).toString))
  else mt_is e.2.1 (.array (.array ty)) && mt_is e.2.2.1 (.array ty) && mt_is e.2.2.2.1 ty && mt_in e.2.2.2.2.2.1 (.arrayOver (.array (.array ty))) && mt_in e.2.2.2.2.2.2 (.arrayOver (.array ty)) && mt_in e.2.2.2.2.1 (.classLink (mt_own o) e.1 ("[" ++ (FieldType.array (.array ty)).toString))
set_option maxRecDepth 100000 in
theorem mt_okr_all : mt_all mt_M (fun o e => mt_okr o e .int || mt_okr o e .byte) = true := by decide +kernel
set_option maxRecDepth 100000 in
theorem mt_okac : (mt_in mt_ac.1 (.arrayClass .int) && mt_in mt_ac.2.1 (.arrayClass .byte) && mt_in mt_ac.2.2 (.arrayClass .boolean) && mt_is 0 .int && mt_is 1 .byte && mt_is 2 .boolean) = true := by decide +kernel
def mt_okh (e : Nat × List (Nat × Nat × Nat × Nat)) : Bool := e.2.all fun h => Nat.blt 0 h.2.2.2 && mt_mem (.classLink (mt_Nm e.1).cls h.2.2.2 mv_ISE)
set_option maxRecDepth 100000 in
theorem mt_okh_all : mt_h.all mt_okh = true := by decide +kernel
set_option maxRecDepth 100000 in
theorem mt_okX : (Nat.blt mt_X mt_k.length && decide (mt_cn mt_X = mv_ISE) && Nat.beq (mt_fl mt_X).length 0) = true := by decide +kernel
set_option maxRecDepth 100000 in
theorem mt_okE_all : mt_E.all (fun e => Nat.blt e.2 mt_k.length && mt_is e.1 (.object (mt_cn e.2))) = true := by decide +kernel
/-- texts: the words of String.length and String.charAt -/
def mt_v6 : List Jvm.Cond := ([.instanceMethod st_y6, .selects st_C st_y6 st_y6, .initialized st_C] : List Jvm.Cond) ++ st_w6
def mt_v4 : List Jvm.Cond := ([.instanceMethod st_y4, .selects st_C st_y4 st_y4, .initialized st_C] : List Jvm.Cond) ++ st_w4
set_option maxRecDepth 100000 in
theorem mt_v6_in : GoodIn tables_1 mt_v6 := goodIn_p _ [1758, 1762] rfl (by decide +kernel)
set_option maxRecDepth 100000 in
theorem mt_v4_in : GoodIn tables_1 mt_v4 := goodIn_p _ [644, 648, 653, 656, 661] rfl (by decide +kernel)
theorem mt_v64 : (mt_v6.all mt_stayb && mt_v4.all mt_stayb) = true := by decide +kernel
set_option maxRecDepth 100000 in
theorem mt_okB_all : mt_B.all (fun e => mt_is e.1 (.array (mt_L.getD e.2 .int)) && Nat.blt e.2 mt_L.length && (decide (mt_L.getD e.2 .int = .byte) || decide (mt_L.getD e.2 .int = .array .byte)) && mt_mem (.arrayOver (.array (mt_L.getD e.2 .int)))) = true := by decide +kernel
