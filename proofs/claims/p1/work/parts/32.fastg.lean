/-! boxes: the law; the fast tables as tables of the machine: the same functions -/
def ab_ans : Option ab_Q → Bool
  | some (.inr (some (.inl (.int v))), _) => decide (v = 1)
  | _ => false
def ab_Ls (L : Nat) : Nat → Option Nat := fun a => bif Nat.beq a mv_big then some L else none
def ab_A0 : ab_S := (0, fun i => bif Nat.beq i 0 then some (.inl (.ref mv_big)) else none, [], (0, ab_n9), 600002, 7302232)
/-- the tables, without a script -/
def ab_G0 : mv_G := mt_G 0 (fun _ => 0)
def ft_or {α : Type} (a b : Option α) : Option α := match a with
  | some x => some x
  | none => b
theorem ft_or_eq {α : Type} {a b : Option α} (h : ∀ x, a = some x → b = some x) : ft_or a b = b := by
  cases a with
  | none => rfl
  | some x => exact (h x rfl).symm
def ft_gI (y pc : Nat) : Option (Instr × Nat) := ft_or (match ft_two ft_I y with
  | some t => ft_two t pc
  | none => none) (mv_gI ab_G0 y pc)
/-- by the class of the method -/
def ft_cls {α : Type} (T : List (List (Option (List (List (Option α)))))) (y idx : Nat) : Option α := match ft_two ft_oc y with
  | some o => match ft_two T o with
    | some t => ft_two t idx
    | none => none
  | none => none
def ft_gF (y idx : Nat) : Option (Nat × Nat) := ft_or (ft_cls ft_F y idx) (mv_gF ab_G0 y idx)
def ft_gC (y idx : Nat) : Option (Nat × Nat × Nat) := ft_or (ft_cls ft_C y idx) (mv_gC ab_G0 y idx)
def ft_gL (y : Nat) : Nat := match ft_two ft_L y with
  | some n => n
  | none => mv_gL ab_G0 y
set_option maxRecDepth 100000 in
theorem ft_oc_ok : ft_all ft_oc (fun y o => Nat.beq (mt_oc y) o) = true := by decide +kernel
set_option maxRecDepth 100000 in
theorem ft_L_ok : ft_all ft_L (fun y n => Nat.beq (mt_inf y).1 n) = true := by decide +kernel
def ft_look {α : Type} (l : List (List (Nat × α))) (o idx : Nat) : Option α := ((l.getD o []).find? (fun e => Nat.beq e.1 idx)).map (fun e => e.2)
set_option maxRecDepth 100000 in
theorem ft_F_ok : ft_all ft_F (fun o t => ft_all t (fun idx q => decide ((ft_look mt_F o idx).map (fun e => (e.1, e.2.1)) = some q))) = true := by decide +kernel
set_option maxRecDepth 100000 in
theorem ft_C_ok : ft_all ft_C (fun o t => ft_all t (fun idx q => decide ((ft_look mt_C o idx).map (fun e => (e.1, e.2.1, e.2.2.1)) = some q))) = true := by decide +kernel
theorem ft_gL_eq : ft_gL = mv_gL ab_G0 := by
  funext y
  unfold ft_gL
  split
  · rename_i n hn
    exact (Nat.eq_of_beq_eq_true (ft_two_ok ft_L_ok hn)).symm
  · rfl
theorem ft_cls_ok {α : Type} {T : List (List (Option (List (List (Option α)))))} {p : Nat → Nat → α → Bool} (h : ft_all T (fun o t => ft_all t (p o)) = true) {y idx : Nat} {a : α} (ha : ft_cls T y idx = some a) : p (mt_oc y) idx a = true := by
  unfold ft_cls at ha
  split at ha
  · rename_i o ho
    split at ha
    · rename_i t ht
      have h1 := Nat.eq_of_beq_eq_true (ft_two_ok ft_oc_ok ho)
      rw [h1]
      exact ft_two_ok (ft_two_ok h ht) ha
    · cases ha
  · cases ha
theorem ft_gF_eq : ft_gF = mv_gF ab_G0 := by
  funext y idx
  exact ft_or_eq fun x hx => of_decide_eq_true (ft_cls_ok (p := fun o idx q => decide ((ft_look mt_F o idx).map (fun e => (e.1, e.2.1)) = some q)) ft_F_ok hx)
theorem ft_gC_eq : ft_gC = mv_gC ab_G0 := by
  funext y idx
  exact ft_or_eq fun x hx => of_decide_eq_true (ft_cls_ok (p := fun o idx q => decide ((ft_look mt_C o idx).map (fun e => (e.1, e.2.1, e.2.2.1)) = some q)) ft_C_ok hx)
theorem ft_I_of {y : Nat} {b : ByteArray} {t : List (List (Option (Instr × Nat)))} (h : ft_all t (ft_pD b) = true) (hb : mt_Cd y = b) {pc : Nat} {r : Instr × Nat} (hr : ft_two t pc = some r) : mv_gI ab_G0 y pc = some r := by
  have h1 := of_decide_eq_true (ft_two_ok h hr)
  show (match decode (mt_Cd y) pc with | .ok q => some q | .error _ => none) = some r
  rw [hb, h1]
def ft_P (y : Nat) : Prop := ∀ t, ft_two ft_I y = some t → ∀ pc r, ft_two t pc = some r → mv_gI ab_G0 y pc = some r
set_option maxRecDepth 100000 in
theorem ft_c0 : mt_Cd 0 = code := rfl
theorem ft_P0 : ft_P 0 := fun t ht pc r hr => ft_I_of ft_d0 ft_c0 ((Option.some.inj ((show ft_two ft_I 0 = some ft_I0 from rfl).symm.trans ht)) ▸ hr)
set_option maxRecDepth 100000 in
theorem ft_c1 : mt_Cd 1 = prog_1_method_1_code := rfl
theorem ft_P1 : ft_P 1 := fun t ht pc r hr => ft_I_of ft_d1 ft_c1 ((Option.some.inj ((show ft_two ft_I 1 = some ft_I1 from rfl).symm.trans ht)) ▸ hr)
set_option maxRecDepth 100000 in
theorem ft_c2 : mt_Cd 2 = prog_11_method_1_code := rfl
theorem ft_P2 : ft_P 2 := fun t ht pc r hr => ft_I_of ft_d2 ft_c2 ((Option.some.inj ((show ft_two ft_I 2 = some ft_I2 from rfl).symm.trans ht)) ▸ hr)
set_option maxRecDepth 100000 in
theorem ft_c3 : mt_Cd 3 = prog_8_method_1_code := rfl
theorem ft_P3 : ft_P 3 := fun t ht pc r hr => ft_I_of ft_d3 ft_c3 ((Option.some.inj ((show ft_two ft_I 3 = some ft_I3 from rfl).symm.trans ht)) ▸ hr)
set_option maxRecDepth 100000 in
theorem ft_c4 : mt_Cd 4 = prog_9_method_1_code := rfl
theorem ft_P4 : ft_P 4 := fun t ht pc r hr => ft_I_of ft_d4 ft_c4 ((Option.some.inj ((show ft_two ft_I 4 = some ft_I4 from rfl).symm.trans ht)) ▸ hr)
set_option maxRecDepth 100000 in
theorem ft_c5 : mt_Cd 5 = prog_4_method_1_code := rfl
theorem ft_P5 : ft_P 5 := fun t ht pc r hr => ft_I_of ft_d5 ft_c5 ((Option.some.inj ((show ft_two ft_I 5 = some ft_I5 from rfl).symm.trans ht)) ▸ hr)
set_option maxRecDepth 100000 in
theorem ft_c6 : mt_Cd 6 = prog_2_method_1_code := rfl
theorem ft_P6 : ft_P 6 := fun t ht pc r hr => ft_I_of ft_d6 ft_c6 ((Option.some.inj ((show ft_two ft_I 6 = some ft_I6 from rfl).symm.trans ht)) ▸ hr)
set_option maxRecDepth 100000 in
theorem ft_c7 : mt_Cd 7 = prog_6_method_1_code := rfl
theorem ft_P7 : ft_P 7 := fun t ht pc r hr => ft_I_of ft_d7 ft_c7 ((Option.some.inj ((show ft_two ft_I 7 = some ft_I7 from rfl).symm.trans ht)) ▸ hr)
set_option maxRecDepth 100000 in
theorem ft_c8 : mt_Cd 8 = prog_10_method_1_code := rfl
theorem ft_P8 : ft_P 8 := fun t ht pc r hr => ft_I_of ft_d8 ft_c8 ((Option.some.inj ((show ft_two ft_I 8 = some ft_I8 from rfl).symm.trans ht)) ▸ hr)
set_option maxRecDepth 100000 in
theorem ft_c9 : mt_Cd 9 = prog_7_method_1_code := rfl
theorem ft_P9 : ft_P 9 := fun t ht pc r hr => ft_I_of ft_d9 ft_c9 ((Option.some.inj ((show ft_two ft_I 9 = some ft_I9 from rfl).symm.trans ht)) ▸ hr)
set_option maxRecDepth 100000 in
theorem ft_c10 : mt_Cd 10 = prog_1_method_2_code := rfl
theorem ft_P10 : ft_P 10 := fun t ht pc r hr => ft_I_of ft_d10 ft_c10 ((Option.some.inj ((show ft_two ft_I 10 = some ft_I10 from rfl).symm.trans ht)) ▸ hr)
set_option maxRecDepth 100000 in
theorem ft_c11 : mt_Cd 11 = prog_1_method_3_code := rfl
theorem ft_P11 : ft_P 11 := fun t ht pc r hr => ft_I_of ft_d11 ft_c11 ((Option.some.inj ((show ft_two ft_I 11 = some ft_I11 from rfl).symm.trans ht)) ▸ hr)
set_option maxRecDepth 100000 in
theorem ft_c12 : mt_Cd 12 = prog_1_method_4_code := rfl
theorem ft_P12 : ft_P 12 := fun t ht pc r hr => ft_I_of ft_d12 ft_c12 ((Option.some.inj ((show ft_two ft_I 12 = some ft_I12 from rfl).symm.trans ht)) ▸ hr)
set_option maxRecDepth 100000 in
theorem ft_c13 : mt_Cd 13 = prog_1_method_5_code := rfl
theorem ft_P13 : ft_P 13 := fun t ht pc r hr => ft_I_of ft_d13 ft_c13 ((Option.some.inj ((show ft_two ft_I 13 = some ft_I13 from rfl).symm.trans ht)) ▸ hr)
set_option maxRecDepth 100000 in
theorem ft_c14 : mt_Cd 14 = prog_10_method_3_code := rfl
theorem ft_P14 : ft_P 14 := fun t ht pc r hr => ft_I_of ft_d14 ft_c14 ((Option.some.inj ((show ft_two ft_I 14 = some ft_I14 from rfl).symm.trans ht)) ▸ hr)
set_option maxRecDepth 100000 in
theorem ft_c15 : mt_Cd 15 = prog_10_method_9_code := rfl
theorem ft_P15 : ft_P 15 := fun t ht pc r hr => ft_I_of ft_d15 ft_c15 ((Option.some.inj ((show ft_two ft_I 15 = some ft_I15 from rfl).symm.trans ht)) ▸ hr)
set_option maxRecDepth 100000 in
theorem ft_c16 : mt_Cd 16 = prog_11_method_3_code := rfl
theorem ft_P16 : ft_P 16 := fun t ht pc r hr => ft_I_of ft_d16 ft_c16 ((Option.some.inj ((show ft_two ft_I 16 = some ft_I16 from rfl).symm.trans ht)) ▸ hr)
set_option maxRecDepth 100000 in
theorem ft_c17 : mt_Cd 17 = prog_11_method_2_code := rfl
theorem ft_P17 : ft_P 17 := fun t ht pc r hr => ft_I_of ft_d17 ft_c17 ((Option.some.inj ((show ft_two ft_I 17 = some ft_I17 from rfl).symm.trans ht)) ▸ hr)
set_option maxRecDepth 100000 in
theorem ft_c18 : mt_Cd 18 = prog_10_method_2_code := rfl
theorem ft_P18 : ft_P 18 := fun t ht pc r hr => ft_I_of ft_d18 ft_c18 ((Option.some.inj ((show ft_two ft_I 18 = some ft_I18 from rfl).symm.trans ht)) ▸ hr)
set_option maxRecDepth 100000 in
theorem ft_c19 : mt_Cd 19 = prog_26_method_103_code := rfl
theorem ft_P19 : ft_P 19 := fun t ht pc r hr => ft_I_of ft_d19 ft_c19 ((Option.some.inj ((show ft_two ft_I 19 = some ft_I19 from rfl).symm.trans ht)) ▸ hr)
set_option maxRecDepth 100000 in
theorem ft_c20 : mt_Cd 20 = prog_11_method_5_code := rfl
theorem ft_P20 : ft_P 20 := fun t ht pc r hr => ft_I_of ft_d20 ft_c20 ((Option.some.inj ((show ft_two ft_I 20 = some ft_I20 from rfl).symm.trans ht)) ▸ hr)
set_option maxRecDepth 100000 in
theorem ft_c21 : mt_Cd 21 = prog_11_method_6_code := rfl
theorem ft_P21 : ft_P 21 := fun t ht pc r hr => ft_I_of ft_d21 ft_c21 ((Option.some.inj ((show ft_two ft_I 21 = some ft_I21 from rfl).symm.trans ht)) ▸ hr)
set_option maxRecDepth 100000 in
theorem ft_c22 : mt_Cd 22 = prog_19_method_69_code := rfl
theorem ft_P22 : ft_P 22 := fun t ht pc r hr => ft_I_of ft_d22 ft_c22 ((Option.some.inj ((show ft_two ft_I 22 = some ft_I22 from rfl).symm.trans ht)) ▸ hr)
set_option maxRecDepth 100000 in
theorem ft_c23 : mt_Cd 23 = prog_11_method_7_code := rfl
theorem ft_P23 : ft_P 23 := fun t ht pc r hr => ft_I_of ft_d23 ft_c23 ((Option.some.inj ((show ft_two ft_I 23 = some ft_I23 from rfl).symm.trans ht)) ▸ hr)
set_option maxRecDepth 100000 in
theorem ft_c34 : mt_Cd 34 = prog_11_method_12_code := rfl
theorem ft_P34 : ft_P 34 := fun t ht pc r hr => ft_I_of ft_d34 ft_c34 ((Option.some.inj ((show ft_two ft_I 34 = some ft_I34 from rfl).symm.trans ht)) ▸ hr)
set_option maxRecDepth 100000 in
theorem ft_c36 : mt_Cd 36 = prog_11_method_14_code := rfl
theorem ft_P36 : ft_P 36 := fun t ht pc r hr => ft_I_of ft_d36 ft_c36 ((Option.some.inj ((show ft_two ft_I 36 = some ft_I36 from rfl).symm.trans ht)) ▸ hr)
set_option maxRecDepth 100000 in
theorem ft_c37 : mt_Cd 37 = prog_11_method_13_code := rfl
theorem ft_P37 : ft_P 37 := fun t ht pc r hr => ft_I_of ft_d37 ft_c37 ((Option.some.inj ((show ft_two ft_I 37 = some ft_I37 from rfl).symm.trans ht)) ▸ hr)
set_option maxRecDepth 100000 in
theorem ft_c52 : mt_Cd 52 = prog_11_method_28_code := rfl
theorem ft_P52 : ft_P 52 := fun t ht pc r hr => ft_I_of ft_d52 ft_c52 ((Option.some.inj ((show ft_two ft_I 52 = some ft_I52 from rfl).symm.trans ht)) ▸ hr)
set_option maxRecDepth 100000 in
theorem ft_c53 : mt_Cd 53 = prog_11_method_31_code := rfl
theorem ft_P53 : ft_P 53 := fun t ht pc r hr => ft_I_of ft_d53 ft_c53 ((Option.some.inj ((show ft_two ft_I 53 = some ft_I53 from rfl).symm.trans ht)) ▸ hr)
set_option maxRecDepth 100000 in
theorem ft_c54 : mt_Cd 54 = prog_11_method_32_code := rfl
theorem ft_P54 : ft_P 54 := fun t ht pc r hr => ft_I_of ft_d54 ft_c54 ((Option.some.inj ((show ft_two ft_I 54 = some ft_I54 from rfl).symm.trans ht)) ▸ hr)
set_option maxRecDepth 100000 in
theorem ft_c55 : mt_Cd 55 = prog_11_method_33_code := rfl
theorem ft_P55 : ft_P 55 := fun t ht pc r hr => ft_I_of ft_d55 ft_c55 ((Option.some.inj ((show ft_two ft_I 55 = some ft_I55 from rfl).symm.trans ht)) ▸ hr)
set_option maxRecDepth 100000 in
theorem ft_c61 : mt_Cd 61 = prog_11_method_27_code := rfl
theorem ft_P61 : ft_P 61 := fun t ht pc r hr => ft_I_of ft_d61 ft_c61 ((Option.some.inj ((show ft_two ft_I 61 = some ft_I61 from rfl).symm.trans ht)) ▸ hr)
set_option maxRecDepth 100000 in
theorem ft_c62 : mt_Cd 62 = prog_11_method_29_code := rfl
theorem ft_P62 : ft_P 62 := fun t ht pc r hr => ft_I_of ft_d62 ft_c62 ((Option.some.inj ((show ft_two ft_I 62 = some ft_I62 from rfl).symm.trans ht)) ▸ hr)
set_option maxRecDepth 100000 in
theorem ft_c65 : mt_Cd 65 = prog_1_method_6_code := rfl
theorem ft_P65 : ft_P 65 := fun t ht pc r hr => ft_I_of ft_d65 ft_c65 ((Option.some.inj ((show ft_two ft_I 65 = some ft_I65 from rfl).symm.trans ht)) ▸ hr)
set_option maxRecDepth 100000 in
theorem ft_c66 : mt_Cd 66 = prog_6_method_2_code := rfl
theorem ft_P66 : ft_P 66 := fun t ht pc r hr => ft_I_of ft_d66 ft_c66 ((Option.some.inj ((show ft_two ft_I 66 = some ft_I66 from rfl).symm.trans ht)) ▸ hr)
set_option maxRecDepth 100000 in
theorem ft_c67 : mt_Cd 67 = prog_7_method_2_code := rfl
theorem ft_P67 : ft_P 67 := fun t ht pc r hr => ft_I_of ft_d67 ft_c67 ((Option.some.inj ((show ft_two ft_I 67 = some ft_I67 from rfl).symm.trans ht)) ▸ hr)
set_option maxRecDepth 100000 in
theorem ft_c68 : mt_Cd 68 = prog_10_method_8_code := rfl
theorem ft_P68 : ft_P 68 := fun t ht pc r hr => ft_I_of ft_d68 ft_c68 ((Option.some.inj ((show ft_two ft_I 68 = some ft_I68 from rfl).symm.trans ht)) ▸ hr)
set_option maxRecDepth 100000 in
theorem ft_c69 : mt_Cd 69 = prog_1_method_7_code := rfl
theorem ft_P69 : ft_P 69 := fun t ht pc r hr => ft_I_of ft_d69 ft_c69 ((Option.some.inj ((show ft_two ft_I 69 = some ft_I69 from rfl).symm.trans ht)) ▸ hr)
set_option maxRecDepth 100000 in
theorem ft_c70 : mt_Cd 70 = prog_1_method_8_code := rfl
theorem ft_P70 : ft_P 70 := fun t ht pc r hr => ft_I_of ft_d70 ft_c70 ((Option.some.inj ((show ft_two ft_I 70 = some ft_I70 from rfl).symm.trans ht)) ▸ hr)
set_option maxRecDepth 100000 in
theorem ft_c71 : mt_Cd 71 = prog_1_method_9_code := rfl
theorem ft_P71 : ft_P 71 := fun t ht pc r hr => ft_I_of ft_d71 ft_c71 ((Option.some.inj ((show ft_two ft_I 71 = some ft_I71 from rfl).symm.trans ht)) ▸ hr)
set_option maxRecDepth 100000 in
theorem ft_c72 : mt_Cd 72 = prog_1_method_10_code := rfl
theorem ft_P72 : ft_P 72 := fun t ht pc r hr => ft_I_of ft_d72 ft_c72 ((Option.some.inj ((show ft_two ft_I 72 = some ft_I72 from rfl).symm.trans ht)) ▸ hr)
set_option maxRecDepth 100000 in
theorem ft_c73 : mt_Cd 73 = prog_10_method_7_code := rfl
theorem ft_P73 : ft_P 73 := fun t ht pc r hr => ft_I_of ft_d73 ft_c73 ((Option.some.inj ((show ft_two ft_I 73 = some ft_I73 from rfl).symm.trans ht)) ▸ hr)
set_option maxRecDepth 100000 in
theorem ft_c75 : mt_Cd 75 = prog_1_method_12_code := rfl
theorem ft_P75 : ft_P 75 := fun t ht pc r hr => ft_I_of ft_d75 ft_c75 ((Option.some.inj ((show ft_two ft_I 75 = some ft_I75 from rfl).symm.trans ht)) ▸ hr)
set_option maxRecDepth 100000 in
theorem ft_c76 : mt_Cd 76 = prog_1_method_13_code := rfl
theorem ft_P76 : ft_P 76 := fun t ht pc r hr => ft_I_of ft_d76 ft_c76 ((Option.some.inj ((show ft_two ft_I 76 = some ft_I76 from rfl).symm.trans ht)) ▸ hr)
set_option maxRecDepth 100000 in
theorem ft_c77 : mt_Cd 77 = prog_8_method_2_code := rfl
theorem ft_P77 : ft_P 77 := fun t ht pc r hr => ft_I_of ft_d77 ft_c77 ((Option.some.inj ((show ft_two ft_I 77 = some ft_I77 from rfl).symm.trans ht)) ▸ hr)
set_option maxRecDepth 100000 in
theorem ft_c78 : mt_Cd 78 = prog_8_method_6_code := rfl
theorem ft_P78 : ft_P 78 := fun t ht pc r hr => ft_I_of ft_d78 ft_c78 ((Option.some.inj ((show ft_two ft_I 78 = some ft_I78 from rfl).symm.trans ht)) ▸ hr)
set_option maxRecDepth 100000 in
theorem ft_c82 : mt_Cd 82 = prog_8_method_7_code := rfl
theorem ft_P82 : ft_P 82 := fun t ht pc r hr => ft_I_of ft_d82 ft_c82 ((Option.some.inj ((show ft_two ft_I 82 = some ft_I82 from rfl).symm.trans ht)) ▸ hr)
set_option maxRecDepth 100000 in
theorem ft_c84 : mt_Cd 84 = prog_8_method_9_code := rfl
theorem ft_P84 : ft_P 84 := fun t ht pc r hr => ft_I_of ft_d84 ft_c84 ((Option.some.inj ((show ft_two ft_I 84 = some ft_I84 from rfl).symm.trans ht)) ▸ hr)
set_option maxRecDepth 100000 in
theorem ft_c110 : mt_Cd 110 = prog_8_method_28_code := rfl
theorem ft_P110 : ft_P 110 := fun t ht pc r hr => ft_I_of ft_d110 ft_c110 ((Option.some.inj ((show ft_two ft_I 110 = some ft_I110 from rfl).symm.trans ht)) ▸ hr)
set_option maxRecDepth 100000 in
theorem ft_c116 : mt_Cd 116 = prog_8_method_34_code := rfl
theorem ft_P116 : ft_P 116 := fun t ht pc r hr => ft_I_of ft_d116 ft_c116 ((Option.some.inj ((show ft_two ft_I 116 = some ft_I116 from rfl).symm.trans ht)) ▸ hr)
set_option maxRecDepth 100000 in
theorem ft_c117 : mt_Cd 117 = prog_8_method_35_code := rfl
theorem ft_P117 : ft_P 117 := fun t ht pc r hr => ft_I_of ft_d117 ft_c117 ((Option.some.inj ((show ft_two ft_I 117 = some ft_I117 from rfl).symm.trans ht)) ▸ hr)
set_option maxRecDepth 100000 in
theorem ft_c121 : mt_Cd 121 = prog_1_method_14_code := rfl
theorem ft_P121 : ft_P 121 := fun t ht pc r hr => ft_I_of ft_d121 ft_c121 ((Option.some.inj ((show ft_two ft_I 121 = some ft_I121 from rfl).symm.trans ht)) ▸ hr)
set_option maxRecDepth 100000 in
theorem ft_c122 : mt_Cd 122 = prog_10_method_12_code := rfl
theorem ft_P122 : ft_P 122 := fun t ht pc r hr => ft_I_of ft_d122 ft_c122 ((Option.some.inj ((show ft_two ft_I 122 = some ft_I122 from rfl).symm.trans ht)) ▸ hr)
set_option maxRecDepth 100000 in
theorem ft_c123 : mt_Cd 123 = prog_1_method_15_code := rfl
theorem ft_P123 : ft_P 123 := fun t ht pc r hr => ft_I_of ft_d123 ft_c123 ((Option.some.inj ((show ft_two ft_I 123 = some ft_I123 from rfl).symm.trans ht)) ▸ hr)
set_option maxRecDepth 100000 in
theorem ft_c124 : mt_Cd 124 = prog_10_method_25_code := rfl
theorem ft_P124 : ft_P 124 := fun t ht pc r hr => ft_I_of ft_d124 ft_c124 ((Option.some.inj ((show ft_two ft_I 124 = some ft_I124 from rfl).symm.trans ht)) ▸ hr)
set_option maxRecDepth 100000 in
theorem ft_c125 : mt_Cd 125 = prog_1_method_16_code := rfl
theorem ft_P125 : ft_P 125 := fun t ht pc r hr => ft_I_of ft_d125 ft_c125 ((Option.some.inj ((show ft_two ft_I 125 = some ft_I125 from rfl).symm.trans ht)) ▸ hr)
set_option maxRecDepth 100000 in
theorem ft_c126 : mt_Cd 126 = prog_10_method_14_code := rfl
theorem ft_P126 : ft_P 126 := fun t ht pc r hr => ft_I_of ft_d126 ft_c126 ((Option.some.inj ((show ft_two ft_I 126 = some ft_I126 from rfl).symm.trans ht)) ▸ hr)
set_option maxRecDepth 100000 in
theorem ft_c127 : mt_Cd 127 = prog_1_method_17_code := rfl
theorem ft_P127 : ft_P 127 := fun t ht pc r hr => ft_I_of ft_d127 ft_c127 ((Option.some.inj ((show ft_two ft_I 127 = some ft_I127 from rfl).symm.trans ht)) ▸ hr)
set_option maxRecDepth 100000 in
theorem ft_c128 : mt_Cd 128 = prog_10_method_15_code := rfl
theorem ft_P128 : ft_P 128 := fun t ht pc r hr => ft_I_of ft_d128 ft_c128 ((Option.some.inj ((show ft_two ft_I 128 = some ft_I128 from rfl).symm.trans ht)) ▸ hr)
set_option maxRecDepth 100000 in
theorem ft_c129 : mt_Cd 129 = prog_1_method_18_code := rfl
theorem ft_P129 : ft_P 129 := fun t ht pc r hr => ft_I_of ft_d129 ft_c129 ((Option.some.inj ((show ft_two ft_I 129 = some ft_I129 from rfl).symm.trans ht)) ▸ hr)
set_option maxRecDepth 100000 in
theorem ft_c130 : mt_Cd 130 = prog_10_method_13_code := rfl
theorem ft_P130 : ft_P 130 := fun t ht pc r hr => ft_I_of ft_d130 ft_c130 ((Option.some.inj ((show ft_two ft_I 130 = some ft_I130 from rfl).symm.trans ht)) ▸ hr)
set_option maxRecDepth 100000 in
theorem ft_c133 : mt_Cd 133 = prog_1_method_19_code := rfl
theorem ft_P133 : ft_P 133 := fun t ht pc r hr => ft_I_of ft_d133 ft_c133 ((Option.some.inj ((show ft_two ft_I 133 = some ft_I133 from rfl).symm.trans ht)) ▸ hr)
set_option maxRecDepth 100000 in
theorem ft_c135 : mt_Cd 135 = prog_1_method_20_code := rfl
theorem ft_P135 : ft_P 135 := fun t ht pc r hr => ft_I_of ft_d135 ft_c135 ((Option.some.inj ((show ft_two ft_I 135 = some ft_I135 from rfl).symm.trans ht)) ▸ hr)
set_option maxRecDepth 100000 in
theorem ft_c137 : mt_Cd 137 = prog_1_method_21_code := rfl
theorem ft_P137 : ft_P 137 := fun t ht pc r hr => ft_I_of ft_d137 ft_c137 ((Option.some.inj ((show ft_two ft_I 137 = some ft_I137 from rfl).symm.trans ht)) ▸ hr)
set_option maxRecDepth 100000 in
theorem ft_c138 : mt_Cd 138 = prog_1_method_22_code := rfl
theorem ft_P138 : ft_P 138 := fun t ht pc r hr => ft_I_of ft_d138 ft_c138 ((Option.some.inj ((show ft_two ft_I 138 = some ft_I138 from rfl).symm.trans ht)) ▸ hr)
set_option maxRecDepth 100000 in
theorem ft_c139 : mt_Cd 139 = prog_1_method_23_code := rfl
theorem ft_P139 : ft_P 139 := fun t ht pc r hr => ft_I_of ft_d139 ft_c139 ((Option.some.inj ((show ft_two ft_I 139 = some ft_I139 from rfl).symm.trans ht)) ▸ hr)
set_option maxRecDepth 100000 in
theorem ft_c140 : mt_Cd 140 = prog_1_method_24_code := rfl
theorem ft_P140 : ft_P 140 := fun t ht pc r hr => ft_I_of ft_d140 ft_c140 ((Option.some.inj ((show ft_two ft_I 140 = some ft_I140 from rfl).symm.trans ht)) ▸ hr)
set_option maxRecDepth 100000 in
theorem ft_c142 : mt_Cd 142 = prog_9_method_2_code := rfl
theorem ft_P142 : ft_P 142 := fun t ht pc r hr => ft_I_of ft_d142 ft_c142 ((Option.some.inj ((show ft_two ft_I 142 = some ft_I142 from rfl).symm.trans ht)) ▸ hr)
set_option maxRecDepth 100000 in
theorem ft_c143 : mt_Cd 143 = prog_9_method_3_code := rfl
theorem ft_P143 : ft_P 143 := fun t ht pc r hr => ft_I_of ft_d143 ft_c143 ((Option.some.inj ((show ft_two ft_I 143 = some ft_I143 from rfl).symm.trans ht)) ▸ hr)
set_option maxRecDepth 100000 in
theorem ft_c147 : mt_Cd 147 = prog_9_method_20_code := rfl
theorem ft_P147 : ft_P 147 := fun t ht pc r hr => ft_I_of ft_d147 ft_c147 ((Option.some.inj ((show ft_two ft_I 147 = some ft_I147 from rfl).symm.trans ht)) ▸ hr)
set_option maxRecDepth 100000 in
theorem ft_c148 : mt_Cd 148 = prog_9_method_22_code := rfl
theorem ft_P148 : ft_P 148 := fun t ht pc r hr => ft_I_of ft_d148 ft_c148 ((Option.some.inj ((show ft_two ft_I 148 = some ft_I148 from rfl).symm.trans ht)) ▸ hr)
set_option maxRecDepth 100000 in
theorem ft_c151 : mt_Cd 151 = prog_9_method_9_code := rfl
theorem ft_P151 : ft_P 151 := fun t ht pc r hr => ft_I_of ft_d151 ft_c151 ((Option.some.inj ((show ft_two ft_I 151 = some ft_I151 from rfl).symm.trans ht)) ▸ hr)
set_option maxRecDepth 100000 in
theorem ft_c174 : mt_Cd 174 = prog_1_method_25_code := rfl
theorem ft_P174 : ft_P 174 := fun t ht pc r hr => ft_I_of ft_d174 ft_c174 ((Option.some.inj ((show ft_two ft_I 174 = some ft_I174 from rfl).symm.trans ht)) ▸ hr)
set_option maxRecDepth 100000 in
theorem ft_c175 : mt_Cd 175 = prog_1_method_26_code := rfl
theorem ft_P175 : ft_P 175 := fun t ht pc r hr => ft_I_of ft_d175 ft_c175 ((Option.some.inj ((show ft_two ft_I 175 = some ft_I175 from rfl).symm.trans ht)) ▸ hr)
set_option maxRecDepth 100000 in
theorem ft_c176 : mt_Cd 176 = prog_1_method_27_code := rfl
theorem ft_P176 : ft_P 176 := fun t ht pc r hr => ft_I_of ft_d176 ft_c176 ((Option.some.inj ((show ft_two ft_I 176 = some ft_I176 from rfl).symm.trans ht)) ▸ hr)
set_option maxRecDepth 100000 in
theorem ft_c178 : mt_Cd 178 = prog_1_method_29_code := rfl
theorem ft_P178 : ft_P 178 := fun t ht pc r hr => ft_I_of ft_d178 ft_c178 ((Option.some.inj ((show ft_two ft_I 178 = some ft_I178 from rfl).symm.trans ht)) ▸ hr)
set_option maxRecDepth 100000 in
theorem ft_c179 : mt_Cd 179 = prog_2_method_2_code := rfl
theorem ft_P179 : ft_P 179 := fun t ht pc r hr => ft_I_of ft_d179 ft_c179 ((Option.some.inj ((show ft_two ft_I 179 = some ft_I179 from rfl).symm.trans ht)) ▸ hr)
set_option maxRecDepth 100000 in
theorem ft_c180 : mt_Cd 180 = prog_4_method_2_code := rfl
theorem ft_P180 : ft_P 180 := fun t ht pc r hr => ft_I_of ft_d180 ft_c180 ((Option.some.inj ((show ft_two ft_I 180 = some ft_I180 from rfl).symm.trans ht)) ▸ hr)
set_option maxRecDepth 100000 in
theorem ft_c181 : mt_Cd 181 = prog_2_method_3_code := rfl
theorem ft_P181 : ft_P 181 := fun t ht pc r hr => ft_I_of ft_d181 ft_c181 ((Option.some.inj ((show ft_two ft_I 181 = some ft_I181 from rfl).symm.trans ht)) ▸ hr)
set_option maxRecDepth 100000 in
theorem ft_c182 : mt_Cd 182 = prog_2_method_4_code := rfl
theorem ft_P182 : ft_P 182 := fun t ht pc r hr => ft_I_of ft_d182 ft_c182 ((Option.some.inj ((show ft_two ft_I 182 = some ft_I182 from rfl).symm.trans ht)) ▸ hr)
set_option maxRecDepth 100000 in
theorem ft_c183 : mt_Cd 183 = prog_2_method_8_code := rfl
theorem ft_P183 : ft_P 183 := fun t ht pc r hr => ft_I_of ft_d183 ft_c183 ((Option.some.inj ((show ft_two ft_I 183 = some ft_I183 from rfl).symm.trans ht)) ▸ hr)
set_option maxRecDepth 100000 in
theorem ft_c184 : mt_Cd 184 = prog_2_method_7_code := rfl
theorem ft_P184 : ft_P 184 := fun t ht pc r hr => ft_I_of ft_d184 ft_c184 ((Option.some.inj ((show ft_two ft_I 184 = some ft_I184 from rfl).symm.trans ht)) ▸ hr)
set_option maxRecDepth 100000 in
theorem ft_c247 : mt_Cd 247 = prog_1_method_30_code := rfl
theorem ft_P247 : ft_P 247 := fun t ht pc r hr => ft_I_of ft_d247 ft_c247 ((Option.some.inj ((show ft_two ft_I 247 = some ft_I247 from rfl).symm.trans ht)) ▸ hr)
set_option maxRecDepth 100000 in
theorem ft_c248 : mt_Cd 248 = prog_1_method_31_code := rfl
theorem ft_P248 : ft_P 248 := fun t ht pc r hr => ft_I_of ft_d248 ft_c248 ((Option.some.inj ((show ft_two ft_I 248 = some ft_I248 from rfl).symm.trans ht)) ▸ hr)
set_option maxRecDepth 100000 in
theorem ft_c250 : mt_Cd 250 = prog_1_method_32_code := rfl
theorem ft_P250 : ft_P 250 := fun t ht pc r hr => ft_I_of ft_d250 ft_c250 ((Option.some.inj ((show ft_two ft_I 250 = some ft_I250 from rfl).symm.trans ht)) ▸ hr)
set_option maxRecDepth 100000 in
theorem ft_c253 : mt_Cd 253 = prog_1_method_33_code := rfl
theorem ft_P253 : ft_P 253 := fun t ht pc r hr => ft_I_of ft_d253 ft_c253 ((Option.some.inj ((show ft_two ft_I 253 = some ft_I253 from rfl).symm.trans ht)) ▸ hr)
set_option maxRecDepth 100000 in
theorem ft_c256 : mt_Cd 256 = prog_1_method_34_code := rfl
theorem ft_P256 : ft_P 256 := fun t ht pc r hr => ft_I_of ft_d256 ft_c256 ((Option.some.inj ((show ft_two ft_I 256 = some ft_I256 from rfl).symm.trans ht)) ▸ hr)
set_option maxRecDepth 100000 in
theorem ft_c257 : mt_Cd 257 = prog_1_method_36_code := rfl
theorem ft_P257 : ft_P 257 := fun t ht pc r hr => ft_I_of ft_d257 ft_c257 ((Option.some.inj ((show ft_two ft_I 257 = some ft_I257 from rfl).symm.trans ht)) ▸ hr)
set_option maxRecDepth 100000 in
theorem ft_c258 : mt_Cd 258 = prog_6_method_3_code := rfl
theorem ft_P258 : ft_P 258 := fun t ht pc r hr => ft_I_of ft_d258 ft_c258 ((Option.some.inj ((show ft_two ft_I 258 = some ft_I258 from rfl).symm.trans ht)) ▸ hr)
set_option maxRecDepth 100000 in
theorem ft_c259 : mt_Cd 259 = prog_11_method_4_code := rfl
theorem ft_P259 : ft_P 259 := fun t ht pc r hr => ft_I_of ft_d259 ft_c259 ((Option.some.inj ((show ft_two ft_I 259 = some ft_I259 from rfl).symm.trans ht)) ▸ hr)
set_option maxRecDepth 100000 in
theorem ft_c269 : mt_Cd 269 = prog_1_method_37_code := rfl
theorem ft_P269 : ft_P 269 := fun t ht pc r hr => ft_I_of ft_d269 ft_c269 ((Option.some.inj ((show ft_two ft_I 269 = some ft_I269 from rfl).symm.trans ht)) ▸ hr)
set_option maxRecDepth 100000 in
theorem ft_c270 : mt_Cd 270 = prog_6_method_7_code := rfl
theorem ft_P270 : ft_P 270 := fun t ht pc r hr => ft_I_of ft_d270 ft_c270 ((Option.some.inj ((show ft_two ft_I 270 = some ft_I270 from rfl).symm.trans ht)) ▸ hr)
set_option maxRecDepth 100000 in
theorem ft_c271 : mt_Cd 271 = prog_1_method_38_code := rfl
theorem ft_P271 : ft_P 271 := fun t ht pc r hr => ft_I_of ft_d271 ft_c271 ((Option.some.inj ((show ft_two ft_I 271 = some ft_I271 from rfl).symm.trans ht)) ▸ hr)
set_option maxRecDepth 100000 in
theorem ft_c274 : mt_Cd 274 = prog_1_method_39_code := rfl
theorem ft_P274 : ft_P 274 := fun t ht pc r hr => ft_I_of ft_d274 ft_c274 ((Option.some.inj ((show ft_two ft_I 274 = some ft_I274 from rfl).symm.trans ht)) ▸ hr)
set_option maxRecDepth 100000 in
theorem ft_c275 : mt_Cd 275 = prog_6_method_16_code := rfl
theorem ft_P275 : ft_P 275 := fun t ht pc r hr => ft_I_of ft_d275 ft_c275 ((Option.some.inj ((show ft_two ft_I 275 = some ft_I275 from rfl).symm.trans ht)) ▸ hr)
set_option maxRecDepth 100000 in
theorem ft_c278 : mt_Cd 278 = prog_1_method_40_code := rfl
theorem ft_P278 : ft_P 278 := fun t ht pc r hr => ft_I_of ft_d278 ft_c278 ((Option.some.inj ((show ft_two ft_I 278 = some ft_I278 from rfl).symm.trans ht)) ▸ hr)
set_option maxRecDepth 100000 in
theorem ft_c279 : mt_Cd 279 = prog_14_method_34_code := rfl
theorem ft_P279 : ft_P 279 := fun t ht pc r hr => ft_I_of ft_d279 ft_c279 ((Option.some.inj ((show ft_two ft_I 279 = some ft_I279 from rfl).symm.trans ht)) ▸ hr)
set_option maxRecDepth 100000 in
theorem ft_c280 : mt_Cd 280 = prog_15_method_1_code := rfl
theorem ft_P280 : ft_P 280 := fun t ht pc r hr => ft_I_of ft_d280 ft_c280 ((Option.some.inj ((show ft_two ft_I 280 = some ft_I280 from rfl).symm.trans ht)) ▸ hr)
set_option maxRecDepth 100000 in
theorem ft_c281 : mt_Cd 281 = prog_16_method_1_code := rfl
theorem ft_P281 : ft_P 281 := fun t ht pc r hr => ft_I_of ft_d281 ft_c281 ((Option.some.inj ((show ft_two ft_I 281 = some ft_I281 from rfl).symm.trans ht)) ▸ hr)
set_option maxRecDepth 100000 in
theorem ft_c282 : mt_Cd 282 = prog_15_method_73_code := rfl
theorem ft_P282 : ft_P 282 := fun t ht pc r hr => ft_I_of ft_d282 ft_c282 ((Option.some.inj ((show ft_two ft_I 282 = some ft_I282 from rfl).symm.trans ht)) ▸ hr)
set_option maxRecDepth 100000 in
theorem ft_c283 : mt_Cd 283 = prog_15_method_72_code := rfl
theorem ft_P283 : ft_P 283 := fun t ht pc r hr => ft_I_of ft_d283 ft_c283 ((Option.some.inj ((show ft_two ft_I 283 = some ft_I283 from rfl).symm.trans ht)) ▸ hr)
set_option maxRecDepth 100000 in
theorem ft_c284 : mt_Cd 284 = prog_15_method_74_code := rfl
theorem ft_P284 : ft_P 284 := fun t ht pc r hr => ft_I_of ft_d284 ft_c284 ((Option.some.inj ((show ft_two ft_I 284 = some ft_I284 from rfl).symm.trans ht)) ▸ hr)
set_option maxRecDepth 100000 in
theorem ft_c285 : mt_Cd 285 = prog_15_method_19_code := rfl
theorem ft_P285 : ft_P 285 := fun t ht pc r hr => ft_I_of ft_d285 ft_c285 ((Option.some.inj ((show ft_two ft_I 285 = some ft_I285 from rfl).symm.trans ht)) ▸ hr)
set_option maxRecDepth 100000 in
theorem ft_c286 : mt_Cd 286 = prog_16_method_5_code := rfl
theorem ft_P286 : ft_P 286 := fun t ht pc r hr => ft_I_of ft_d286 ft_c286 ((Option.some.inj ((show ft_two ft_I 286 = some ft_I286 from rfl).symm.trans ht)) ▸ hr)
set_option maxRecDepth 100000 in
theorem ft_c293 : mt_Cd 293 = prog_15_method_3_code := rfl
theorem ft_P293 : ft_P 293 := fun t ht pc r hr => ft_I_of ft_d293 ft_c293 ((Option.some.inj ((show ft_two ft_I 293 = some ft_I293 from rfl).symm.trans ht)) ▸ hr)
set_option maxRecDepth 100000 in
theorem ft_c294 : mt_Cd 294 = prog_15_method_2_code := rfl
theorem ft_P294 : ft_P 294 := fun t ht pc r hr => ft_I_of ft_d294 ft_c294 ((Option.some.inj ((show ft_two ft_I 294 = some ft_I294 from rfl).symm.trans ht)) ▸ hr)
set_option maxRecDepth 100000 in
theorem ft_c295 : mt_Cd 295 = prog_14_method_4_code := rfl
theorem ft_P295 : ft_P 295 := fun t ht pc r hr => ft_I_of ft_d295 ft_c295 ((Option.some.inj ((show ft_two ft_I 295 = some ft_I295 from rfl).symm.trans ht)) ▸ hr)
set_option maxRecDepth 100000 in
theorem ft_c297 : mt_Cd 297 = prog_15_method_4_code := rfl
theorem ft_P297 : ft_P 297 := fun t ht pc r hr => ft_I_of ft_d297 ft_c297 ((Option.some.inj ((show ft_two ft_I 297 = some ft_I297 from rfl).symm.trans ht)) ▸ hr)
set_option maxRecDepth 100000 in
theorem ft_c307 : mt_Cd 307 = prog_15_method_7_code := rfl
theorem ft_P307 : ft_P 307 := fun t ht pc r hr => ft_I_of ft_d307 ft_c307 ((Option.some.inj ((show ft_two ft_I 307 = some ft_I307 from rfl).symm.trans ht)) ▸ hr)
set_option maxRecDepth 100000 in
theorem ft_c314 : mt_Cd 314 = prog_15_method_28_code := rfl
theorem ft_P314 : ft_P 314 := fun t ht pc r hr => ft_I_of ft_d314 ft_c314 ((Option.some.inj ((show ft_two ft_I 314 = some ft_I314 from rfl).symm.trans ht)) ▸ hr)
set_option maxRecDepth 100000 in
theorem ft_c315 : mt_Cd 315 = prog_15_method_29_code := rfl
theorem ft_P315 : ft_P 315 := fun t ht pc r hr => ft_I_of ft_d315 ft_c315 ((Option.some.inj ((show ft_two ft_I 315 = some ft_I315 from rfl).symm.trans ht)) ▸ hr)
set_option maxRecDepth 100000 in
theorem ft_c316 : mt_Cd 316 = prog_15_method_30_code := rfl
theorem ft_P316 : ft_P 316 := fun t ht pc r hr => ft_I_of ft_d316 ft_c316 ((Option.some.inj ((show ft_two ft_I 316 = some ft_I316 from rfl).symm.trans ht)) ▸ hr)
set_option maxRecDepth 100000 in
theorem ft_c319 : mt_Cd 319 = prog_15_method_32_code := rfl
theorem ft_P319 : ft_P 319 := fun t ht pc r hr => ft_I_of ft_d319 ft_c319 ((Option.some.inj ((show ft_two ft_I 319 = some ft_I319 from rfl).symm.trans ht)) ▸ hr)
set_option maxRecDepth 100000 in
theorem ft_c331 : mt_Cd 331 = prog_15_method_46_code := rfl
theorem ft_P331 : ft_P 331 := fun t ht pc r hr => ft_I_of ft_d331 ft_c331 ((Option.some.inj ((show ft_two ft_I 331 = some ft_I331 from rfl).symm.trans ht)) ▸ hr)
set_option maxRecDepth 100000 in
theorem ft_c333 : mt_Cd 333 = prog_15_method_47_code := rfl
theorem ft_P333 : ft_P 333 := fun t ht pc r hr => ft_I_of ft_d333 ft_c333 ((Option.some.inj ((show ft_two ft_I 333 = some ft_I333 from rfl).symm.trans ht)) ▸ hr)
set_option maxRecDepth 100000 in
theorem ft_c336 : mt_Cd 336 = prog_15_method_48_code := rfl
theorem ft_P336 : ft_P 336 := fun t ht pc r hr => ft_I_of ft_d336 ft_c336 ((Option.some.inj ((show ft_two ft_I 336 = some ft_I336 from rfl).symm.trans ht)) ▸ hr)
set_option maxRecDepth 100000 in
theorem ft_c340 : mt_Cd 340 = prog_15_method_49_code := rfl
theorem ft_P340 : ft_P 340 := fun t ht pc r hr => ft_I_of ft_d340 ft_c340 ((Option.some.inj ((show ft_two ft_I 340 = some ft_I340 from rfl).symm.trans ht)) ▸ hr)
set_option maxRecDepth 100000 in
theorem ft_c361 : mt_Cd 361 = prog_15_method_69_code := rfl
theorem ft_P361 : ft_P 361 := fun t ht pc r hr => ft_I_of ft_d361 ft_c361 ((Option.some.inj ((show ft_two ft_I 361 = some ft_I361 from rfl).symm.trans ht)) ▸ hr)
set_option maxRecDepth 100000 in
theorem ft_c362 : mt_Cd 362 = prog_15_method_68_code := rfl
theorem ft_P362 : ft_P 362 := fun t ht pc r hr => ft_I_of ft_d362 ft_c362 ((Option.some.inj ((show ft_two ft_I 362 = some ft_I362 from rfl).symm.trans ht)) ▸ hr)
set_option maxRecDepth 100000 in
theorem ft_c363 : mt_Cd 363 = prog_14_method_35_code := rfl
theorem ft_P363 : ft_P 363 := fun t ht pc r hr => ft_I_of ft_d363 ft_c363 ((Option.some.inj ((show ft_two ft_I 363 = some ft_I363 from rfl).symm.trans ht)) ▸ hr)
set_option maxRecDepth 100000 in
theorem ft_c364 : mt_Cd 364 = prog_14_method_105_code := rfl
theorem ft_P364 : ft_P 364 := fun t ht pc r hr => ft_I_of ft_d364 ft_c364 ((Option.some.inj ((show ft_two ft_I 364 = some ft_I364 from rfl).symm.trans ht)) ▸ hr)
set_option maxRecDepth 100000 in
theorem ft_c365 : mt_Cd 365 = prog_14_method_106_code := rfl
theorem ft_P365 : ft_P 365 := fun t ht pc r hr => ft_I_of ft_d365 ft_c365 ((Option.some.inj ((show ft_two ft_I 365 = some ft_I365 from rfl).symm.trans ht)) ▸ hr)
set_option maxRecDepth 100000 in
theorem ft_c366 : mt_Cd 366 = prog_14_method_107_code := rfl
theorem ft_P366 : ft_P 366 := fun t ht pc r hr => ft_I_of ft_d366 ft_c366 ((Option.some.inj ((show ft_two ft_I 366 = some ft_I366 from rfl).symm.trans ht)) ▸ hr)
set_option maxRecDepth 100000 in
theorem ft_c367 : mt_Cd 367 = prog_14_method_111_code := rfl
theorem ft_P367 : ft_P 367 := fun t ht pc r hr => ft_I_of ft_d367 ft_c367 ((Option.some.inj ((show ft_two ft_I 367 = some ft_I367 from rfl).symm.trans ht)) ▸ hr)
set_option maxRecDepth 100000 in
theorem ft_c368 : mt_Cd 368 = prog_14_method_108_code := rfl
theorem ft_P368 : ft_P 368 := fun t ht pc r hr => ft_I_of ft_d368 ft_c368 ((Option.some.inj ((show ft_two ft_I 368 = some ft_I368 from rfl).symm.trans ht)) ▸ hr)
set_option maxRecDepth 100000 in
theorem ft_c369 : mt_Cd 369 = prog_14_method_110_code := rfl
theorem ft_P369 : ft_P 369 := fun t ht pc r hr => ft_I_of ft_d369 ft_c369 ((Option.some.inj ((show ft_two ft_I 369 = some ft_I369 from rfl).symm.trans ht)) ▸ hr)
set_option maxRecDepth 100000 in
theorem ft_c370 : mt_Cd 370 = prog_14_method_109_code := rfl
theorem ft_P370 : ft_P 370 := fun t ht pc r hr => ft_I_of ft_d370 ft_c370 ((Option.some.inj ((show ft_two ft_I 370 = some ft_I370 from rfl).symm.trans ht)) ▸ hr)
set_option maxRecDepth 100000 in
theorem ft_c371 : mt_Cd 371 = prog_14_method_38_code := rfl
theorem ft_P371 : ft_P 371 := fun t ht pc r hr => ft_I_of ft_d371 ft_c371 ((Option.some.inj ((show ft_two ft_I 371 = some ft_I371 from rfl).symm.trans ht)) ▸ hr)
set_option maxRecDepth 100000 in
theorem ft_c372 : mt_Cd 372 = prog_14_method_112_code := rfl
theorem ft_P372 : ft_P 372 := fun t ht pc r hr => ft_I_of ft_d372 ft_c372 ((Option.some.inj ((show ft_two ft_I 372 = some ft_I372 from rfl).symm.trans ht)) ▸ hr)
set_option maxRecDepth 100000 in
theorem ft_c373 : mt_Cd 373 = prog_14_method_113_code := rfl
theorem ft_P373 : ft_P 373 := fun t ht pc r hr => ft_I_of ft_d373 ft_c373 ((Option.some.inj ((show ft_two ft_I 373 = some ft_I373 from rfl).symm.trans ht)) ▸ hr)
set_option maxRecDepth 100000 in
theorem ft_c374 : mt_Cd 374 = prog_14_method_114_code := rfl
theorem ft_P374 : ft_P 374 := fun t ht pc r hr => ft_I_of ft_d374 ft_c374 ((Option.some.inj ((show ft_two ft_I 374 = some ft_I374 from rfl).symm.trans ht)) ▸ hr)
set_option maxRecDepth 100000 in
theorem ft_c375 : mt_Cd 375 = prog_14_method_115_code := rfl
theorem ft_P375 : ft_P 375 := fun t ht pc r hr => ft_I_of ft_d375 ft_c375 ((Option.some.inj ((show ft_two ft_I 375 = some ft_I375 from rfl).symm.trans ht)) ▸ hr)
set_option maxRecDepth 100000 in
theorem ft_c376 : mt_Cd 376 = prog_15_method_75_code := rfl
theorem ft_P376 : ft_P 376 := fun t ht pc r hr => ft_I_of ft_d376 ft_c376 ((Option.some.inj ((show ft_two ft_I 376 = some ft_I376 from rfl).symm.trans ht)) ▸ hr)
set_option maxRecDepth 100000 in
theorem ft_c377 : mt_Cd 377 = prog_14_method_116_code := rfl
theorem ft_P377 : ft_P 377 := fun t ht pc r hr => ft_I_of ft_d377 ft_c377 ((Option.some.inj ((show ft_two ft_I 377 = some ft_I377 from rfl).symm.trans ht)) ▸ hr)
set_option maxRecDepth 100000 in
theorem ft_c378 : mt_Cd 378 = prog_14_method_117_code := rfl
theorem ft_P378 : ft_P 378 := fun t ht pc r hr => ft_I_of ft_d378 ft_c378 ((Option.some.inj ((show ft_two ft_I 378 = some ft_I378 from rfl).symm.trans ht)) ▸ hr)
set_option maxRecDepth 100000 in
theorem ft_c379 : mt_Cd 379 = prog_15_method_76_code := rfl
theorem ft_P379 : ft_P 379 := fun t ht pc r hr => ft_I_of ft_d379 ft_c379 ((Option.some.inj ((show ft_two ft_I 379 = some ft_I379 from rfl).symm.trans ht)) ▸ hr)
set_option maxRecDepth 100000 in
theorem ft_c380 : mt_Cd 380 = prog_14_method_118_code := rfl
theorem ft_P380 : ft_P 380 := fun t ht pc r hr => ft_I_of ft_d380 ft_c380 ((Option.some.inj ((show ft_two ft_I 380 = some ft_I380 from rfl).symm.trans ht)) ▸ hr)
set_option maxRecDepth 100000 in
theorem ft_c381 : mt_Cd 381 = prog_15_method_78_code := rfl
theorem ft_P381 : ft_P 381 := fun t ht pc r hr => ft_I_of ft_d381 ft_c381 ((Option.some.inj ((show ft_two ft_I 381 = some ft_I381 from rfl).symm.trans ht)) ▸ hr)
set_option maxRecDepth 100000 in
theorem ft_c383 : mt_Cd 383 = prog_14_method_119_code := rfl
theorem ft_P383 : ft_P 383 := fun t ht pc r hr => ft_I_of ft_d383 ft_c383 ((Option.some.inj ((show ft_two ft_I 383 = some ft_I383 from rfl).symm.trans ht)) ▸ hr)
set_option maxRecDepth 100000 in
theorem ft_c384 : mt_Cd 384 = prog_14_method_120_code := rfl
theorem ft_P384 : ft_P 384 := fun t ht pc r hr => ft_I_of ft_d384 ft_c384 ((Option.some.inj ((show ft_two ft_I 384 = some ft_I384 from rfl).symm.trans ht)) ▸ hr)
set_option maxRecDepth 100000 in
theorem ft_c385 : mt_Cd 385 = prog_14_method_122_code := rfl
theorem ft_P385 : ft_P 385 := fun t ht pc r hr => ft_I_of ft_d385 ft_c385 ((Option.some.inj ((show ft_two ft_I 385 = some ft_I385 from rfl).symm.trans ht)) ▸ hr)
set_option maxRecDepth 100000 in
theorem ft_c386 : mt_Cd 386 = prog_14_method_121_code := rfl
theorem ft_P386 : ft_P 386 := fun t ht pc r hr => ft_I_of ft_d386 ft_c386 ((Option.some.inj ((show ft_two ft_I 386 = some ft_I386 from rfl).symm.trans ht)) ▸ hr)
set_option maxRecDepth 100000 in
theorem ft_c387 : mt_Cd 387 = prog_15_method_77_code := rfl
theorem ft_P387 : ft_P 387 := fun t ht pc r hr => ft_I_of ft_d387 ft_c387 ((Option.some.inj ((show ft_two ft_I 387 = some ft_I387 from rfl).symm.trans ht)) ▸ hr)
set_option maxRecDepth 100000 in
theorem ft_c389 : mt_Cd 389 = prog_14_method_123_code := rfl
theorem ft_P389 : ft_P 389 := fun t ht pc r hr => ft_I_of ft_d389 ft_c389 ((Option.some.inj ((show ft_two ft_I 389 = some ft_I389 from rfl).symm.trans ht)) ▸ hr)
set_option maxRecDepth 100000 in
theorem ft_c390 : mt_Cd 390 = prog_14_method_124_code := rfl
theorem ft_P390 : ft_P 390 := fun t ht pc r hr => ft_I_of ft_d390 ft_c390 ((Option.some.inj ((show ft_two ft_I 390 = some ft_I390 from rfl).symm.trans ht)) ▸ hr)
set_option maxRecDepth 100000 in
theorem ft_c393 : mt_Cd 393 = prog_14_method_125_code := rfl
theorem ft_P393 : ft_P 393 := fun t ht pc r hr => ft_I_of ft_d393 ft_c393 ((Option.some.inj ((show ft_two ft_I 393 = some ft_I393 from rfl).symm.trans ht)) ▸ hr)
set_option maxRecDepth 100000 in
theorem ft_c394 : mt_Cd 394 = prog_14_method_126_code := rfl
theorem ft_P394 : ft_P 394 := fun t ht pc r hr => ft_I_of ft_d394 ft_c394 ((Option.some.inj ((show ft_two ft_I 394 = some ft_I394 from rfl).symm.trans ht)) ▸ hr)
set_option maxRecDepth 100000 in
theorem ft_c395 : mt_Cd 395 = prog_14_method_127_code := rfl
theorem ft_P395 : ft_P 395 := fun t ht pc r hr => ft_I_of ft_d395 ft_c395 ((Option.some.inj ((show ft_two ft_I 395 = some ft_I395 from rfl).symm.trans ht)) ▸ hr)
set_option maxRecDepth 100000 in
theorem ft_c397 : mt_Cd 397 = prog_14_method_17_code := rfl
theorem ft_P397 : ft_P 397 := fun t ht pc r hr => ft_I_of ft_d397 ft_c397 ((Option.some.inj ((show ft_two ft_I 397 = some ft_I397 from rfl).symm.trans ht)) ▸ hr)
set_option maxRecDepth 100000 in
theorem ft_c398 : mt_Cd 398 = prog_14_method_14_code := rfl
theorem ft_P398 : ft_P 398 := fun t ht pc r hr => ft_I_of ft_d398 ft_c398 ((Option.some.inj ((show ft_two ft_I 398 = some ft_I398 from rfl).symm.trans ht)) ▸ hr)
set_option maxRecDepth 100000 in
theorem ft_c399 : mt_Cd 399 = prog_14_method_8_code := rfl
theorem ft_P399 : ft_P 399 := fun t ht pc r hr => ft_I_of ft_d399 ft_c399 ((Option.some.inj ((show ft_two ft_I 399 = some ft_I399 from rfl).symm.trans ht)) ▸ hr)
set_option maxRecDepth 100000 in
theorem ft_c400 : mt_Cd 400 = prog_14_method_7_code := rfl
theorem ft_P400 : ft_P 400 := fun t ht pc r hr => ft_I_of ft_d400 ft_c400 ((Option.some.inj ((show ft_two ft_I 400 = some ft_I400 from rfl).symm.trans ht)) ▸ hr)
set_option maxRecDepth 100000 in
theorem ft_c406 : mt_Cd 406 = prog_14_method_30_code := rfl
theorem ft_P406 : ft_P 406 := fun t ht pc r hr => ft_I_of ft_d406 ft_c406 ((Option.some.inj ((show ft_two ft_I 406 = some ft_I406 from rfl).symm.trans ht)) ▸ hr)
set_option maxRecDepth 100000 in
theorem ft_c412 : mt_Cd 412 = prog_14_method_15_code := rfl
theorem ft_P412 : ft_P 412 := fun t ht pc r hr => ft_I_of ft_d412 ft_c412 ((Option.some.inj ((show ft_two ft_I 412 = some ft_I412 from rfl).symm.trans ht)) ▸ hr)
set_option maxRecDepth 100000 in
theorem ft_c423 : mt_Cd 423 = prog_14_method_18_code := rfl
theorem ft_P423 : ft_P 423 := fun t ht pc r hr => ft_I_of ft_d423 ft_c423 ((Option.some.inj ((show ft_two ft_I 423 = some ft_I423 from rfl).symm.trans ht)) ▸ hr)
set_option maxRecDepth 100000 in
theorem ft_c425 : mt_Cd 425 = prog_14_method_128_code := rfl
theorem ft_P425 : ft_P 425 := fun t ht pc r hr => ft_I_of ft_d425 ft_c425 ((Option.some.inj ((show ft_two ft_I 425 = some ft_I425 from rfl).symm.trans ht)) ▸ hr)
set_option maxRecDepth 100000 in
theorem ft_c426 : mt_Cd 426 = prog_14_method_129_code := rfl
theorem ft_P426 : ft_P 426 := fun t ht pc r hr => ft_I_of ft_d426 ft_c426 ((Option.some.inj ((show ft_two ft_I 426 = some ft_I426 from rfl).symm.trans ht)) ▸ hr)
set_option maxRecDepth 100000 in
theorem ft_c427 : mt_Cd 427 = prog_14_method_130_code := rfl
theorem ft_P427 : ft_P 427 := fun t ht pc r hr => ft_I_of ft_d427 ft_c427 ((Option.some.inj ((show ft_two ft_I 427 = some ft_I427 from rfl).symm.trans ht)) ▸ hr)
set_option maxRecDepth 100000 in
theorem ft_c428 : mt_Cd 428 = prog_14_method_131_code := rfl
theorem ft_P428 : ft_P 428 := fun t ht pc r hr => ft_I_of ft_d428 ft_c428 ((Option.some.inj ((show ft_two ft_I 428 = some ft_I428 from rfl).symm.trans ht)) ▸ hr)
set_option maxRecDepth 100000 in
theorem ft_c429 : mt_Cd 429 = prog_14_method_74_code := rfl
theorem ft_P429 : ft_P 429 := fun t ht pc r hr => ft_I_of ft_d429 ft_c429 ((Option.some.inj ((show ft_two ft_I 429 = some ft_I429 from rfl).symm.trans ht)) ▸ hr)
set_option maxRecDepth 100000 in
theorem ft_c430 : mt_Cd 430 = prog_14_method_65_code := rfl
theorem ft_P430 : ft_P 430 := fun t ht pc r hr => ft_I_of ft_d430 ft_c430 ((Option.some.inj ((show ft_two ft_I 430 = some ft_I430 from rfl).symm.trans ht)) ▸ hr)
set_option maxRecDepth 100000 in
theorem ft_c431 : mt_Cd 431 = prog_14_method_75_code := rfl
theorem ft_P431 : ft_P 431 := fun t ht pc r hr => ft_I_of ft_d431 ft_c431 ((Option.some.inj ((show ft_two ft_I 431 = some ft_I431 from rfl).symm.trans ht)) ▸ hr)
set_option maxRecDepth 100000 in
theorem ft_c432 : mt_Cd 432 = prog_14_method_59_code := rfl
theorem ft_P432 : ft_P 432 := fun t ht pc r hr => ft_I_of ft_d432 ft_c432 ((Option.some.inj ((show ft_two ft_I 432 = some ft_I432 from rfl).symm.trans ht)) ▸ hr)
set_option maxRecDepth 100000 in
theorem ft_c450 : mt_Cd 450 = prog_14_method_76_code := rfl
theorem ft_P450 : ft_P 450 := fun t ht pc r hr => ft_I_of ft_d450 ft_c450 ((Option.some.inj ((show ft_two ft_I 450 = some ft_I450 from rfl).symm.trans ht)) ▸ hr)
set_option maxRecDepth 100000 in
theorem ft_c459 : mt_Cd 459 = prog_14_method_78_code := rfl
theorem ft_P459 : ft_P 459 := fun t ht pc r hr => ft_I_of ft_d459 ft_c459 ((Option.some.inj ((show ft_two ft_I 459 = some ft_I459 from rfl).symm.trans ht)) ▸ hr)
set_option maxRecDepth 100000 in
theorem ft_c464 : mt_Cd 464 = prog_14_method_79_code := rfl
theorem ft_P464 : ft_P 464 := fun t ht pc r hr => ft_I_of ft_d464 ft_c464 ((Option.some.inj ((show ft_two ft_I 464 = some ft_I464 from rfl).symm.trans ht)) ▸ hr)
set_option maxRecDepth 100000 in
theorem ft_c469 : mt_Cd 469 = prog_14_method_83_code := rfl
theorem ft_P469 : ft_P 469 := fun t ht pc r hr => ft_I_of ft_d469 ft_c469 ((Option.some.inj ((show ft_two ft_I 469 = some ft_I469 from rfl).symm.trans ht)) ▸ hr)
set_option maxRecDepth 100000 in
theorem ft_c474 : mt_Cd 474 = prog_14_method_86_code := rfl
theorem ft_P474 : ft_P 474 := fun t ht pc r hr => ft_I_of ft_d474 ft_c474 ((Option.some.inj ((show ft_two ft_I 474 = some ft_I474 from rfl).symm.trans ht)) ▸ hr)
set_option maxRecDepth 100000 in
theorem ft_c484 : mt_Cd 484 = prog_14_method_132_code := rfl
theorem ft_P484 : ft_P 484 := fun t ht pc r hr => ft_I_of ft_d484 ft_c484 ((Option.some.inj ((show ft_two ft_I 484 = some ft_I484 from rfl).symm.trans ht)) ▸ hr)
set_option maxRecDepth 100000 in
theorem ft_c485 : mt_Cd 485 = prog_14_method_133_code := rfl
theorem ft_P485 : ft_P 485 := fun t ht pc r hr => ft_I_of ft_d485 ft_c485 ((Option.some.inj ((show ft_two ft_I 485 = some ft_I485 from rfl).symm.trans ht)) ▸ hr)
set_option maxRecDepth 100000 in
theorem ft_c486 : mt_Cd 486 = prog_14_method_134_code := rfl
theorem ft_P486 : ft_P 486 := fun t ht pc r hr => ft_I_of ft_d486 ft_c486 ((Option.some.inj ((show ft_two ft_I 486 = some ft_I486 from rfl).symm.trans ht)) ▸ hr)
set_option maxRecDepth 100000 in
theorem ft_c487 : mt_Cd 487 = prog_14_method_135_code := rfl
theorem ft_P487 : ft_P 487 := fun t ht pc r hr => ft_I_of ft_d487 ft_c487 ((Option.some.inj ((show ft_two ft_I 487 = some ft_I487 from rfl).symm.trans ht)) ▸ hr)
set_option maxRecDepth 100000 in
theorem ft_c488 : mt_Cd 488 = prog_14_method_136_code := rfl
theorem ft_P488 : ft_P 488 := fun t ht pc r hr => ft_I_of ft_d488 ft_c488 ((Option.some.inj ((show ft_two ft_I 488 = some ft_I488 from rfl).symm.trans ht)) ▸ hr)
set_option maxRecDepth 100000 in
theorem ft_c489 : mt_Cd 489 = prog_14_method_137_code := rfl
theorem ft_P489 : ft_P 489 := fun t ht pc r hr => ft_I_of ft_d489 ft_c489 ((Option.some.inj ((show ft_two ft_I 489 = some ft_I489 from rfl).symm.trans ht)) ▸ hr)
set_option maxRecDepth 100000 in
theorem ft_c490 : mt_Cd 490 = prog_14_method_94_code := rfl
theorem ft_P490 : ft_P 490 := fun t ht pc r hr => ft_I_of ft_d490 ft_c490 ((Option.some.inj ((show ft_two ft_I 490 = some ft_I490 from rfl).symm.trans ht)) ▸ hr)
set_option maxRecDepth 100000 in
theorem ft_c498 : mt_Cd 498 = prog_14_method_138_code := rfl
theorem ft_P498 : ft_P 498 := fun t ht pc r hr => ft_I_of ft_d498 ft_c498 ((Option.some.inj ((show ft_two ft_I 498 = some ft_I498 from rfl).symm.trans ht)) ▸ hr)
set_option maxRecDepth 100000 in
theorem ft_c499 : mt_Cd 499 = prog_14_method_139_code := rfl
theorem ft_P499 : ft_P 499 := fun t ht pc r hr => ft_I_of ft_d499 ft_c499 ((Option.some.inj ((show ft_two ft_I 499 = some ft_I499 from rfl).symm.trans ht)) ▸ hr)
set_option maxRecDepth 100000 in
theorem ft_c501 : mt_Cd 501 = prog_14_method_140_code := rfl
theorem ft_P501 : ft_P 501 := fun t ht pc r hr => ft_I_of ft_d501 ft_c501 ((Option.some.inj ((show ft_two ft_I 501 = some ft_I501 from rfl).symm.trans ht)) ▸ hr)
set_option maxRecDepth 100000 in
theorem ft_c502 : mt_Cd 502 = prog_14_method_103_code := rfl
theorem ft_P502 : ft_P 502 := fun t ht pc r hr => ft_I_of ft_d502 ft_c502 ((Option.some.inj ((show ft_two ft_I 502 = some ft_I502 from rfl).symm.trans ht)) ▸ hr)
set_option maxRecDepth 100000 in
theorem ft_c504 : mt_Cd 504 = prog_14_method_141_code := rfl
theorem ft_P504 : ft_P 504 := fun t ht pc r hr => ft_I_of ft_d504 ft_c504 ((Option.some.inj ((show ft_two ft_I 504 = some ft_I504 from rfl).symm.trans ht)) ▸ hr)
def ft_ys0 : List Nat := [0, 1, 2, 3, 4, 5, 6, 7, 8, 9, 10, 11, 12, 13, 14, 15, 16, 17, 18, 19]
theorem ft_Q0 : ∀ y ∈ ft_ys0, ft_P y := List.forall_mem_cons.mpr ⟨ft_P0, List.forall_mem_cons.mpr ⟨ft_P1, List.forall_mem_cons.mpr ⟨ft_P2, List.forall_mem_cons.mpr ⟨ft_P3, List.forall_mem_cons.mpr ⟨ft_P4, List.forall_mem_cons.mpr ⟨ft_P5, List.forall_mem_cons.mpr ⟨ft_P6, List.forall_mem_cons.mpr ⟨ft_P7, List.forall_mem_cons.mpr ⟨ft_P8, List.forall_mem_cons.mpr ⟨ft_P9, List.forall_mem_cons.mpr ⟨ft_P10, List.forall_mem_cons.mpr ⟨ft_P11, List.forall_mem_cons.mpr ⟨ft_P12, List.forall_mem_cons.mpr ⟨ft_P13, List.forall_mem_cons.mpr ⟨ft_P14, List.forall_mem_cons.mpr ⟨ft_P15, List.forall_mem_cons.mpr ⟨ft_P16, List.forall_mem_cons.mpr ⟨ft_P17, List.forall_mem_cons.mpr ⟨ft_P18, List.forall_mem_cons.mpr ⟨ft_P19, fun _ h => absurd h List.not_mem_nil⟩⟩⟩⟩⟩⟩⟩⟩⟩⟩⟩⟩⟩⟩⟩⟩⟩⟩⟩⟩
def ft_ys1 : List Nat := [20, 21, 22, 23, 34, 36, 37, 52, 53, 54, 55, 61, 62, 65, 66, 67, 68, 69, 70, 71]
theorem ft_Q1 : ∀ y ∈ ft_ys1, ft_P y := List.forall_mem_cons.mpr ⟨ft_P20, List.forall_mem_cons.mpr ⟨ft_P21, List.forall_mem_cons.mpr ⟨ft_P22, List.forall_mem_cons.mpr ⟨ft_P23, List.forall_mem_cons.mpr ⟨ft_P34, List.forall_mem_cons.mpr ⟨ft_P36, List.forall_mem_cons.mpr ⟨ft_P37, List.forall_mem_cons.mpr ⟨ft_P52, List.forall_mem_cons.mpr ⟨ft_P53, List.forall_mem_cons.mpr ⟨ft_P54, List.forall_mem_cons.mpr ⟨ft_P55, List.forall_mem_cons.mpr ⟨ft_P61, List.forall_mem_cons.mpr ⟨ft_P62, List.forall_mem_cons.mpr ⟨ft_P65, List.forall_mem_cons.mpr ⟨ft_P66, List.forall_mem_cons.mpr ⟨ft_P67, List.forall_mem_cons.mpr ⟨ft_P68, List.forall_mem_cons.mpr ⟨ft_P69, List.forall_mem_cons.mpr ⟨ft_P70, List.forall_mem_cons.mpr ⟨ft_P71, fun _ h => absurd h List.not_mem_nil⟩⟩⟩⟩⟩⟩⟩⟩⟩⟩⟩⟩⟩⟩⟩⟩⟩⟩⟩⟩
def ft_ys2 : List Nat := [72, 73, 75, 76, 77, 78, 82, 84, 110, 116, 117, 121, 122, 123, 124, 125, 126, 127, 128, 129]
theorem ft_Q2 : ∀ y ∈ ft_ys2, ft_P y := List.forall_mem_cons.mpr ⟨ft_P72, List.forall_mem_cons.mpr ⟨ft_P73, List.forall_mem_cons.mpr ⟨ft_P75, List.forall_mem_cons.mpr ⟨ft_P76, List.forall_mem_cons.mpr ⟨ft_P77, List.forall_mem_cons.mpr ⟨ft_P78, List.forall_mem_cons.mpr ⟨ft_P82, List.forall_mem_cons.mpr ⟨ft_P84, List.forall_mem_cons.mpr ⟨ft_P110, List.forall_mem_cons.mpr ⟨ft_P116, List.forall_mem_cons.mpr ⟨ft_P117, List.forall_mem_cons.mpr ⟨ft_P121, List.forall_mem_cons.mpr ⟨ft_P122, List.forall_mem_cons.mpr ⟨ft_P123, List.forall_mem_cons.mpr ⟨ft_P124, List.forall_mem_cons.mpr ⟨ft_P125, List.forall_mem_cons.mpr ⟨ft_P126, List.forall_mem_cons.mpr ⟨ft_P127, List.forall_mem_cons.mpr ⟨ft_P128, List.forall_mem_cons.mpr ⟨ft_P129, fun _ h => absurd h List.not_mem_nil⟩⟩⟩⟩⟩⟩⟩⟩⟩⟩⟩⟩⟩⟩⟩⟩⟩⟩⟩⟩
def ft_ys3 : List Nat := [130, 133, 135, 137, 138, 139, 140, 142, 143, 147, 148, 151, 174, 175, 176, 178, 179, 180, 181, 182]
theorem ft_Q3 : ∀ y ∈ ft_ys3, ft_P y := List.forall_mem_cons.mpr ⟨ft_P130, List.forall_mem_cons.mpr ⟨ft_P133, List.forall_mem_cons.mpr ⟨ft_P135, List.forall_mem_cons.mpr ⟨ft_P137, List.forall_mem_cons.mpr ⟨ft_P138, List.forall_mem_cons.mpr ⟨ft_P139, List.forall_mem_cons.mpr ⟨ft_P140, List.forall_mem_cons.mpr ⟨ft_P142, List.forall_mem_cons.mpr ⟨ft_P143, List.forall_mem_cons.mpr ⟨ft_P147, List.forall_mem_cons.mpr ⟨ft_P148, List.forall_mem_cons.mpr ⟨ft_P151, List.forall_mem_cons.mpr ⟨ft_P174, List.forall_mem_cons.mpr ⟨ft_P175, List.forall_mem_cons.mpr ⟨ft_P176, List.forall_mem_cons.mpr ⟨ft_P178, List.forall_mem_cons.mpr ⟨ft_P179, List.forall_mem_cons.mpr ⟨ft_P180, List.forall_mem_cons.mpr ⟨ft_P181, List.forall_mem_cons.mpr ⟨ft_P182, fun _ h => absurd h List.not_mem_nil⟩⟩⟩⟩⟩⟩⟩⟩⟩⟩⟩⟩⟩⟩⟩⟩⟩⟩⟩⟩
def ft_ys4 : List Nat := [183, 184, 247, 248, 250, 253, 256, 257, 258, 259, 269, 270, 271, 274, 275, 278, 279, 280, 281, 282]
theorem ft_Q4 : ∀ y ∈ ft_ys4, ft_P y := List.forall_mem_cons.mpr ⟨ft_P183, List.forall_mem_cons.mpr ⟨ft_P184, List.forall_mem_cons.mpr ⟨ft_P247, List.forall_mem_cons.mpr ⟨ft_P248, List.forall_mem_cons.mpr ⟨ft_P250, List.forall_mem_cons.mpr ⟨ft_P253, List.forall_mem_cons.mpr ⟨ft_P256, List.forall_mem_cons.mpr ⟨ft_P257, List.forall_mem_cons.mpr ⟨ft_P258, List.forall_mem_cons.mpr ⟨ft_P259, List.forall_mem_cons.mpr ⟨ft_P269, List.forall_mem_cons.mpr ⟨ft_P270, List.forall_mem_cons.mpr ⟨ft_P271, List.forall_mem_cons.mpr ⟨ft_P274, List.forall_mem_cons.mpr ⟨ft_P275, List.forall_mem_cons.mpr ⟨ft_P278, List.forall_mem_cons.mpr ⟨ft_P279, List.forall_mem_cons.mpr ⟨ft_P280, List.forall_mem_cons.mpr ⟨ft_P281, List.forall_mem_cons.mpr ⟨ft_P282, fun _ h => absurd h List.not_mem_nil⟩⟩⟩⟩⟩⟩⟩⟩⟩⟩⟩⟩⟩⟩⟩⟩⟩⟩⟩⟩
def ft_ys5 : List Nat := [283, 284, 285, 286, 293, 294, 295, 297, 307, 314, 315, 316, 319, 331, 333, 336, 340, 361, 362, 363]
theorem ft_Q5 : ∀ y ∈ ft_ys5, ft_P y := List.forall_mem_cons.mpr ⟨ft_P283, List.forall_mem_cons.mpr ⟨ft_P284, List.forall_mem_cons.mpr ⟨ft_P285, List.forall_mem_cons.mpr ⟨ft_P286, List.forall_mem_cons.mpr ⟨ft_P293, List.forall_mem_cons.mpr ⟨ft_P294, List.forall_mem_cons.mpr ⟨ft_P295, List.forall_mem_cons.mpr ⟨ft_P297, List.forall_mem_cons.mpr ⟨ft_P307, List.forall_mem_cons.mpr ⟨ft_P314, List.forall_mem_cons.mpr ⟨ft_P315, List.forall_mem_cons.mpr ⟨ft_P316, List.forall_mem_cons.mpr ⟨ft_P319, List.forall_mem_cons.mpr ⟨ft_P331, List.forall_mem_cons.mpr ⟨ft_P333, List.forall_mem_cons.mpr ⟨ft_P336, List.forall_mem_cons.mpr ⟨ft_P340, List.forall_mem_cons.mpr ⟨ft_P361, List.forall_mem_cons.mpr ⟨ft_P362, List.forall_mem_cons.mpr ⟨ft_P363, fun _ h => absurd h List.not_mem_nil⟩⟩⟩⟩⟩⟩⟩⟩⟩⟩⟩⟩⟩⟩⟩⟩⟩⟩⟩⟩
def ft_ys6 : List Nat := [364, 365, 366, 367, 368, 369, 370, 371, 372, 373, 374, 375, 376, 377, 378, 379, 380, 381, 383, 384]
theorem ft_Q6 : ∀ y ∈ ft_ys6, ft_P y := List.forall_mem_cons.mpr ⟨ft_P364, List.forall_mem_cons.mpr ⟨ft_P365, List.forall_mem_cons.mpr ⟨ft_P366, List.forall_mem_cons.mpr ⟨ft_P367, List.forall_mem_cons.mpr ⟨ft_P368, List.forall_mem_cons.mpr ⟨ft_P369, List.forall_mem_cons.mpr ⟨ft_P370, List.forall_mem_cons.mpr ⟨ft_P371, List.forall_mem_cons.mpr ⟨ft_P372, List.forall_mem_cons.mpr ⟨ft_P373, List.forall_mem_cons.mpr ⟨ft_P374, List.forall_mem_cons.mpr ⟨ft_P375, List.forall_mem_cons.mpr ⟨ft_P376, List.forall_mem_cons.mpr ⟨ft_P377, List.forall_mem_cons.mpr ⟨ft_P378, List.forall_mem_cons.mpr ⟨ft_P379, List.forall_mem_cons.mpr ⟨ft_P380, List.forall_mem_cons.mpr ⟨ft_P381, List.forall_mem_cons.mpr ⟨ft_P383, List.forall_mem_cons.mpr ⟨ft_P384, fun _ h => absurd h List.not_mem_nil⟩⟩⟩⟩⟩⟩⟩⟩⟩⟩⟩⟩⟩⟩⟩⟩⟩⟩⟩⟩
def ft_ys7 : List Nat := [385, 386, 387, 389, 390, 393, 394, 395, 397, 398, 399, 400, 406, 412, 423, 425, 426, 427, 428, 429]
theorem ft_Q7 : ∀ y ∈ ft_ys7, ft_P y := List.forall_mem_cons.mpr ⟨ft_P385, List.forall_mem_cons.mpr ⟨ft_P386, List.forall_mem_cons.mpr ⟨ft_P387, List.forall_mem_cons.mpr ⟨ft_P389, List.forall_mem_cons.mpr ⟨ft_P390, List.forall_mem_cons.mpr ⟨ft_P393, List.forall_mem_cons.mpr ⟨ft_P394, List.forall_mem_cons.mpr ⟨ft_P395, List.forall_mem_cons.mpr ⟨ft_P397, List.forall_mem_cons.mpr ⟨ft_P398, List.forall_mem_cons.mpr ⟨ft_P399, List.forall_mem_cons.mpr ⟨ft_P400, List.forall_mem_cons.mpr ⟨ft_P406, List.forall_mem_cons.mpr ⟨ft_P412, List.forall_mem_cons.mpr ⟨ft_P423, List.forall_mem_cons.mpr ⟨ft_P425, List.forall_mem_cons.mpr ⟨ft_P426, List.forall_mem_cons.mpr ⟨ft_P427, List.forall_mem_cons.mpr ⟨ft_P428, List.forall_mem_cons.mpr ⟨ft_P429, fun _ h => absurd h List.not_mem_nil⟩⟩⟩⟩⟩⟩⟩⟩⟩⟩⟩⟩⟩⟩⟩⟩⟩⟩⟩⟩
def ft_ys8 : List Nat := [430, 431, 432, 450, 459, 464, 469, 474, 484, 485, 486, 487, 488, 489, 490, 498, 499, 501, 502, 504]
theorem ft_Q8 : ∀ y ∈ ft_ys8, ft_P y := List.forall_mem_cons.mpr ⟨ft_P430, List.forall_mem_cons.mpr ⟨ft_P431, List.forall_mem_cons.mpr ⟨ft_P432, List.forall_mem_cons.mpr ⟨ft_P450, List.forall_mem_cons.mpr ⟨ft_P459, List.forall_mem_cons.mpr ⟨ft_P464, List.forall_mem_cons.mpr ⟨ft_P469, List.forall_mem_cons.mpr ⟨ft_P474, List.forall_mem_cons.mpr ⟨ft_P484, List.forall_mem_cons.mpr ⟨ft_P485, List.forall_mem_cons.mpr ⟨ft_P486, List.forall_mem_cons.mpr ⟨ft_P487, List.forall_mem_cons.mpr ⟨ft_P488, List.forall_mem_cons.mpr ⟨ft_P489, List.forall_mem_cons.mpr ⟨ft_P490, List.forall_mem_cons.mpr ⟨ft_P498, List.forall_mem_cons.mpr ⟨ft_P499, List.forall_mem_cons.mpr ⟨ft_P501, List.forall_mem_cons.mpr ⟨ft_P502, List.forall_mem_cons.mpr ⟨ft_P504, fun _ h => absurd h List.not_mem_nil⟩⟩⟩⟩⟩⟩⟩⟩⟩⟩⟩⟩⟩⟩⟩⟩⟩⟩⟩⟩
def ft_ys : List Nat := ft_ys0 ++ (ft_ys1 ++ (ft_ys2 ++ (ft_ys3 ++ (ft_ys4 ++ (ft_ys5 ++ (ft_ys6 ++ (ft_ys7 ++ (ft_ys8))))))))
theorem ft_Q : ∀ y ∈ ft_ys, ft_P y := List.forall_mem_append.mpr ⟨ft_Q0, List.forall_mem_append.mpr ⟨ft_Q1, List.forall_mem_append.mpr ⟨ft_Q2, List.forall_mem_append.mpr ⟨ft_Q3, List.forall_mem_append.mpr ⟨ft_Q4, List.forall_mem_append.mpr ⟨ft_Q5, List.forall_mem_append.mpr ⟨ft_Q6, List.forall_mem_append.mpr ⟨ft_Q7, ft_Q8⟩⟩⟩⟩⟩⟩⟩⟩
set_option maxRecDepth 100000 in
theorem ft_I_in : ft_all ft_I (fun y _ => ft_ys.any (fun z => Nat.beq z y)) = true := by decide +kernel
theorem ft_gI_eq : ft_gI = mv_gI ab_G0 := by
  funext y pc
  unfold ft_gI
  split
  · rename_i t ht
    refine ft_or_eq fun r hr => ?_
    obtain ⟨z, hz, e⟩ := List.any_eq_true.mp (ft_two_ok ft_I_in ht)
    have e := Nat.eq_of_beq_eq_true e
    subst e
    exact ft_Q z hz t ht pc r hr
  · exact ft_or_eq fun r hr => by cases hr
/-- the fast tables in one -/
def ft_G : mv_G := (ft_gI, ft_gF, mv_gN ab_G0, mv_gA ab_G0, ft_gC, mv_gK ab_G0, ft_gL, mv_gH ab_G0, mv_gZ ab_G0, mv_gD ab_G0, mv_gT ab_G0, mv_gP ab_G0, mv_gQ ab_G0, mv_gY ab_G0, mv_gE ab_G0, mv_gR ab_G0, mv_gW ab_G0, mv_gX ab_G0, mv_gM ab_G0, mv_gS ab_G0)
theorem ft_G_eq : ft_G = ab_G0 := by
  unfold ft_G
  rw [ft_gI_eq, ft_gF_eq, ft_gC_eq, ft_gL_eq]
  rfl
