/-! the fast tables are right: decoded instructions, method by method (printed by wip/whole/gen30.py) -/
def ft_all {α : Type} (t : List (List (Option α))) (p : Nat → α → Bool) : Bool := t.zipIdx.all fun q => q.1.zipIdx.all fun w => match w.1 with
  | none => true
  | some a => p (32 * q.2 + w.2) a
theorem ft_two_ok {α : Type} {t : List (List (Option α))} {p : Nat → α → Bool} (h : ft_all t p = true) {i : Nat} {a : α} (hi : ft_two t i = some a) : p i a = true := by
  unfold ft_two at hi
  split at hi
  · rename_i r hr
    split at hi
    · rename_i o ho
      subst hi
      have h1 := List.all_eq_true.mp h (r, i / 32) (List.mem_of_getElem? (i := i / 32) (by rw [List.getElem?_zipIdx, hr]; simp))
      have h2 := List.all_eq_true.mp h1 (some a, i % 32) (List.mem_of_getElem? (i := i % 32) (by rw [List.getElem?_zipIdx, ho]; simp))
      have h3 : 32 * (i / 32) + i % 32 = i := Nat.div_add_mod i 32
      have h2 : p (32 * (i / 32) + i % 32) a = true := h2
      rw [h3] at h2
      exact h2
    · cases hi
  · cases hi
def ft_pD (b : ByteArray) (pc : Nat) (r : Instr × Nat) : Bool := decide (decode b pc = .ok r)
def ft_row {α : Type} (r : List (Option α)) (c : Nat) (p : Nat → α → Bool) : Bool := r.zipIdx.all fun w => match w.1 with
  | none => true
  | some a => p (32 * c + w.2) a
theorem ft_rows {α : Type} {t : List (List (Option α))} {p : Nat → α → Bool} {k : Nat} (hl : t.length ≤ k) (h : ∀ c, c < k → ft_row (t.getD c []) c p = true) : ft_all t p = true := by
  refine List.all_eq_true.mpr fun q hq => ?_
  obtain ⟨j, hj⟩ := List.mem_iff_getElem?.mp hq
  rw [List.getElem?_zipIdx] at hj
  obtain ⟨r, hr, e⟩ := Option.map_eq_some_iff.mp hj
  subst e
  have h1 := h j (Nat.lt_of_lt_of_le (List.getElem?_eq_some_iff.mp hr).1 hl)
  rw [List.getD_eq_getElem?_getD, hr] at h1
  have e2 : (r, 0 + j) = (r, j) := by rw [Nat.zero_add]
  rw [e2]
  exact h1
set_option maxRecDepth 100000 in
theorem ft_d0_0 : ft_row (ft_I0.getD 0 []) 0 (ft_pD code) = true := by decide +kernel
set_option maxRecDepth 100000 in
theorem ft_d0_1 : ft_row (ft_I0.getD 1 []) 1 (ft_pD code) = true := by decide +kernel
set_option maxRecDepth 100000 in
theorem ft_d0_2 : ft_row (ft_I0.getD 2 []) 2 (ft_pD code) = true := by decide +kernel
set_option maxRecDepth 100000 in
theorem ft_d0_3 : ft_row (ft_I0.getD 3 []) 3 (ft_pD code) = true := by decide +kernel
set_option maxRecDepth 100000 in
theorem ft_d0_4 : ft_row (ft_I0.getD 4 []) 4 (ft_pD code) = true := by decide +kernel
set_option maxRecDepth 100000 in
theorem ft_d0_5 : ft_row (ft_I0.getD 5 []) 5 (ft_pD code) = true := by decide +kernel
set_option maxRecDepth 100000 in
theorem ft_d0_6 : ft_row (ft_I0.getD 6 []) 6 (ft_pD code) = true := by decide +kernel
set_option maxRecDepth 100000 in
theorem ft_d0_7 : ft_row (ft_I0.getD 7 []) 7 (ft_pD code) = true := by decide +kernel
set_option maxRecDepth 100000 in
theorem ft_d0_8 : ft_row (ft_I0.getD 8 []) 8 (ft_pD code) = true := by decide +kernel
set_option maxRecDepth 100000 in
theorem ft_d0_9 : ft_row (ft_I0.getD 9 []) 9 (ft_pD code) = true := by decide +kernel
set_option maxRecDepth 100000 in
theorem ft_d0_10 : ft_row (ft_I0.getD 10 []) 10 (ft_pD code) = true := by decide +kernel
set_option maxRecDepth 100000 in
theorem ft_d0_11 : ft_row (ft_I0.getD 11 []) 11 (ft_pD code) = true := by decide +kernel
set_option maxRecDepth 100000 in
theorem ft_d0_12 : ft_row (ft_I0.getD 12 []) 12 (ft_pD code) = true := by decide +kernel
set_option maxRecDepth 100000 in
theorem ft_d0_13 : ft_row (ft_I0.getD 13 []) 13 (ft_pD code) = true := by decide +kernel
set_option maxRecDepth 100000 in
theorem ft_d0_14 : ft_row (ft_I0.getD 14 []) 14 (ft_pD code) = true := by decide +kernel
set_option maxRecDepth 100000 in
theorem ft_d0_15 : ft_row (ft_I0.getD 15 []) 15 (ft_pD code) = true := by decide +kernel
set_option maxRecDepth 100000 in
theorem ft_d0_16 : ft_row (ft_I0.getD 16 []) 16 (ft_pD code) = true := by decide +kernel
set_option maxRecDepth 100000 in
theorem ft_d0_17 : ft_row (ft_I0.getD 17 []) 17 (ft_pD code) = true := by decide +kernel
set_option maxRecDepth 100000 in
theorem ft_d0_18 : ft_row (ft_I0.getD 18 []) 18 (ft_pD code) = true := by decide +kernel
set_option maxRecDepth 100000 in
theorem ft_d0_19 : ft_row (ft_I0.getD 19 []) 19 (ft_pD code) = true := by decide +kernel
set_option maxRecDepth 100000 in
theorem ft_d0_20 : ft_row (ft_I0.getD 20 []) 20 (ft_pD code) = true := by decide +kernel
set_option maxRecDepth 100000 in
theorem ft_d0_21 : ft_row (ft_I0.getD 21 []) 21 (ft_pD code) = true := by decide +kernel
set_option maxRecDepth 100000 in
theorem ft_d0_22 : ft_row (ft_I0.getD 22 []) 22 (ft_pD code) = true := by decide +kernel
set_option maxRecDepth 100000 in
theorem ft_d0_23 : ft_row (ft_I0.getD 23 []) 23 (ft_pD code) = true := by decide +kernel
set_option maxRecDepth 100000 in
theorem ft_d0_24 : ft_row (ft_I0.getD 24 []) 24 (ft_pD code) = true := by decide +kernel
set_option maxRecDepth 100000 in
theorem ft_d0_25 : ft_row (ft_I0.getD 25 []) 25 (ft_pD code) = true := by decide +kernel
set_option maxRecDepth 100000 in
theorem ft_d0_26 : ft_row (ft_I0.getD 26 []) 26 (ft_pD code) = true := by decide +kernel
set_option maxRecDepth 100000 in
theorem ft_d0_27 : ft_row (ft_I0.getD 27 []) 27 (ft_pD code) = true := by decide +kernel
set_option maxRecDepth 100000 in
theorem ft_d0_28 : ft_row (ft_I0.getD 28 []) 28 (ft_pD code) = true := by decide +kernel
set_option maxRecDepth 100000 in
theorem ft_d0_29 : ft_row (ft_I0.getD 29 []) 29 (ft_pD code) = true := by decide +kernel
set_option maxRecDepth 100000 in
theorem ft_d0_30 : ft_row (ft_I0.getD 30 []) 30 (ft_pD code) = true := by decide +kernel
theorem ft_d0 : ft_all ft_I0 (ft_pD code) = true := ft_rows (k := 31) (by decide +kernel) fun c hc => match c, hc with
  | 0, _ => ft_d0_0
  | 1, _ => ft_d0_1
  | 2, _ => ft_d0_2
  | 3, _ => ft_d0_3
  | 4, _ => ft_d0_4
  | 5, _ => ft_d0_5
  | 6, _ => ft_d0_6
  | 7, _ => ft_d0_7
  | 8, _ => ft_d0_8
  | 9, _ => ft_d0_9
  | 10, _ => ft_d0_10
  | 11, _ => ft_d0_11
  | 12, _ => ft_d0_12
  | 13, _ => ft_d0_13
  | 14, _ => ft_d0_14
  | 15, _ => ft_d0_15
  | 16, _ => ft_d0_16
  | 17, _ => ft_d0_17
  | 18, _ => ft_d0_18
  | 19, _ => ft_d0_19
  | 20, _ => ft_d0_20
  | 21, _ => ft_d0_21
  | 22, _ => ft_d0_22
  | 23, _ => ft_d0_23
  | 24, _ => ft_d0_24
  | 25, _ => ft_d0_25
  | 26, _ => ft_d0_26
  | 27, _ => ft_d0_27
  | 28, _ => ft_d0_28
  | 29, _ => ft_d0_29
  | 30, _ => ft_d0_30
  | n + 31, h => absurd h (by omega)
set_option maxRecDepth 100000 in
theorem ft_d1 : ft_all ft_I1 (ft_pD prog_1_method_1_code) = true := by decide +kernel
set_option maxRecDepth 100000 in
theorem ft_d2 : ft_all ft_I2 (ft_pD prog_11_method_1_code) = true := by decide +kernel
set_option maxRecDepth 100000 in
theorem ft_d3 : ft_all ft_I3 (ft_pD prog_8_method_1_code) = true := by decide +kernel
set_option maxRecDepth 100000 in
theorem ft_d4 : ft_all ft_I4 (ft_pD prog_9_method_1_code) = true := by decide +kernel
set_option maxRecDepth 100000 in
theorem ft_d5 : ft_all ft_I5 (ft_pD prog_4_method_1_code) = true := by decide +kernel
set_option maxRecDepth 100000 in
theorem ft_d6 : ft_all ft_I6 (ft_pD prog_2_method_1_code) = true := by decide +kernel
set_option maxRecDepth 100000 in
theorem ft_d7 : ft_all ft_I7 (ft_pD prog_6_method_1_code) = true := by decide +kernel
set_option maxRecDepth 100000 in
theorem ft_d8 : ft_all ft_I8 (ft_pD prog_10_method_1_code) = true := by decide +kernel
set_option maxRecDepth 100000 in
theorem ft_d9 : ft_all ft_I9 (ft_pD prog_7_method_1_code) = true := by decide +kernel
set_option maxRecDepth 100000 in
theorem ft_d10 : ft_all ft_I10 (ft_pD prog_1_method_2_code) = true := by decide +kernel
set_option maxRecDepth 100000 in
theorem ft_d11 : ft_all ft_I11 (ft_pD prog_1_method_3_code) = true := by decide +kernel
set_option maxRecDepth 100000 in
theorem ft_d12 : ft_all ft_I12 (ft_pD prog_1_method_4_code) = true := by decide +kernel
set_option maxRecDepth 100000 in
theorem ft_d13 : ft_all ft_I13 (ft_pD prog_1_method_5_code) = true := by decide +kernel
set_option maxRecDepth 100000 in
theorem ft_d14 : ft_all ft_I14 (ft_pD prog_10_method_3_code) = true := by decide +kernel
set_option maxRecDepth 100000 in
theorem ft_d15 : ft_all ft_I15 (ft_pD prog_10_method_9_code) = true := by decide +kernel
set_option maxRecDepth 100000 in
theorem ft_d16 : ft_all ft_I16 (ft_pD prog_11_method_3_code) = true := by decide +kernel
set_option maxRecDepth 100000 in
theorem ft_d17 : ft_all ft_I17 (ft_pD prog_11_method_2_code) = true := by decide +kernel
set_option maxRecDepth 100000 in
theorem ft_d18 : ft_all ft_I18 (ft_pD prog_10_method_2_code) = true := by decide +kernel
set_option maxRecDepth 100000 in
theorem ft_d19 : ft_all ft_I19 (ft_pD prog_26_method_103_code) = true := by decide +kernel
set_option maxRecDepth 100000 in
theorem ft_d20 : ft_all ft_I20 (ft_pD prog_11_method_5_code) = true := by decide +kernel
set_option maxRecDepth 100000 in
theorem ft_d21 : ft_all ft_I21 (ft_pD prog_11_method_6_code) = true := by decide +kernel
set_option maxRecDepth 100000 in
theorem ft_d22 : ft_all ft_I22 (ft_pD prog_19_method_69_code) = true := by decide +kernel
set_option maxRecDepth 100000 in
theorem ft_d23 : ft_all ft_I23 (ft_pD prog_11_method_7_code) = true := by decide +kernel
set_option maxRecDepth 100000 in
theorem ft_d34 : ft_all ft_I34 (ft_pD prog_11_method_12_code) = true := by decide +kernel
set_option maxRecDepth 100000 in
theorem ft_d36 : ft_all ft_I36 (ft_pD prog_11_method_14_code) = true := by decide +kernel
set_option maxRecDepth 100000 in
theorem ft_d37 : ft_all ft_I37 (ft_pD prog_11_method_13_code) = true := by decide +kernel
set_option maxRecDepth 100000 in
theorem ft_d52 : ft_all ft_I52 (ft_pD prog_11_method_28_code) = true := by decide +kernel
set_option maxRecDepth 100000 in
theorem ft_d53 : ft_all ft_I53 (ft_pD prog_11_method_31_code) = true := by decide +kernel
set_option maxRecDepth 100000 in
theorem ft_d54 : ft_all ft_I54 (ft_pD prog_11_method_32_code) = true := by decide +kernel
set_option maxRecDepth 100000 in
theorem ft_d55 : ft_all ft_I55 (ft_pD prog_11_method_33_code) = true := by decide +kernel
set_option maxRecDepth 100000 in
theorem ft_d61 : ft_all ft_I61 (ft_pD prog_11_method_27_code) = true := by decide +kernel
set_option maxRecDepth 100000 in
theorem ft_d62 : ft_all ft_I62 (ft_pD prog_11_method_29_code) = true := by decide +kernel
set_option maxRecDepth 100000 in
theorem ft_d65 : ft_all ft_I65 (ft_pD prog_1_method_6_code) = true := by decide +kernel
set_option maxRecDepth 100000 in
theorem ft_d66 : ft_all ft_I66 (ft_pD prog_6_method_2_code) = true := by decide +kernel
set_option maxRecDepth 100000 in
theorem ft_d67 : ft_all ft_I67 (ft_pD prog_7_method_2_code) = true := by decide +kernel
set_option maxRecDepth 100000 in
theorem ft_d68 : ft_all ft_I68 (ft_pD prog_10_method_8_code) = true := by decide +kernel
set_option maxRecDepth 100000 in
theorem ft_d69 : ft_all ft_I69 (ft_pD prog_1_method_7_code) = true := by decide +kernel
set_option maxRecDepth 100000 in
theorem ft_d70 : ft_all ft_I70 (ft_pD prog_1_method_8_code) = true := by decide +kernel
set_option maxRecDepth 100000 in
theorem ft_d71 : ft_all ft_I71 (ft_pD prog_1_method_9_code) = true := by decide +kernel
set_option maxRecDepth 100000 in
theorem ft_d72 : ft_all ft_I72 (ft_pD prog_1_method_10_code) = true := by decide +kernel
set_option maxRecDepth 100000 in
theorem ft_d73 : ft_all ft_I73 (ft_pD prog_10_method_7_code) = true := by decide +kernel
set_option maxRecDepth 100000 in
theorem ft_d75 : ft_all ft_I75 (ft_pD prog_1_method_12_code) = true := by decide +kernel
set_option maxRecDepth 100000 in
theorem ft_d76 : ft_all ft_I76 (ft_pD prog_1_method_13_code) = true := by decide +kernel
set_option maxRecDepth 100000 in
theorem ft_d77 : ft_all ft_I77 (ft_pD prog_8_method_2_code) = true := by decide +kernel
set_option maxRecDepth 100000 in
theorem ft_d78 : ft_all ft_I78 (ft_pD prog_8_method_6_code) = true := by decide +kernel
set_option maxRecDepth 100000 in
theorem ft_d82 : ft_all ft_I82 (ft_pD prog_8_method_7_code) = true := by decide +kernel
set_option maxRecDepth 100000 in
theorem ft_d84 : ft_all ft_I84 (ft_pD prog_8_method_9_code) = true := by decide +kernel
set_option maxRecDepth 100000 in
theorem ft_d110 : ft_all ft_I110 (ft_pD prog_8_method_28_code) = true := by decide +kernel
set_option maxRecDepth 100000 in
theorem ft_d116 : ft_all ft_I116 (ft_pD prog_8_method_34_code) = true := by decide +kernel
set_option maxRecDepth 100000 in
theorem ft_d117 : ft_all ft_I117 (ft_pD prog_8_method_35_code) = true := by decide +kernel
set_option maxRecDepth 100000 in
theorem ft_d121 : ft_all ft_I121 (ft_pD prog_1_method_14_code) = true := by decide +kernel
set_option maxRecDepth 100000 in
theorem ft_d122 : ft_all ft_I122 (ft_pD prog_10_method_12_code) = true := by decide +kernel
set_option maxRecDepth 100000 in
theorem ft_d123 : ft_all ft_I123 (ft_pD prog_1_method_15_code) = true := by decide +kernel
set_option maxRecDepth 100000 in
theorem ft_d124 : ft_all ft_I124 (ft_pD prog_10_method_25_code) = true := by decide +kernel
set_option maxRecDepth 100000 in
theorem ft_d125 : ft_all ft_I125 (ft_pD prog_1_method_16_code) = true := by decide +kernel
set_option maxRecDepth 100000 in
theorem ft_d126 : ft_all ft_I126 (ft_pD prog_10_method_14_code) = true := by decide +kernel
set_option maxRecDepth 100000 in
theorem ft_d127 : ft_all ft_I127 (ft_pD prog_1_method_17_code) = true := by decide +kernel
set_option maxRecDepth 100000 in
theorem ft_d128 : ft_all ft_I128 (ft_pD prog_10_method_15_code) = true := by decide +kernel
set_option maxRecDepth 100000 in
theorem ft_d129 : ft_all ft_I129 (ft_pD prog_1_method_18_code) = true := by decide +kernel
set_option maxRecDepth 100000 in
theorem ft_d130 : ft_all ft_I130 (ft_pD prog_10_method_13_code) = true := by decide +kernel
set_option maxRecDepth 100000 in
theorem ft_d133 : ft_all ft_I133 (ft_pD prog_1_method_19_code) = true := by decide +kernel
set_option maxRecDepth 100000 in
theorem ft_d135 : ft_all ft_I135 (ft_pD prog_1_method_20_code) = true := by decide +kernel
set_option maxRecDepth 100000 in
theorem ft_d137 : ft_all ft_I137 (ft_pD prog_1_method_21_code) = true := by decide +kernel
set_option maxRecDepth 100000 in
theorem ft_d138 : ft_all ft_I138 (ft_pD prog_1_method_22_code) = true := by decide +kernel
set_option maxRecDepth 100000 in
theorem ft_d139 : ft_all ft_I139 (ft_pD prog_1_method_23_code) = true := by decide +kernel
set_option maxRecDepth 100000 in
theorem ft_d140 : ft_all ft_I140 (ft_pD prog_1_method_24_code) = true := by decide +kernel
set_option maxRecDepth 100000 in
theorem ft_d142 : ft_all ft_I142 (ft_pD prog_9_method_2_code) = true := by decide +kernel
set_option maxRecDepth 100000 in
theorem ft_d143 : ft_all ft_I143 (ft_pD prog_9_method_3_code) = true := by decide +kernel
set_option maxRecDepth 100000 in
theorem ft_d147 : ft_all ft_I147 (ft_pD prog_9_method_20_code) = true := by decide +kernel
set_option maxRecDepth 100000 in
theorem ft_d148 : ft_all ft_I148 (ft_pD prog_9_method_22_code) = true := by decide +kernel
set_option maxRecDepth 100000 in
theorem ft_d151 : ft_all ft_I151 (ft_pD prog_9_method_9_code) = true := by decide +kernel
set_option maxRecDepth 100000 in
theorem ft_d174 : ft_all ft_I174 (ft_pD prog_1_method_25_code) = true := by decide +kernel
set_option maxRecDepth 100000 in
theorem ft_d175 : ft_all ft_I175 (ft_pD prog_1_method_26_code) = true := by decide +kernel
set_option maxRecDepth 100000 in
theorem ft_d176 : ft_all ft_I176 (ft_pD prog_1_method_27_code) = true := by decide +kernel
set_option maxRecDepth 100000 in
theorem ft_d178 : ft_all ft_I178 (ft_pD prog_1_method_29_code) = true := by decide +kernel
set_option maxRecDepth 100000 in
theorem ft_d179 : ft_all ft_I179 (ft_pD prog_2_method_2_code) = true := by decide +kernel
set_option maxRecDepth 100000 in
theorem ft_d180 : ft_all ft_I180 (ft_pD prog_4_method_2_code) = true := by decide +kernel
set_option maxRecDepth 100000 in
theorem ft_d181 : ft_all ft_I181 (ft_pD prog_2_method_3_code) = true := by decide +kernel
set_option maxRecDepth 100000 in
theorem ft_d182 : ft_all ft_I182 (ft_pD prog_2_method_4_code) = true := by decide +kernel
set_option maxRecDepth 100000 in
theorem ft_d183 : ft_all ft_I183 (ft_pD prog_2_method_8_code) = true := by decide +kernel
set_option maxRecDepth 100000 in
theorem ft_d184 : ft_all ft_I184 (ft_pD prog_2_method_7_code) = true := by decide +kernel
set_option maxRecDepth 100000 in
theorem ft_d247 : ft_all ft_I247 (ft_pD prog_1_method_30_code) = true := by decide +kernel
set_option maxRecDepth 100000 in
theorem ft_d248 : ft_all ft_I248 (ft_pD prog_1_method_31_code) = true := by decide +kernel
set_option maxRecDepth 100000 in
theorem ft_d250 : ft_all ft_I250 (ft_pD prog_1_method_32_code) = true := by decide +kernel
set_option maxRecDepth 100000 in
theorem ft_d253 : ft_all ft_I253 (ft_pD prog_1_method_33_code) = true := by decide +kernel
set_option maxRecDepth 100000 in
theorem ft_d256 : ft_all ft_I256 (ft_pD prog_1_method_34_code) = true := by decide +kernel
set_option maxRecDepth 100000 in
theorem ft_d257 : ft_all ft_I257 (ft_pD prog_1_method_36_code) = true := by decide +kernel
set_option maxRecDepth 100000 in
theorem ft_d258 : ft_all ft_I258 (ft_pD prog_6_method_3_code) = true := by decide +kernel
set_option maxRecDepth 100000 in
theorem ft_d259 : ft_all ft_I259 (ft_pD prog_11_method_4_code) = true := by decide +kernel
set_option maxRecDepth 100000 in
theorem ft_d269 : ft_all ft_I269 (ft_pD prog_1_method_37_code) = true := by decide +kernel
set_option maxRecDepth 100000 in
theorem ft_d270 : ft_all ft_I270 (ft_pD prog_6_method_7_code) = true := by decide +kernel
set_option maxRecDepth 100000 in
theorem ft_d271 : ft_all ft_I271 (ft_pD prog_1_method_38_code) = true := by decide +kernel
set_option maxRecDepth 100000 in
theorem ft_d274 : ft_all ft_I274 (ft_pD prog_1_method_39_code) = true := by decide +kernel
set_option maxRecDepth 100000 in
theorem ft_d275 : ft_all ft_I275 (ft_pD prog_6_method_16_code) = true := by decide +kernel
set_option maxRecDepth 100000 in
theorem ft_d278 : ft_all ft_I278 (ft_pD prog_1_method_40_code) = true := by decide +kernel
set_option maxRecDepth 100000 in
theorem ft_d279 : ft_all ft_I279 (ft_pD prog_14_method_34_code) = true := by decide +kernel
set_option maxRecDepth 100000 in
theorem ft_d280 : ft_all ft_I280 (ft_pD prog_15_method_1_code) = true := by decide +kernel
set_option maxRecDepth 100000 in
theorem ft_d281 : ft_all ft_I281 (ft_pD prog_16_method_1_code) = true := by decide +kernel
set_option maxRecDepth 100000 in
theorem ft_d282 : ft_all ft_I282 (ft_pD prog_15_method_73_code) = true := by decide +kernel
set_option maxRecDepth 100000 in
theorem ft_d283 : ft_all ft_I283 (ft_pD prog_15_method_72_code) = true := by decide +kernel
set_option maxRecDepth 100000 in
theorem ft_d284 : ft_all ft_I284 (ft_pD prog_15_method_74_code) = true := by decide +kernel
set_option maxRecDepth 100000 in
theorem ft_d285 : ft_all ft_I285 (ft_pD prog_15_method_19_code) = true := by decide +kernel
set_option maxRecDepth 100000 in
theorem ft_d286 : ft_all ft_I286 (ft_pD prog_16_method_5_code) = true := by decide +kernel
set_option maxRecDepth 100000 in
theorem ft_d293 : ft_all ft_I293 (ft_pD prog_15_method_3_code) = true := by decide +kernel
set_option maxRecDepth 100000 in
theorem ft_d294 : ft_all ft_I294 (ft_pD prog_15_method_2_code) = true := by decide +kernel
set_option maxRecDepth 100000 in
theorem ft_d295 : ft_all ft_I295 (ft_pD prog_14_method_4_code) = true := by decide +kernel
set_option maxRecDepth 100000 in
theorem ft_d297 : ft_all ft_I297 (ft_pD prog_15_method_4_code) = true := by decide +kernel
set_option maxRecDepth 100000 in
theorem ft_d307 : ft_all ft_I307 (ft_pD prog_15_method_7_code) = true := by decide +kernel
set_option maxRecDepth 100000 in
theorem ft_d314 : ft_all ft_I314 (ft_pD prog_15_method_28_code) = true := by decide +kernel
set_option maxRecDepth 100000 in
theorem ft_d315 : ft_all ft_I315 (ft_pD prog_15_method_29_code) = true := by decide +kernel
set_option maxRecDepth 100000 in
theorem ft_d316 : ft_all ft_I316 (ft_pD prog_15_method_30_code) = true := by decide +kernel
set_option maxRecDepth 100000 in
theorem ft_d319 : ft_all ft_I319 (ft_pD prog_15_method_32_code) = true := by decide +kernel
set_option maxRecDepth 100000 in
theorem ft_d331 : ft_all ft_I331 (ft_pD prog_15_method_46_code) = true := by decide +kernel
set_option maxRecDepth 100000 in
theorem ft_d333 : ft_all ft_I333 (ft_pD prog_15_method_47_code) = true := by decide +kernel
set_option maxRecDepth 100000 in
theorem ft_d336 : ft_all ft_I336 (ft_pD prog_15_method_48_code) = true := by decide +kernel
set_option maxRecDepth 100000 in
theorem ft_d340 : ft_all ft_I340 (ft_pD prog_15_method_49_code) = true := by decide +kernel
set_option maxRecDepth 100000 in
theorem ft_d361 : ft_all ft_I361 (ft_pD prog_15_method_69_code) = true := by decide +kernel
set_option maxRecDepth 100000 in
theorem ft_d362 : ft_all ft_I362 (ft_pD prog_15_method_68_code) = true := by decide +kernel
set_option maxRecDepth 100000 in
theorem ft_d363 : ft_all ft_I363 (ft_pD prog_14_method_35_code) = true := by decide +kernel
set_option maxRecDepth 100000 in
theorem ft_d364 : ft_all ft_I364 (ft_pD prog_14_method_105_code) = true := by decide +kernel
set_option maxRecDepth 100000 in
theorem ft_d365 : ft_all ft_I365 (ft_pD prog_14_method_106_code) = true := by decide +kernel
set_option maxRecDepth 100000 in
theorem ft_d366 : ft_all ft_I366 (ft_pD prog_14_method_107_code) = true := by decide +kernel
set_option maxRecDepth 100000 in
theorem ft_d367 : ft_all ft_I367 (ft_pD prog_14_method_111_code) = true := by decide +kernel
set_option maxRecDepth 100000 in
theorem ft_d368 : ft_all ft_I368 (ft_pD prog_14_method_108_code) = true := by decide +kernel
set_option maxRecDepth 100000 in
theorem ft_d369 : ft_all ft_I369 (ft_pD prog_14_method_110_code) = true := by decide +kernel
set_option maxRecDepth 100000 in
theorem ft_d370 : ft_all ft_I370 (ft_pD prog_14_method_109_code) = true := by decide +kernel
set_option maxRecDepth 100000 in
theorem ft_d371 : ft_all ft_I371 (ft_pD prog_14_method_38_code) = true := by decide +kernel
set_option maxRecDepth 100000 in
theorem ft_d372 : ft_all ft_I372 (ft_pD prog_14_method_112_code) = true := by decide +kernel
set_option maxRecDepth 100000 in
theorem ft_d373 : ft_all ft_I373 (ft_pD prog_14_method_113_code) = true := by decide +kernel
set_option maxRecDepth 100000 in
theorem ft_d374 : ft_all ft_I374 (ft_pD prog_14_method_114_code) = true := by decide +kernel
set_option maxRecDepth 100000 in
theorem ft_d375 : ft_all ft_I375 (ft_pD prog_14_method_115_code) = true := by decide +kernel
set_option maxRecDepth 100000 in
theorem ft_d376 : ft_all ft_I376 (ft_pD prog_15_method_75_code) = true := by decide +kernel
set_option maxRecDepth 100000 in
theorem ft_d377 : ft_all ft_I377 (ft_pD prog_14_method_116_code) = true := by decide +kernel
set_option maxRecDepth 100000 in
theorem ft_d378 : ft_all ft_I378 (ft_pD prog_14_method_117_code) = true := by decide +kernel
set_option maxRecDepth 100000 in
theorem ft_d379 : ft_all ft_I379 (ft_pD prog_15_method_76_code) = true := by decide +kernel
set_option maxRecDepth 100000 in
theorem ft_d380 : ft_all ft_I380 (ft_pD prog_14_method_118_code) = true := by decide +kernel
set_option maxRecDepth 100000 in
theorem ft_d381 : ft_all ft_I381 (ft_pD prog_15_method_78_code) = true := by decide +kernel
set_option maxRecDepth 100000 in
theorem ft_d383 : ft_all ft_I383 (ft_pD prog_14_method_119_code) = true := by decide +kernel
set_option maxRecDepth 100000 in
theorem ft_d384 : ft_all ft_I384 (ft_pD prog_14_method_120_code) = true := by decide +kernel
set_option maxRecDepth 100000 in
theorem ft_d385 : ft_all ft_I385 (ft_pD prog_14_method_122_code) = true := by decide +kernel
set_option maxRecDepth 100000 in
theorem ft_d386 : ft_all ft_I386 (ft_pD prog_14_method_121_code) = true := by decide +kernel
set_option maxRecDepth 100000 in
theorem ft_d387 : ft_all ft_I387 (ft_pD prog_15_method_77_code) = true := by decide +kernel
set_option maxRecDepth 100000 in
theorem ft_d389 : ft_all ft_I389 (ft_pD prog_14_method_123_code) = true := by decide +kernel
set_option maxRecDepth 100000 in
theorem ft_d390 : ft_all ft_I390 (ft_pD prog_14_method_124_code) = true := by decide +kernel
set_option maxRecDepth 100000 in
theorem ft_d393 : ft_all ft_I393 (ft_pD prog_14_method_125_code) = true := by decide +kernel
set_option maxRecDepth 100000 in
theorem ft_d394 : ft_all ft_I394 (ft_pD prog_14_method_126_code) = true := by decide +kernel
set_option maxRecDepth 100000 in
theorem ft_d395 : ft_all ft_I395 (ft_pD prog_14_method_127_code) = true := by decide +kernel
set_option maxRecDepth 100000 in
theorem ft_d397 : ft_all ft_I397 (ft_pD prog_14_method_17_code) = true := by decide +kernel
set_option maxRecDepth 100000 in
theorem ft_d398 : ft_all ft_I398 (ft_pD prog_14_method_14_code) = true := by decide +kernel
set_option maxRecDepth 100000 in
theorem ft_d399 : ft_all ft_I399 (ft_pD prog_14_method_8_code) = true := by decide +kernel
set_option maxRecDepth 100000 in
theorem ft_d400 : ft_all ft_I400 (ft_pD prog_14_method_7_code) = true := by decide +kernel
set_option maxRecDepth 100000 in
theorem ft_d406 : ft_all ft_I406 (ft_pD prog_14_method_30_code) = true := by decide +kernel
set_option maxRecDepth 100000 in
theorem ft_d412 : ft_all ft_I412 (ft_pD prog_14_method_15_code) = true := by decide +kernel
set_option maxRecDepth 100000 in
theorem ft_d423 : ft_all ft_I423 (ft_pD prog_14_method_18_code) = true := by decide +kernel
set_option maxRecDepth 100000 in
theorem ft_d425 : ft_all ft_I425 (ft_pD prog_14_method_128_code) = true := by decide +kernel
set_option maxRecDepth 100000 in
theorem ft_d426 : ft_all ft_I426 (ft_pD prog_14_method_129_code) = true := by decide +kernel
set_option maxRecDepth 100000 in
theorem ft_d427 : ft_all ft_I427 (ft_pD prog_14_method_130_code) = true := by decide +kernel
set_option maxRecDepth 100000 in
theorem ft_d428 : ft_all ft_I428 (ft_pD prog_14_method_131_code) = true := by decide +kernel
set_option maxRecDepth 100000 in
theorem ft_d429 : ft_all ft_I429 (ft_pD prog_14_method_74_code) = true := by decide +kernel
set_option maxRecDepth 100000 in
theorem ft_d430 : ft_all ft_I430 (ft_pD prog_14_method_65_code) = true := by decide +kernel
set_option maxRecDepth 100000 in
theorem ft_d431 : ft_all ft_I431 (ft_pD prog_14_method_75_code) = true := by decide +kernel
set_option maxRecDepth 100000 in
theorem ft_d432 : ft_all ft_I432 (ft_pD prog_14_method_59_code) = true := by decide +kernel
set_option maxRecDepth 100000 in
theorem ft_d450 : ft_all ft_I450 (ft_pD prog_14_method_76_code) = true := by decide +kernel
set_option maxRecDepth 100000 in
theorem ft_d459 : ft_all ft_I459 (ft_pD prog_14_method_78_code) = true := by decide +kernel
set_option maxRecDepth 100000 in
theorem ft_d464_0 : ft_row (ft_I464.getD 0 []) 0 (ft_pD prog_14_method_79_code) = true := by decide +kernel
set_option maxRecDepth 100000 in
theorem ft_d464_1 : ft_row (ft_I464.getD 1 []) 1 (ft_pD prog_14_method_79_code) = true := by decide +kernel
set_option maxRecDepth 100000 in
theorem ft_d464_2 : ft_row (ft_I464.getD 2 []) 2 (ft_pD prog_14_method_79_code) = true := by decide +kernel
set_option maxRecDepth 100000 in
theorem ft_d464_3 : ft_row (ft_I464.getD 3 []) 3 (ft_pD prog_14_method_79_code) = true := by decide +kernel
set_option maxRecDepth 100000 in
theorem ft_d464_4 : ft_row (ft_I464.getD 4 []) 4 (ft_pD prog_14_method_79_code) = true := by decide +kernel
set_option maxRecDepth 100000 in
theorem ft_d464_5 : ft_row (ft_I464.getD 5 []) 5 (ft_pD prog_14_method_79_code) = true := by decide +kernel
set_option maxRecDepth 100000 in
theorem ft_d464_6 : ft_row (ft_I464.getD 6 []) 6 (ft_pD prog_14_method_79_code) = true := by decide +kernel
set_option maxRecDepth 100000 in
theorem ft_d464_7 : ft_row (ft_I464.getD 7 []) 7 (ft_pD prog_14_method_79_code) = true := by decide +kernel
set_option maxRecDepth 100000 in
theorem ft_d464_8 : ft_row (ft_I464.getD 8 []) 8 (ft_pD prog_14_method_79_code) = true := by decide +kernel
set_option maxRecDepth 100000 in
theorem ft_d464_9 : ft_row (ft_I464.getD 9 []) 9 (ft_pD prog_14_method_79_code) = true := by decide +kernel
set_option maxRecDepth 100000 in
theorem ft_d464_10 : ft_row (ft_I464.getD 10 []) 10 (ft_pD prog_14_method_79_code) = true := by decide +kernel
set_option maxRecDepth 100000 in
theorem ft_d464_11 : ft_row (ft_I464.getD 11 []) 11 (ft_pD prog_14_method_79_code) = true := by decide +kernel
set_option maxRecDepth 100000 in
theorem ft_d464_12 : ft_row (ft_I464.getD 12 []) 12 (ft_pD prog_14_method_79_code) = true := by decide +kernel
set_option maxRecDepth 100000 in
theorem ft_d464_13 : ft_row (ft_I464.getD 13 []) 13 (ft_pD prog_14_method_79_code) = true := by decide +kernel
set_option maxRecDepth 100000 in
theorem ft_d464_14 : ft_row (ft_I464.getD 14 []) 14 (ft_pD prog_14_method_79_code) = true := by decide +kernel
set_option maxRecDepth 100000 in
theorem ft_d464_15 : ft_row (ft_I464.getD 15 []) 15 (ft_pD prog_14_method_79_code) = true := by decide +kernel
set_option maxRecDepth 100000 in
theorem ft_d464_16 : ft_row (ft_I464.getD 16 []) 16 (ft_pD prog_14_method_79_code) = true := by decide +kernel
set_option maxRecDepth 100000 in
theorem ft_d464_17 : ft_row (ft_I464.getD 17 []) 17 (ft_pD prog_14_method_79_code) = true := by decide +kernel
set_option maxRecDepth 100000 in
theorem ft_d464_18 : ft_row (ft_I464.getD 18 []) 18 (ft_pD prog_14_method_79_code) = true := by decide +kernel
set_option maxRecDepth 100000 in
theorem ft_d464_19 : ft_row (ft_I464.getD 19 []) 19 (ft_pD prog_14_method_79_code) = true := by decide +kernel
set_option maxRecDepth 100000 in
theorem ft_d464_20 : ft_row (ft_I464.getD 20 []) 20 (ft_pD prog_14_method_79_code) = true := by decide +kernel
set_option maxRecDepth 100000 in
theorem ft_d464_21 : ft_row (ft_I464.getD 21 []) 21 (ft_pD prog_14_method_79_code) = true := by decide +kernel
set_option maxRecDepth 100000 in
theorem ft_d464_22 : ft_row (ft_I464.getD 22 []) 22 (ft_pD prog_14_method_79_code) = true := by decide +kernel
set_option maxRecDepth 100000 in
theorem ft_d464_23 : ft_row (ft_I464.getD 23 []) 23 (ft_pD prog_14_method_79_code) = true := by decide +kernel
set_option maxRecDepth 100000 in
theorem ft_d464_24 : ft_row (ft_I464.getD 24 []) 24 (ft_pD prog_14_method_79_code) = true := by decide +kernel
set_option maxRecDepth 100000 in
theorem ft_d464_25 : ft_row (ft_I464.getD 25 []) 25 (ft_pD prog_14_method_79_code) = true := by decide +kernel
set_option maxRecDepth 100000 in
theorem ft_d464_26 : ft_row (ft_I464.getD 26 []) 26 (ft_pD prog_14_method_79_code) = true := by decide +kernel
set_option maxRecDepth 100000 in
theorem ft_d464_27 : ft_row (ft_I464.getD 27 []) 27 (ft_pD prog_14_method_79_code) = true := by decide +kernel
set_option maxRecDepth 100000 in
theorem ft_d464_28 : ft_row (ft_I464.getD 28 []) 28 (ft_pD prog_14_method_79_code) = true := by decide +kernel
set_option maxRecDepth 100000 in
theorem ft_d464_29 : ft_row (ft_I464.getD 29 []) 29 (ft_pD prog_14_method_79_code) = true := by decide +kernel
theorem ft_d464 : ft_all ft_I464 (ft_pD prog_14_method_79_code) = true := ft_rows (k := 30) (by decide +kernel) fun c hc => match c, hc with
  | 0, _ => ft_d464_0
  | 1, _ => ft_d464_1
  | 2, _ => ft_d464_2
  | 3, _ => ft_d464_3
  | 4, _ => ft_d464_4
  | 5, _ => ft_d464_5
  | 6, _ => ft_d464_6
  | 7, _ => ft_d464_7
  | 8, _ => ft_d464_8
  | 9, _ => ft_d464_9
  | 10, _ => ft_d464_10
  | 11, _ => ft_d464_11
  | 12, _ => ft_d464_12
  | 13, _ => ft_d464_13
  | 14, _ => ft_d464_14
  | 15, _ => ft_d464_15
  | 16, _ => ft_d464_16
  | 17, _ => ft_d464_17
  | 18, _ => ft_d464_18
  | 19, _ => ft_d464_19
  | 20, _ => ft_d464_20
  | 21, _ => ft_d464_21
  | 22, _ => ft_d464_22
  | 23, _ => ft_d464_23
  | 24, _ => ft_d464_24
  | 25, _ => ft_d464_25
  | 26, _ => ft_d464_26
  | 27, _ => ft_d464_27
  | 28, _ => ft_d464_28
  | 29, _ => ft_d464_29
  | n + 30, h => absurd h (by omega)
set_option maxRecDepth 100000 in
theorem ft_d469 : ft_all ft_I469 (ft_pD prog_14_method_83_code) = true := by decide +kernel
set_option maxRecDepth 100000 in
theorem ft_d474 : ft_all ft_I474 (ft_pD prog_14_method_86_code) = true := by decide +kernel
set_option maxRecDepth 100000 in
theorem ft_d484 : ft_all ft_I484 (ft_pD prog_14_method_132_code) = true := by decide +kernel
set_option maxRecDepth 100000 in
theorem ft_d485 : ft_all ft_I485 (ft_pD prog_14_method_133_code) = true := by decide +kernel
set_option maxRecDepth 100000 in
theorem ft_d486 : ft_all ft_I486 (ft_pD prog_14_method_134_code) = true := by decide +kernel
set_option maxRecDepth 100000 in
theorem ft_d487 : ft_all ft_I487 (ft_pD prog_14_method_135_code) = true := by decide +kernel
set_option maxRecDepth 100000 in
theorem ft_d488 : ft_all ft_I488 (ft_pD prog_14_method_136_code) = true := by decide +kernel
set_option maxRecDepth 100000 in
theorem ft_d489 : ft_all ft_I489 (ft_pD prog_14_method_137_code) = true := by decide +kernel
set_option maxRecDepth 100000 in
theorem ft_d490 : ft_all ft_I490 (ft_pD prog_14_method_94_code) = true := by decide +kernel
set_option maxRecDepth 100000 in
theorem ft_d498 : ft_all ft_I498 (ft_pD prog_14_method_138_code) = true := by decide +kernel
set_option maxRecDepth 100000 in
theorem ft_d499 : ft_all ft_I499 (ft_pD prog_14_method_139_code) = true := by decide +kernel
set_option maxRecDepth 100000 in
theorem ft_d501 : ft_all ft_I501 (ft_pD prog_14_method_140_code) = true := by decide +kernel
set_option maxRecDepth 100000 in
theorem ft_d502 : ft_all ft_I502 (ft_pD prog_14_method_103_code) = true := by decide +kernel
set_option maxRecDepth 100000 in
theorem ft_d504 : ft_all ft_I504 (ft_pD prog_14_method_141_code) = true := by decide +kernel
