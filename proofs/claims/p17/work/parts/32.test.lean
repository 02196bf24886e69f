/-! try -/
set_option maxRecDepth 100000 in
theorem v1 {N : Nat} {X : Nat → Int32} : (match mv_gC (mt_G N X) 14 82 with | some (kd, z, n) => (match Nat.beq kd 7 with | true => True | false => False) | none => False) := trivial
set_option maxRecDepth 100000 in
theorem v2 {N : Nat} {X : Nat → Int32} : (match mv_gC (mt_G N X) 14 82 with | some (kd, z, n) => True | none => False) := trivial
set_option maxRecDepth 100000 in
theorem v3 {N : Nat} {X : Nat → Int32} : mv_gC (mt_G N X) 14 82 = some (7, 0, 5) := rfl
set_option maxRecDepth 100000 in
theorem v4 : (match some (7, 0, 5) with | some (kd, z, n) => (match Nat.beq kd 7 with | true => True | false => False) | none => False) := trivial
set_option maxRecDepth 100000 in
theorem v5 {N : Nat} {X : Nat → Int32} : (match mv_gC (mt_G N X) 14 82 with | some (kd, z, n) => (match Nat.beq kd 7 with | true => (match n with | 0 => False | 5 => True | _ => False) | false => False) | none => False) := trivial
theorem v6 {xs0 xs1 xs3 : Int} {b2 b1 ls2 ls4 : Nat} (h : b1 = b2) : (match (([.inl xs0, .inl xs1, .inr (.inl (some b2, 2, ls2)), .inl xs3, .inr (.inl (some b1, 2, ls4))] : List me_V)) with 
   | .inl n :: .inl dp :: .inr (.inl (p1, q1)) :: .inl sp :: .inr (.inl (p0, q0)) :: r => sx_b (Nat.beq q0.1 q1.1 && Nat.beq (q0.1 % 2) 0 && Nat.blt (q0.1 / 2) 3 && Nat.ble (r.length + 40) 60) (b1 = b2)
   | _ => False) := h
theorem v7 {ls2 ls4 : Nat} {P : Prop} (h : P) : sx_b (Nat.beq (2, ls2).1 (2, ls4).1 && Nat.beq ((2, ls2).1 % 2) 0 && Nat.blt ((2, ls2).1 / 2) 3) P := h
theorem v8 {ls2 ls4 : Nat} {P : Prop} (h : P) : sx_b (Nat.ble (([] : List me_V).length + 40) 60) P := h
