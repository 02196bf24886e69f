/-! Math.min: instructions (30.sx.py) -/
def si_22 : List (Nat × Instr × Nat) := [(0, .iload_n 0, 1), (1, .iload_n 1, 1), (2, .if_icmp .gt 7, 3), (5, .iload_n 0, 1), (6, .goto 4, 3), (9, .iload_n 1, 1), (10, .ireturn, 1)]
set_option maxRecDepth 100000 in
theorem si_ok_22 : si_22.all (si_is 22) = true := by decide +kernel
/-! Math.min: blocks (blocks.py) -/
set_option maxRecDepth 100000 in
theorem b22_0 {N : Nat} {X : Nat → Int32} {d : Nat} {x0 x1 : Int} {M : me_M} {Q : me_Q} (h : me_r x0 ∧ me_r x1 ∧ (x1 < x0 → Q (.inr (some (.inl x1))) M) ∧ (x0 ≤ x1 → Q (.inr (some (.inl x0))) M)) : me_W (mt_G N X) 22 d 0 [some (.inl x0), some (.inl x1)] [] M Q := sx_ok (n := 7) (pv := 1) (cut := []) si_ok_22 h
