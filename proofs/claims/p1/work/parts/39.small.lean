/-! the calls that end soon -/
theorem ab_nat1 {b : Bool} (h : b.toNat = 1) : b = true := by
  cases b
  · cases h
  · rfl
def ab_w1 : List (Nat × List (List Int)) := [(0, []), (1, [[-1, 0]]), (3, []), (4, [[-1, 0, 1, 2, 3]]), (5, [[-1, 0, 1, 2, 3], [-1]]), (7, [])]
set_option maxRecDepth 1000000 in
theorem ab_c1 : ab_chk ab_w1 = true := ab_nat1 (by decide +kernel)
def ab_w6 : List (Nat × List (List Int)) := [(10, [[-1, 4]]), (11, [[-1, 4]]), (15, []), (16, []), (18, [[-1, 4]]), (19, []), (20, [[0, 20]]), (22, []), (23, []), (24, []), (25, []), (26, []), (28, [[-1], [-1, 1]]), (29, []), (31, [[-1], [-1, 1]])]
set_option maxRecDepth 1000000 in
theorem ab_c6 : ab_chk ab_w6 = true := ab_nat1 (by decide +kernel)
