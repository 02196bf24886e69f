/-! ask -/
def ab_w3 : List (Nat × List (List Int)) := [(21, [[-1, 0, 1, 2, 3, 4, 5, 6, 7, 8, 9, 10, 11]])]
set_option maxRecDepth 1000000 in
theorem ab_c3 : ab_chk ab_w3 = true := ab_nat1 (by decide +kernel)
