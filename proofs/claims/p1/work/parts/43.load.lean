/-! load -/
def ab_w5 : List (Nat × List (List Int)) := [(2, [[-1, 0, 1, 2, 3]])]
set_option maxRecDepth 1000000 in
theorem ab_c5 : ab_chk ab_w5 = true := ab_nat1 (by decide +kernel)
