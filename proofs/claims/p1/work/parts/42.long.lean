/-! load, run, recipe, alike -/
def ab_w4 : List (Nat × List (List Int)) := [(17, [[-1, 0, 1]]), (27, []), (30, [[4, 100]])]
set_option maxRecDepth 1000000 in
theorem ab_c4 : ab_chk ab_w4 = true := ab_nat1 (by decide +kernel)
