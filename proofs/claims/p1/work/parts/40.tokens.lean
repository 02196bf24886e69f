/-! the calls that ask for a token -/
def ab_w2 : List (Nat × List (List Int)) := [(6, [[], [-1, 1]]), (8, [[], [-1, 1]]), (9, []), (12, []), (13, []), (14, [])]
set_option maxRecDepth 1000000 in
theorem ab_c2 : ab_chk ab_w2 = true := ab_nat1 (by decide +kernel)
