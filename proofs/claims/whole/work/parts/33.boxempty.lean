/-! boxes: the script of no call -/
set_option maxRecDepth 1000000 in
theorem ab_try0 : ab_ans (ab_run ft_G (ab_Ls 0) (fun _ => ab_full) 3000 0 2048 84000 ab_A0) = true := by decide +kernel
