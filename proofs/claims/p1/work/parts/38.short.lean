/-! scripts of no whole call -/
set_option maxRecDepth 1000000 in
theorem ab_s0 : ab_ans (ab_run ft_G (ab_Ls 0) (fun _ => ab_full) 3000 0 2048 84000 ab_A0) = true := by decide +kernel
set_option maxRecDepth 1000000 in
theorem ab_s1 : ab_ans (ab_run ft_G (ab_Ls 1) (fun _ => ab_full) 3000 0 2048 84000 ab_A0) = true := by decide +kernel
set_option maxRecDepth 1000000 in
theorem ab_s2 : ab_ans (ab_run ft_G (ab_Ls 2) (fun _ => ab_full) 3000 0 2048 84000 ab_A0) = true := by decide +kernel
set_option maxRecDepth 1000000 in
theorem ab_s3 : ab_ans (ab_run ft_G (ab_Ls 3) (fun _ => ab_full) 3000 0 2048 84000 ab_A0) = true := by decide +kernel
set_option maxRecDepth 1000000 in
theorem ab_s4 : ab_ans (ab_run ft_G (ab_Ls 4) (fun _ => ab_full) 3000 0 2048 84000 ab_A0) = true := by decide +kernel
set_option maxRecDepth 1000000 in
theorem ab_s5 : ab_ans (ab_run ft_G (ab_Ls 5) (fun _ => ab_full) 3000 0 2048 84000 ab_A0) = true := by decide +kernel
