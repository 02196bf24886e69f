/-! instructions -/
def si_289 : List (Nat × Instr × Nat) := [(0, .iload_n 0, 1), (1, .bipush 97, 2), (3, .if_icmp .lt 9, 3), (6, .iload_n 0, 1), (7, .bipush 122, 2), (9, .if_icmp .le 15, 3), (12, .iload_n 0, 1), (13, .bipush 65, 2), (15, .if_icmp .lt 13, 3), (18, .iload_n 0, 1), (19, .bipush 90, 2), (21, .if_icmp .gt 7, 3), (24, .iconst 1, 1), (25, .goto 4, 3), (28, .iconst 0, 1), (29, .ireturn, 1)]
set_option maxRecDepth 100000 in
theorem si_ok_289 : si_289.all (si_is 289) = true := by decide +kernel
def si_287 : List (Nat × Instr × Nat) := [(0, .iload_n 1, 1), (1, .iload_n 2, 1), (2, .if_icmp .ge 13, 3), (5, .aload_n 0, 1), (6, .iload_n 1, 1), (7, .baload, 1), (8, .sipush 255, 3), (11, .iand, 1), (12, .goto 4, 3), (15, .iconst (-1), 1), (16, .ireturn, 1)]
set_option maxRecDepth 100000 in
theorem si_ok_287 : si_287.all (si_is 287) = true := by decide +kernel
def si_299 : List (Nat × Instr × Nat) := [(0, .aload_n 0, 1), (1, .invokevirtual 163, 3), (4, .aload_n 0, 1), (5, .dup, 1), (6, .getfield 141, 3), (9, .iconst 1, 1), (10, .iadd, 1), (11, .putfield 141, 3), (14, .aload_n 0, 1), (15, .getfield 141, 3), (18, .iconst 1, 1), (19, .isub, 1), (20, .ireturn, 1)]
set_option maxRecDepth 100000 in
theorem si_ok_299 : si_299.all (si_is 299) = true := by decide +kernel
def si_300 : List (Nat × Instr × Nat) := [(0, .aload_n 0, 1), (1, .getfield 141, 3), (4, .aload_n 0, 1), (5, .getfield 157, 3), (8, .isub, 1), (9, .aload_n 0, 1), (10, .getfield 160, 3), (13, .if_icmp .lt 19, 3), (16, .aload_n 0, 1), (17, .getfield 3, 3), (20, .iconst 3, 1), (21, .aload_n 0, 1), (22, .aload_n 0, 1), (23, .getfield 141, 3), (26, .invokevirtual 145, 3), (29, .invokevirtual 149, 3), (32, .return_, 1)]
set_option maxRecDepth 100000 in
theorem si_ok_300 : si_300.all (si_is 300) = true := by decide +kernel
def si_293 : List (Nat × Instr × Nat) := [(0, .aload_n 0, 1), (1, .getfield 27, 3), (4, .getfield 140, 3), (7, .aload_n 0, 1), (8, .getfield 141, 3), (11, .iaload, 1), (12, .iconst (-1), 1), (13, .if_icmp .ne 19, 3), (16, .aload_n 0, 1), (17, .getfield 3, 3), (20, .iconst 1, 1), (21, .aload_n 0, 1), (22, .aload_n 0, 1), (23, .getfield 141, 3), (26, .invokevirtual 145, 3), (29, .invokevirtual 149, 3), (32, .aload_n 0, 1), (33, .getfield 27, 3), (36, .getfield 140, 3), (39, .aload_n 0, 1), (40, .getfield 141, 3), (43, .iaload, 1), (44, .ireturn, 1)]
set_option maxRecDepth 100000 in
theorem si_ok_293 : si_293.all (si_is 293) = true := by decide +kernel
