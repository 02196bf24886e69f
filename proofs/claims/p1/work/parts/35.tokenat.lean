/-! two methods with long loops: Arrays.fill and the reference's tokenAt (rows printed by wip/p1/gen35.py) -/
theorem fl_0 : ft_gI 19 0 = some (.iconst 0, 1) := by decide +kernel
theorem fl_1 : ft_gI 19 1 = some (.istore_n 2, 1) := by decide +kernel
theorem fl_2 : ft_gI 19 2 = some (.aload_n 0, 1) := by decide +kernel
theorem fl_3 : ft_gI 19 3 = some (.arraylength, 1) := by decide +kernel
theorem fl_4 : ft_gI 19 4 = some (.istore_n 3, 1) := by decide +kernel
theorem fl_5 : ft_gI 19 5 = some (.iload_n 2, 1) := by decide +kernel
theorem fl_6 : ft_gI 19 6 = some (.iload_n 3, 1) := by decide +kernel
theorem fl_7 : ft_gI 19 7 = some (.if_icmp .ge 13, 3) := by decide +kernel
theorem fl_10 : ft_gI 19 10 = some (.aload_n 0, 1) := by decide +kernel
theorem fl_11 : ft_gI 19 11 = some (.iload_n 2, 1) := by decide +kernel
theorem fl_12 : ft_gI 19 12 = some (.iload_n 1, 1) := by decide +kernel
theorem fl_13 : ft_gI 19 13 = some (.iastore, 1) := by decide +kernel
theorem fl_14 : ft_gI 19 14 = some (.iinc 2 1, 3) := by decide +kernel
theorem fl_17 : ft_gI 19 17 = some (.goto (-12), 3) := by decide +kernel
theorem fl_20 : ft_gI 19 20 = some (.return_, 1) := by decide +kernel
theorem tk_0 : ft_gI 376 0 = some (.aload_n 0, 1) := by decide +kernel
theorem tk_1 : ft_gI 376 1 = some (.getfield 441, 3) := by decide +kernel
theorem tk_4 : ft_gI 376 4 = some (.ifCond .ne 78, 3) := by decide +kernel
theorem tk_7 : ft_gI 376 7 = some (.iconst 0, 1) := by decide +kernel
theorem tk_8 : ft_gI 376 8 = some (.istore_n 2, 1) := by decide +kernel
theorem tk_9 : ft_gI 376 9 = some (.iload_n 2, 1) := by decide +kernel
theorem tk_10 : ft_gI 376 10 = some (.sipush 12000, 3) := by decide +kernel
theorem tk_13 : ft_gI 376 13 = some (.if_icmp .ge 16, 3) := by decide +kernel
theorem tk_16 : ft_gI 376 16 = some (.aload_n 0, 1) := by decide +kernel
theorem tk_17 : ft_gI 376 17 = some (.getfield 131, 3) := by decide +kernel
theorem tk_20 : ft_gI 376 20 = some (.iload_n 2, 1) := by decide +kernel
theorem tk_21 : ft_gI 376 21 = some (.iconst (-1), 1) := by decide +kernel
theorem tk_22 : ft_gI 376 22 = some (.iastore, 1) := by decide +kernel
theorem tk_23 : ft_gI 376 23 = some (.iinc 2 1, 3) := by decide +kernel
theorem tk_26 : ft_gI 376 26 = some (.goto (-17), 3) := by decide +kernel
theorem tk_29 : ft_gI 376 29 = some (.iconst 0, 1) := by decide +kernel
theorem tk_30 : ft_gI 376 30 = some (.istore_n 2, 1) := by decide +kernel
theorem tk_31 : ft_gI 376 31 = some (.iload_n 2, 1) := by decide +kernel
theorem tk_32 : ft_gI 376 32 = some (.aload_n 0, 1) := by decide +kernel
theorem tk_33 : ft_gI 376 33 = some (.getfield 27, 3) := by decide +kernel
theorem tk_36 : ft_gI 376 36 = some (.getfield 204, 3) := by decide +kernel
theorem tk_39 : ft_gI 376 39 = some (.if_icmp .ge 38, 3) := by decide +kernel
theorem tk_42 : ft_gI 376 42 = some (.aload_n 0, 1) := by decide +kernel
theorem tk_43 : ft_gI 376 43 = some (.getfield 131, 3) := by decide +kernel
theorem tk_46 : ft_gI 376 46 = some (.sipush 3000, 3) := by decide +kernel
theorem tk_49 : ft_gI 376 49 = some (.aload_n 0, 1) := by decide +kernel
theorem tk_50 : ft_gI 376 50 = some (.getfield 27, 3) := by decide +kernel
theorem tk_53 : ft_gI 376 53 = some (.getfield 134, 3) := by decide +kernel
theorem tk_56 : ft_gI 376 56 = some (.iload_n 2, 1) := by decide +kernel
theorem tk_57 : ft_gI 376 57 = some (.iaload, 1) := by decide +kernel
theorem tk_58 : ft_gI 376 58 = some (.imul, 1) := by decide +kernel
theorem tk_59 : ft_gI 376 59 = some (.aload_n 0, 1) := by decide +kernel
theorem tk_60 : ft_gI 376 60 = some (.getfield 27, 3) := by decide +kernel
theorem tk_63 : ft_gI 376 63 = some (.getfield 137, 3) := by decide +kernel
theorem tk_66 : ft_gI 376 66 = some (.iload_n 2, 1) := by decide +kernel
theorem tk_67 : ft_gI 376 67 = some (.iaload, 1) := by decide +kernel
theorem tk_68 : ft_gI 376 68 = some (.iadd, 1) := by decide +kernel
theorem tk_69 : ft_gI 376 69 = some (.iload_n 2, 1) := by decide +kernel
theorem tk_70 : ft_gI 376 70 = some (.iastore, 1) := by decide +kernel
theorem tk_71 : ft_gI 376 71 = some (.iinc 2 1, 3) := by decide +kernel
theorem tk_74 : ft_gI 376 74 = some (.goto (-43), 3) := by decide +kernel
theorem tk_77 : ft_gI 376 77 = some (.aload_n 0, 1) := by decide +kernel
theorem tk_78 : ft_gI 376 78 = some (.iconst 1, 1) := by decide +kernel
theorem tk_79 : ft_gI 376 79 = some (.putfield 441, 3) := by decide +kernel
theorem tk_82 : ft_gI 376 82 = some (.iload_n 1, 1) := by decide +kernel
theorem tk_83 : ft_gI 376 83 = some (.ifCond .ge 7, 3) := by decide +kernel
theorem tk_86 : ft_gI 376 86 = some (.iconst 4, 1) := by decide +kernel
theorem tk_87 : ft_gI 376 87 = some (.goto 8, 3) := by decide +kernel
theorem tk_90 : ft_gI 376 90 = some (.iload_n 1, 1) := by decide +kernel
theorem tk_91 : ft_gI 376 91 = some (.sipush 10000, 3) := by decide +kernel
theorem tk_94 : ft_gI 376 94 = some (.idiv, 1) := by decide +kernel
theorem tk_95 : ft_gI 376 95 = some (.istore_n 2, 1) := by decide +kernel
theorem tk_96 : ft_gI 376 96 = some (.iload_n 2, 1) := by decide +kernel
theorem tk_97 : ft_gI 376 97 = some (.iconst 4, 1) := by decide +kernel
theorem tk_98 : ft_gI 376 98 = some (.if_icmp .ge 33, 3) := by decide +kernel
theorem tk_101 : ft_gI 376 101 = some (.iload_n 1, 1) := by decide +kernel
theorem tk_102 : ft_gI 376 102 = some (.sipush 10000, 3) := by decide +kernel
theorem tk_105 : ft_gI 376 105 = some (.irem, 1) := by decide +kernel
theorem tk_106 : ft_gI 376 106 = some (.sipush 3000, 3) := by decide +kernel
theorem tk_109 : ft_gI 376 109 = some (.if_icmp .ge 22, 3) := by decide +kernel
theorem tk_112 : ft_gI 376 112 = some (.aload_n 0, 1) := by decide +kernel
theorem tk_113 : ft_gI 376 113 = some (.getfield 131, 3) := by decide +kernel
theorem tk_116 : ft_gI 376 116 = some (.sipush 3000, 3) := by decide +kernel
theorem tk_119 : ft_gI 376 119 = some (.iload_n 2, 1) := by decide +kernel
theorem tk_120 : ft_gI 376 120 = some (.imul, 1) := by decide +kernel
theorem tk_121 : ft_gI 376 121 = some (.iload_n 1, 1) := by decide +kernel
theorem tk_122 : ft_gI 376 122 = some (.sipush 10000, 3) := by decide +kernel
theorem tk_125 : ft_gI 376 125 = some (.irem, 1) := by decide +kernel
theorem tk_126 : ft_gI 376 126 = some (.iadd, 1) := by decide +kernel
theorem tk_127 : ft_gI 376 127 = some (.iaload, 1) := by decide +kernel
theorem tk_128 : ft_gI 376 128 = some (.goto 4, 3) := by decide +kernel
theorem tk_131 : ft_gI 376 131 = some (.iconst (-1), 1) := by decide +kernel
theorem tk_132 : ft_gI 376 132 = some (.ireturn, 1) := by decide +kernel
theorem tk_F27 : ft_gF 376 27 = some (14, 2) := by decide +kernel
theorem tk_F131 : ft_gF 376 131 = some (14, 56) := by decide +kernel
theorem tk_F134 : ft_gF 376 134 = some (15, 4) := by decide +kernel
theorem tk_F137 : ft_gF 376 137 = some (15, 2) := by decide +kernel
theorem tk_F204 : ft_gF 376 204 = some (15, 5) := by decide +kernel
theorem tk_F441 : ft_gF 376 441 = some (14, 57) := by decide +kernel
theorem ab_sI (G : mv_G) : mv_gI (ab_strip G) = mv_gI G := rfl
theorem ab_sF (G : mv_G) : mv_gF (ab_strip G) = mv_gF G := rfl
theorem ab_sL (G : mv_G) : mv_gL (ab_strip G) = mv_gL G := rfl
theorem ab_G_same (L : Nat) (xs : Nat → Int32) : ab_strip (mt_G L xs) = ab_strip ab_G0 := by
  unfold ab_G0
  simp only [ab_strip, mv_gI, mv_gF, mv_gN, mv_gA, mv_gC, mv_gK, mv_gL, mv_gH, mv_gZ, mv_gD, mv_gT, mv_gP, mv_gQ, mv_gY, mv_gE, mv_gR, mv_gW, mv_gX, mv_gM, mt_G]
theorem fl_I {y pc : Nat} {r : Instr × Nat} (h : ft_gI y pc = some r) (L : Nat) (xs : Nat → Int32) : mv_gI (mt_G L xs) y pc = some r := by
  rw [← ab_sI (mt_G L xs), ab_G_same, ab_sI, ← ft_gI_eq]
  exact h
theorem fl_F {y idx : Nat} {r : Nat × Nat} (h : ft_gF y idx = some r) (L : Nat) (xs : Nat → Int32) : mv_gF (mt_G L xs) y idx = some r := by
  rw [← ab_sF (mt_G L xs), ab_G_same, ab_sF, ← ft_gF_eq]
  exact h
theorem fl_Lft {y n : Nat} (h : ft_gL y = n) (L : Nat) (xs : Nat → Int32) : mv_gL (mt_G L xs) y = n := by
  rw [← ab_sL (mt_G L xs), ab_G_same, ab_sL, ← ft_gL_eq]
  exact h
set_option maxRecDepth 100000 in
theorem fl_L19 : ft_gL 19 = 4 := by decide +kernel
set_option maxRecDepth 100000 in
theorem tk_L : ft_gL 376 = 3 := by decide +kernel
set_option maxRecDepth 100000 in
theorem fl_R : (mt_inf 19).2.1 = none := by decide +kernel
set_option maxRecDepth 100000 in
theorem tk_R : (mt_inf 376).2.1 = some .int := by decide +kernel
theorem fl_Y : mt_L[0]? = some .int := by decide +kernel
set_option maxRecDepth 100000 in
theorem tk_T : mt_gT 14 57 = some .boolean := by decide +kernel
set_option maxRecDepth 100000 in
theorem tk_P : mv_gP ab_G0 14 57 = false := by decide +kernel
theorem ab_sP (G : mv_G) : mv_gP (ab_strip G) = mv_gP G := rfl
theorem ab_sT (G : mv_G) : mv_gT (ab_strip G) = mv_gT G := rfl
theorem tk_PG (L : Nat) (xs : Nat → Int32) : mv_gP (mt_G L xs) 14 57 = false := by
  rw [← ab_sP (mt_G L xs), ab_G_same, ab_sP]
  exact tk_P
theorem tk_TG (L : Nat) (xs : Nat → Int32) : mv_gT (mt_G L xs) 14 57 = some .boolean := by
  rw [← ab_sT (mt_G L xs), ab_G_same, ab_sT]
  exact tk_T
def fl_f (v : Int32) (i : Nat) (f : Nat → Int32) : Nat → Int32 := fun k => if k < i then v else f k
theorem fl_up {v : Int32} {i j : Nat} {f : Nat → Int32} (h : j = i) : (fun k => if k = j then v else fl_f v i f k) = fl_f v (i + 1) f := by
  subst h
  funext k
  unfold fl_f
  by_cases h1 : k = j
  · rw [if_pos h1, if_pos (by omega)]
  · rw [if_neg h1]
    by_cases h2 : k < j
    · rw [if_pos h2, if_pos (by omega)]
    · rw [if_neg h2, if_neg (by omega)]
theorem fl_zero (v : Int32) (f : Nat → Int32) : fl_f v 0 f = f := by
  funext k
  unfold fl_f
  rw [if_neg (Nat.not_lt_zero k)]
theorem fl_one (i : Nat) : Int32.ofNat i + Int32.ofInt 1 = Int32.ofNat (i + 1) := by
  rw [Int32.ofNat_add]
  rfl
section FLT
variable {L : Nat} {xs : Nat → Int32} {fb lb cb sb : Nat}
theorem fl_loop {a n : Nat} {v : Int32} {f : Nat → Int32} (hn : n < 2147483648) : ∀ (d i : Nat) (lo : List (Nat × Value)) (hp : List va_E), i + d = n → en_has lo 0 (.ref a) → en_has lo 1 (.int v) → en_has lo 2 (.int (Int32.ofNat i)) → en_has lo 3 (.int (Int32.ofNat n)) → hp[a]? = some (.inl (0, n, .inl (fl_f v i f))) → mv_ends (mt_G L xs) 19 fb lb (5, lo, [], hp, cb, sb) (.inr none, hp.set a (.inl (0, n, .inl (fl_f v n f))), cb, sb)
  | 0, i, lo, hp, hd, h0, h1, h2, h3, ha => by
    have hi : i = n := by omega
    subst hi
    refine en_ild (fl_I fl_5 L xs) h2 (en_ild (fl_I fl_6 L xs) h3 (en_icm (t := 20) (fl_I fl_7 L xs) rfl ?_))
    rw [if_pos (en_ge.mpr (Int.le_refl _)), en_same ha]
    exact en_vret (fl_I fl_20 L xs) fl_R
  | d + 1, i, lo, hp, hd, h0, h1, h2, h3, ha => by
    refine en_ild (fl_I fl_5 L xs) h2 (en_ild (fl_I fl_6 L xs) h3 (en_icm (t := 20) (fl_I fl_7 L xs) rfl ?_))
    have hlt : ¬ mv_cond .ge (Int32.ofNat i) (Int32.ofNat n) = true := by
      rw [en_ge, en_nat hn, en_nat (show i < 2147483648 by omega)]
      omega
    rw [if_neg hlt]
    refine en_ald (fl_I fl_10 L xs) h0 (en_ild (fl_I fl_11 L xs) h2 (en_ild (fl_I fl_12 L xs) h1 (en_iast (fl_I fl_13 L xs) ha (en_out (by omega) hn) ?_)))
    rw [fl_up (Int32.toNatClampNeg_ofNat_of_lt (by omega))]
    refine en_inc (fl_I fl_14 L xs) h2 (by rw [fl_Lft fl_L19]; decide) (en_go (t := 5) (fl_I fl_17 L xs) rfl ?_)
    rw [fl_one]
    have hlen : a < hp.length := (List.getElem?_eq_some_iff.mp ha).1
    have := fl_loop (a := a) (v := v) (f := f) hn d (i + 1) ((2, .int (Int32.ofNat (i + 1))) :: mv_keep 2 lo) (hp.set a (.inl (0, n, .inl (fl_f v (i + 1) f)))) (by omega) (en_has_keep h0 (by decide) rfl) (en_has_keep h1 (by decide) rfl) en_has_new (en_has_keep h3 (by decide) rfl) (by rw [List.getElem?_set_self hlen])
    rw [List.set_set] at this
    exact this
/-- Arrays.fill of an array of ints -/
theorem fl_fill {a n : Nat} {v : Int32} {f : Nat → Int32} {hp : List va_E} (hn : n < 2147483648) (hS : mv_gS (mt_G L xs) a = none) (ha : hp[a]? = some (.inl (0, n, .inl f))) : mv_ends (mt_G L xs) 19 fb lb (0, [(0, .ref a), (1, .int v)], [], hp, cb, sb) (.inr none, hp.set a (.inl (0, n, .inl (fl_f v n f))), cb, sb) := by
  have h0 : en_has [(0, .ref a), (1, .int v)] 0 (.ref a) := ⟨0, rfl⟩
  have h1 : en_has [(0, .ref a), (1, .int v)] 1 (.int v) := ⟨1, rfl⟩
  refine en_psh (fl_I fl_0 L xs) (en_ist (q := 2) (fl_I fl_1 L xs) (by rw [fl_Lft fl_L19]; decide) ?_)
  have h0' := en_has_keep (i := 2) (w := .int (Int32.ofInt 0)) h0 (by decide) rfl
  have h1' := en_has_keep (i := 2) (w := .int (Int32.ofInt 0)) h1 (by decide) rfl
  refine en_ald (fl_I fl_2 L xs) h0' (en_alen (fl_I fl_3 L xs) hS fl_Y ha (en_ist (q := 3) (fl_I fl_4 L xs) (by rw [fl_Lft fl_L19]; decide) ?_))
  exact fl_loop hn n 0 _ hp (by omega) (en_has_keep h0' (by decide) rfl) (en_has_keep h1' (by decide) rfl) (en_has_keep (i := 3) en_has_new (by decide) rfl) en_has_new (by rw [fl_zero]; exact ha)
theorem en_bm {x : Int} (h1 : -2147483648 ≤ x) (h2 : x ≤ 2147483647) : x.bmod (2 ^ 32) = x := Int.bmod_eq_of_le (by omega) (by omega)
theorem en_i10000 : ((Int16.ofInt 10000).toInt32).toInt = 10000 := by decide
theorem en_i3000 : ((Int16.ofInt 3000).toInt32).toInt = 3000 := by decide
theorem en_i12000 : (Int16.ofInt 12000).toInt32 = Int32.ofNat 12000 := by decide
theorem en_i4 : (Int32.ofInt 4).toInt = 4 := by decide
theorem en_z : (0 : Int32).toInt = 0 := by decide
theorem en_m1 : Int32.ofInt (-1) = -1 := by decide
theorem en_q {x : Int32} (h : 0 ≤ x.toInt) : (x / (Int16.ofInt 10000).toInt32).toInt = x.toInt / 10000 := by
  rw [Int32.toInt_div_of_ne_right _ _ (by decide), en_i10000, Int.tdiv_eq_ediv_of_nonneg h]
theorem en_r {x : Int32} (h : 0 ≤ x.toInt) (h4 : x.toInt / 10000 < 4) : (x - x / (Int16.ofInt 10000).toInt32 * (Int16.ofInt 10000).toInt32).toInt = x.toInt % 10000 := by
  have hq := en_q h
  have h1 : (x / (Int16.ofInt 10000).toInt32 * (Int16.ofInt 10000).toInt32).toInt = x.toInt / 10000 * 10000 := by
    rw [Int32.toInt_mul, hq, en_i10000]
    exact en_bm (by omega) (by omega)
  rw [Int32.toInt_sub, h1]
  rw [en_bm (by omega) (by omega)]
  omega
theorem tk_tail {p bt : Nat} {x : Int32} {fs : List Value} {g : Nat → Int32} {lo : List (Nat × Value)} {hp : List va_E} (h0 : en_has lo 0 (.ref p)) (h1 : en_has lo 1 (.int x)) (hp1 : hp[p]? = some (.inr (14, fs))) (hb : fs[56]? = some (.ref bt)) (hS : mv_gS (mt_G L xs) bt = none) (hp2 : hp[bt]? = some (.inl (0, 12000, .inl g))) (hg : ∀ k, k < 12000 → g k = -1) : mv_ends (mt_G L xs) 376 fb lb (82, lo, [], hp, cb, sb) (.inr (some (.int (-1))), hp, cb, sb) := by
  have hend : ∀ lo, mv_ends (mt_G L xs) 376 fb lb (131, lo, [], hp, cb, sb) (.inr (some (.int (-1))), hp, cb, sb) := by
    intro lo
    refine en_psh (fl_I tk_131 L xs) ?_
    rw [en_m1]
    exact en_iret (fl_I tk_132 L xs) tk_R
  refine en_ild (fl_I tk_82 L xs) h1 (en_ifc (t := 90) (fl_I tk_83 L xs) rfl ?_)
  by_cases hx : 0 ≤ x.toInt
  · have hge : mv_cond .ge x 0 = true := by
      rw [en_ge, en_z]
      exact hx
    rw [if_pos hge]
    refine en_ild (fl_I tk_90 L xs) h1 (en_sps (fl_I tk_91 L xs) (en_div (fl_I tk_94 L xs) (by decide) (en_ist (q := 2) (fl_I tk_95 L xs) (by rw [fl_Lft tk_L]; decide) ?_)))
    have k0 := en_has_keep (i := 2) (w := .int (x / (Int16.ofInt 10000).toInt32)) h0 (by decide) rfl
    have k1 := en_has_keep (i := 2) (w := .int (x / (Int16.ofInt 10000).toInt32)) h1 (by decide) rfl
    refine en_ild (fl_I tk_96 L xs) en_has_new (en_psh (fl_I tk_97 L xs) (en_icm (t := 131) (fl_I tk_98 L xs) rfl ?_))
    by_cases h4 : x.toInt / 10000 < 4
    · have hc : ¬ mv_cond .ge (x / (Int16.ofInt 10000).toInt32) (Int32.ofInt 4) = true := by
        rw [en_ge, en_q hx, en_i4]
        omega
      rw [if_neg hc]
      refine en_ild (fl_I tk_101 L xs) k1 (en_sps (fl_I tk_102 L xs) (en_rem (fl_I tk_105 L xs) (by decide) (en_sps (fl_I tk_106 L xs) (en_icm (t := 131) (fl_I tk_109 L xs) rfl ?_))))
      by_cases h3 : x.toInt % 10000 < 3000
      · have hc : ¬ mv_cond .ge (x - x / (Int16.ofInt 10000).toInt32 * (Int16.ofInt 10000).toInt32) (Int16.ofInt 3000).toInt32 = true := by
          rw [en_ge, en_r hx h4, en_i3000]
          omega
        rw [if_neg hc]
        refine en_ald (fl_I tk_112 L xs) k0 (en_get (fl_I tk_113 L xs) (fl_F tk_F131 L xs) hp1 hb (en_sps (fl_I tk_116 L xs) (en_ild (fl_I tk_119 L xs) en_has_new (en_mul (fl_I tk_120 L xs) (en_ild (fl_I tk_121 L xs) k1 (en_sps (fl_I tk_122 L xs) (en_rem (fl_I tk_125 L xs) (by decide) (en_add (fl_I tk_126 L xs) ?_))))))))
        have hi : ((Int16.ofInt 3000).toInt32 * (x / (Int16.ofInt 10000).toInt32) + (x - x / (Int16.ofInt 10000).toInt32 * (Int16.ofInt 10000).toInt32)).toInt = 3000 * (x.toInt / 10000) + x.toInt % 10000 := by
          rw [Int32.toInt_add, en_r hx h4, Int32.toInt_mul, en_q hx, en_i3000]
          rw [en_bm (x := 3000 * (x.toInt / 10000)) (by omega) (by omega)]
          exact en_bm (by omega) (by omega)
        generalize hI : ((Int16.ofInt 3000).toInt32 * (x / (Int16.ofInt 10000).toInt32) + (x - x / (Int16.ofInt 10000).toInt32 * (Int16.ofInt 10000).toInt32)) = I at hi
        have hlt : I.toNatClampNeg < 12000 := by
          rw [← Int32.toNat_toInt, hi]
          omega
        have hout : mv_out I 12000 = false := by
          unfold mv_out
          rw [decide_eq_false_iff_not]
          rintro (q | q)
          · rw [Int32.lt_iff_toInt_lt, hi] at q
            have q4 : (0 : Int32).toInt = 0 := rfl
            omega
          · omega
        refine en_iald (fl_I tk_127 L xs) hS hp2 hout (en_go (t := 132) (fl_I tk_128 L xs) rfl ?_)
        rw [hg _ hlt]
        exact en_iret (fl_I tk_132 L xs) tk_R
      · have hc : mv_cond .ge (x - x / (Int16.ofInt 10000).toInt32 * (Int16.ofInt 10000).toInt32) (Int16.ofInt 3000).toInt32 = true := by
          rw [en_ge, en_r hx h4, en_i3000]
          omega
        rw [if_pos hc]
        exact hend _
    · have hc : mv_cond .ge (x / (Int16.ofInt 10000).toInt32) (Int32.ofInt 4) = true := by
        rw [en_ge, en_q hx, en_i4]
        omega
      rw [if_pos hc]
      exact hend _
  · have hc : ¬ mv_cond .ge x 0 = true := by
      rw [en_ge, en_z]
      exact hx
    rw [if_neg hc]
    refine en_psh (fl_I tk_86 L xs) (en_go (t := 95) (fl_I tk_87 L xs) rfl (en_ist (q := 2) (fl_I tk_95 L xs) (by rw [fl_Lft tk_L]; decide) ?_))
    refine en_ild (fl_I tk_96 L xs) en_has_new (en_psh (fl_I tk_97 L xs) (en_icm (t := 131) (fl_I tk_98 L xs) rfl ?_))
    rw [if_pos (en_ge.mpr (Int.le_refl _))]
    exact hend _
theorem tk_loop {p bt : Nat} {x : Int32} {fs : List Value} {f : Nat → Int32} {E : mv_E} (hb : fs[56]? = some (.ref bt)) : ∀ (d i : Nat) (lo : List (Nat × Value)) (hp : List va_E), i + d = 12000 → en_has lo 0 (.ref p) → en_has lo 1 (.int x) → en_has lo 2 (.int (Int32.ofNat i)) → hp[p]? = some (.inr (14, fs)) → hp[bt]? = some (.inl (0, 12000, .inl (fl_f (-1) i f))) → (∀ lo', en_has lo' 0 (.ref p) → en_has lo' 1 (.int x) → mv_ends (mt_G L xs) 376 fb lb (29, lo', [], hp.set bt (.inl (0, 12000, .inl (fl_f (-1) 12000 f))), cb, sb) E) → mv_ends (mt_G L xs) 376 fb lb (9, lo, [], hp, cb, sb) E
  | 0, i, lo, hp, hd, h0, h1, h2, hp1, hp2, K => by
    have hi : i = 12000 := by omega
    subst hi
    refine en_ild (fl_I tk_9 L xs) h2 (en_sps (fl_I tk_10 L xs) (en_icm (t := 29) (fl_I tk_13 L xs) rfl ?_))
    rw [en_i12000, if_pos (en_ge.mpr (Int.le_refl _))]
    have := K lo h0 h1
    rw [en_same hp2] at this
    exact this
  | d + 1, i, lo, hp, hd, h0, h1, h2, hp1, hp2, K => by
    refine en_ild (fl_I tk_9 L xs) h2 (en_sps (fl_I tk_10 L xs) (en_icm (t := 29) (fl_I tk_13 L xs) rfl ?_))
    have hlt : ¬ mv_cond .ge (Int32.ofNat i) (Int16.ofInt 12000).toInt32 = true := by
      rw [en_i12000, en_ge, en_nat (show i < 2147483648 by omega), en_nat (show 12000 < 2147483648 by omega)]
      omega
    rw [if_neg hlt]
    refine en_ald (fl_I tk_16 L xs) h0 (en_get (fl_I tk_17 L xs) (fl_F tk_F131 L xs) hp1 hb (en_ild (fl_I tk_20 L xs) h2 (en_psh (fl_I tk_21 L xs) (en_iast (fl_I tk_22 L xs) hp2 (en_out (by omega) (by omega)) ?_))))
    rw [en_m1, fl_up (Int32.toNatClampNeg_ofNat_of_lt (by omega))]
    refine en_inc (fl_I tk_23 L xs) h2 (by rw [fl_Lft tk_L]; decide) (en_go (t := 9) (fl_I tk_26 L xs) rfl ?_)
    rw [fl_one]
    have hlen : bt < hp.length := (List.getElem?_eq_some_iff.mp hp2).1
    have hne : bt ≠ p := fun e => by
      rw [e, hp1] at hp2
      cases hp2
    refine tk_loop (x := x) (f := f) hb d (i + 1) _ _ (by omega) (en_has_keep h0 (by decide) rfl) (en_has_keep h1 (by decide) rfl) en_has_new (by rw [List.getElem?_set_ne hne]; exact hp1) (by rw [List.getElem?_set_self hlen]) fun lo' q0 q1 => ?_
    rw [List.set_set]
    exact K lo' q0 q1
/-- tokenAt of a program without tokens, its map not yet made -/
theorem tk_first {p bt tk : Nat} {x : Int32} {fs gs : List Value} {f : Nat → Int32} {hp : List va_E} (hp1 : hp[p]? = some (.inr (14, fs))) (hm : fs[57]? = some (.int 0)) (hb : fs[56]? = some (.ref bt)) (ht : fs[2]? = some (.ref tk)) (hp3 : hp[tk]? = some (.inr (15, gs))) (hc : gs[5]? = some (.int 0)) (hS : mv_gS (mt_G L xs) bt = none) (hp2 : hp[bt]? = some (.inl (0, 12000, .inl f))) : mv_ends (mt_G L xs) 376 fb lb (0, [(0, .ref p), (1, .int x)], [], hp, cb, sb) (.inr (some (.int (-1))), (hp.set bt (.inl (0, 12000, .inl (fl_f (-1) 12000 f)))).set p (.inr (14, fs.set 57 (.int 1))), cb, sb) := by
  have h0 : en_has [(0, .ref p), (1, .int x)] 0 (.ref p) := ⟨0, rfl⟩
  have h1 : en_has [(0, .ref p), (1, .int x)] 1 (.int x) := ⟨1, rfl⟩
  have hlen : bt < hp.length := (List.getElem?_eq_some_iff.mp hp2).1
  have hplen : p < hp.length := (List.getElem?_eq_some_iff.mp hp1).1
  have hne : bt ≠ p := fun e => by
    rw [e, hp1] at hp2
    cases hp2
  have hne3 : bt ≠ tk := fun e => by
    rw [e, hp3] at hp2
    cases hp2
  have hk : 57 < fs.length := (List.getElem?_eq_some_iff.mp hm).1
  refine en_ald (fl_I tk_0 L xs) h0 (en_get (fl_I tk_1 L xs) (fl_F tk_F441 L xs) hp1 hm (en_ifc (t := 82) (fl_I tk_4 L xs) rfl ?_))
  rw [if_neg (by decide)]
  refine en_psh (fl_I tk_7 L xs) (en_ist (q := 2) (fl_I tk_8 L xs) (by rw [fl_Lft tk_L]; decide) ?_)
  refine tk_loop (p := p) (bt := bt) (x := x) (f := f) hb 12000 0 _ hp (by omega) (en_has_keep h0 (by decide) rfl) (en_has_keep h1 (by decide) rfl) en_has_new hp1 (by rw [fl_zero]; exact hp2) fun lo q0 q1 => ?_
  have hp1' : (hp.set bt (.inl (0, 12000, .inl (fl_f (-1) 12000 f))))[p]? = some (.inr (14, fs)) := by rw [List.getElem?_set_ne hne]; exact hp1
  have hp3' : (hp.set bt (.inl (0, 12000, .inl (fl_f (-1) 12000 f))))[tk]? = some (.inr (15, gs)) := by rw [List.getElem?_set_ne hne3]; exact hp3
  refine en_psh (fl_I tk_29 L xs) (en_ist (q := 2) (fl_I tk_30 L xs) (by rw [fl_Lft tk_L]; decide) ?_)
  have r0 := en_has_keep (i := 2) (w := .int (Int32.ofInt 0)) q0 (by decide) rfl
  have r1 := en_has_keep (i := 2) (w := .int (Int32.ofInt 0)) q1 (by decide) rfl
  refine en_ild (fl_I tk_31 L xs) en_has_new (en_ald (fl_I tk_32 L xs) r0 (en_get (fl_I tk_33 L xs) (fl_F tk_F27 L xs) hp1' ht (en_get (fl_I tk_36 L xs) (fl_F tk_F204 L xs) hp3' hc (en_icm (t := 77) (fl_I tk_39 L xs) rfl ?_))))
  rw [if_pos (by decide)]
  refine en_ald (fl_I tk_77 L xs) r0 (en_psh (fl_I tk_78 L xs) (en_put (fl_I tk_79 L xs) (fl_F tk_F441 L xs) (tk_TG L xs) (tk_PG L xs) (by decide) (by decide) hp1' hk ?_))
  refine tk_tail (g := fl_f (-1) 12000 f) r0 r1 (by rw [List.getElem?_set_self (by rw [List.length_set]; exact hplen)]) (by rw [List.getElem?_set_ne (by decide)]; exact hb) hS (by rw [List.getElem?_set_ne (Ne.symm hne), List.getElem?_set_self hlen]) (fun k hk => by unfold fl_f; rw [if_pos hk])
/-- tokenAt of a program whose map is made and empty -/
theorem tk_again {p bt : Nat} {x : Int32} {fs : List Value} {g : Nat → Int32} {hp : List va_E} (hp1 : hp[p]? = some (.inr (14, fs))) (hm : fs[57]? = some (.int 1)) (hb : fs[56]? = some (.ref bt)) (hS : mv_gS (mt_G L xs) bt = none) (hp2 : hp[bt]? = some (.inl (0, 12000, .inl g))) (hg : ∀ k, k < 12000 → g k = -1) : mv_ends (mt_G L xs) 376 fb lb (0, [(0, .ref p), (1, .int x)], [], hp, cb, sb) (.inr (some (.int (-1))), hp, cb, sb) := by
  have h0 : en_has [(0, .ref p), (1, .int x)] 0 (.ref p) := ⟨0, rfl⟩
  have h1 : en_has [(0, .ref p), (1, .int x)] 1 (.int x) := ⟨1, rfl⟩
  refine en_ald (fl_I tk_0 L xs) h0 (en_get (fl_I tk_1 L xs) (fl_F tk_F441 L xs) hp1 hm (en_ifc (t := 82) (fl_I tk_4 L xs) rfl ?_))
  rw [if_pos (by decide)]
  exact tk_tail h0 h1 hp1 hb hS hp2 hg
end FLT
