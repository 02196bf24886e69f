/-! the reference's parser: what is read (which tokens make an exp, a statement, a block), with how deep it stands -/
def g_need (s c : Nat → Int) (lim : Nat) (x : Int) (t : Nat) : Option Nat := if s t = 4 ∧ c t = x ∧ t < lim then some (t + 1) else none
def g_name (s : Nat → Int) (lim t : Nat) : Option Nat := if s t = 1 ∧ t < lim then some (t + 1) else none
/-- m: 0 exp of level l, 1 what follows within level l, 2 unary, 3 operand, 4 what follows with a dot, 5 arguments, 6 further arguments, 7 statement, 8 block, 9 its statements, 10 an inner statement, 11 a condition -/
def g (s c : Nat → Int) (lim : Nat) (gd : Nat → Option Nat) : Nat → Nat → Nat → Nat → Nat → Option Nat
  | 0, _, _, _, _ => none
  | n + 1, 0, l, t, dp => if 6 < l then g s c lim gd n 2 0 t dp else (g s c lim gd n 0 (l + 1) t dp).bind fun t1 => g s c lim gd n 1 l t1 dp
  | n + 1, 1, l, t, dp => if s t = -1 then none else if s t = 4 ∧ g_lv (c t) = l then (if t < lim then (g s c lim gd n 0 (l + 1) (t + 1) dp).bind fun t1 => g s c lim gd n 1 l t1 dp else none) else some t
  | n + 1, 2, _, t, dp => if s t = -1 then none else if s t = 4 ∧ (c t = 45 ∨ c t = 33) then (if t < lim ∧ g_in s c dp (t + 1) then g s c lim gd n 2 0 (t + 1) (dp + 1) else none) else (g s c lim gd n 3 0 t dp).bind fun t1 => g s c lim gd n 4 0 t1 dp
  | n + 1, 3, _, t, dp => if s t = 2 then (if t < lim then some (t + 1) else none)
    else if s t = 1 then (if t < lim then (if s (t + 1) = -1 then none else if s (t + 1) = 4 ∧ c (t + 1) = 40 then g s c lim gd n 5 0 (t + 1) dp else some (t + 1)) else none)
    else if s t = 5 then (if t < lim then gd t else none)
    else if s t = 3 ∧ (c t = 15 ∨ c t = 16 ∨ c t = 14 ∨ c t = 13 ∨ c t = 11) then (if t < lim then some (t + 1) else none)
    else if s t = 3 ∧ c t = 12 then (if t < lim then ((g_name s lim (t + 1)).bind fun t1 => (g_need s c lim 40 t1).bind fun t2 => g_need s c lim 41 t2) else none)
    else if s t = 4 ∧ c t = 40 ∧ t < lim ∧ g_in s c dp (t + 1) then (g s c lim gd n 0 1 (t + 1) (dp + 1)).bind fun t1 => g_need s c lim 41 t1
    else none
  | n + 1, 4, _, t, dp => if s t = -1 then none else if s t = 4 ∧ c t = 46 then (if t < lim then ((g_name s lim (t + 1)).bind fun t1 => if s t1 = -1 then none else if s t1 = 4 ∧ c t1 = 40 then (g s c lim gd n 5 0 t1 dp).bind fun t2 => g s c lim gd n 4 0 t2 dp else g s c lim gd n 4 0 t1 dp) else none) else some t
  | n + 1, 5, _, t, dp => (g_need s c lim 40 t).bind fun t1 => if s t1 = -1 then none else if s t1 = 4 ∧ c t1 = 41 then (if t1 < lim then some (t1 + 1) else none) else if g_in s c dp t1 then g s c lim gd n 6 0 t1 (dp + 1) else none
  | n + 1, 6, _, t, dp => (g s c lim gd n 0 1 t dp).bind fun t1 => if s t1 = -1 then none else if s t1 = 4 ∧ c t1 = 44 then (if t1 < lim then g s c lim gd n 6 0 (t1 + 1) dp else none) else g_need s c lim 41 t1
  | n + 1, 7, _, t, dp => if s t = -1 then none
    else if s t = 4 ∧ c t = 123 then g s c lim gd n 8 0 t dp
    else if g_lo s c t then (if t < lim then ((g_name s lim (t + 1)).bind fun t1 => (g_need s c lim 61 t1).bind fun t2 => (g s c lim gd n 0 1 t2 dp).bind fun t3 => g_need s c lim 59 t3) else none)
    else if s t = 3 ∧ c t = 6 then (if t < lim then ((g s c lim gd n 11 0 (t + 1) dp).bind fun t1 => (g s c lim gd n 10 0 t1 dp).bind fun t2 => if s t2 = -1 then none else if s t2 = 3 ∧ c t2 = 7 then (if t2 < lim then g s c lim gd n 10 0 (t2 + 1) dp else none) else some t2) else none)
    else if s t = 3 ∧ c t = 8 then (if t < lim then ((g s c lim gd n 11 0 (t + 1) dp).bind fun t1 => g s c lim gd n 10 0 t1 dp) else none)
    else if s t = 3 ∧ c t = 9 then (if t < lim then (if s (t + 1) = -1 then none else if s (t + 1) = 4 ∧ c (t + 1) = 59 then g_need s c lim 59 (t + 1) else (g s c lim gd n 0 1 (t + 1) dp).bind fun t1 => g_need s c lim 59 t1) else none)
    else if s t = 3 ∧ c t = 10 then (if t < lim then ((g s c lim gd n 0 1 (t + 1) dp).bind fun t1 => g_need s c lim 59 t1) else none)
    else (g s c lim gd n 0 1 t dp).bind fun t1 => if s t1 = -1 then none else if s t1 = 4 ∧ c t1 = 61 then (if t1 < lim then ((g s c lim gd n 0 1 (t1 + 1) dp).bind fun t2 => g_need s c lim 59 t2) else none) else g_need s c lim 59 t1
  | n + 1, 8, _, t, dp => (g_need s c lim 123 t).bind fun t1 => if g_in s c dp t1 then g s c lim gd n 9 0 t1 (dp + 1) else none
  | n + 1, 9, _, t, dp => if s t = -1 then none else if s t = 4 ∧ c t = 125 then (if t < lim then some (t + 1) else none) else (g s c lim gd n 7 0 t dp).bind fun t1 => g s c lim gd n 9 0 t1 dp
  | n + 1, 10, _, t, dp => if g_in s c dp t then g s c lim gd n 7 0 t (dp + 1) else none
  | n + 1, 11, _, t, dp => (g_need s c lim 40 t).bind fun t1 => if g_in s c dp t1 then (g s c lim gd n 0 1 t1 (dp + 1)).bind fun t2 => g_need s c lim 41 t2 else none
  | _ + 1, _ + 12, _, _, _ => none
section GG
variable {s c : Nat → Int} {lim t dp : Nat} {gd : Nat → Option Nat}
/-- at } or ) no exp and no statement begins -/
theorem g_sg (h : s t = 4 ∧ (c t = 125 ∨ c t = 41)) : ∀ (n l : Nat), g s c lim gd n 0 l t dp = none ∧ g s c lim gd n 2 l t dp = none ∧ g s c lim gd n 3 l t dp = none ∧ g s c lim gd n 7 l t dp = none
  | 0, _ => ⟨rfl, rfl, rfl, rfl⟩
  | n + 1, l => by
    have i1 := g_sg h n (l + 1)
    have i0 := g_sg h n 0
    have i2 := g_sg h n 1
    refine ⟨?_, ?_, ?_, ?_⟩
    · rw [g, i0.2.1, i1.1]
      split <;> rfl
    · rw [g, if_neg (by omega), if_neg (by omega), i0.2.2.1]
      rfl
    · rw [g, if_neg (by omega), if_neg (by omega), if_neg (by omega), if_neg (by omega), if_neg (by omega), if_neg (by omega)]
    · rw [g, if_neg (by omega), if_neg (by omega), if_neg (by unfold g_lo; omega), if_neg (by omega), if_neg (by omega), if_neg (by omega), if_neg (by omega), i2.1]
      rfl
end GG
