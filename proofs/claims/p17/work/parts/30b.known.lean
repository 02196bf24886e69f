/-! what is known of the memory at a place -/
def me_kn (G : mv_G) (M : me_M) (L : List (Option me_V)) (st : List me_V) : Prop := me_al M L st ∧ me_ty G M ∧ me_sh M ∧ me_ln M ∧ me_by M
theorem me_W.known {G : mv_G} {y d pc : Nat} {L : List (Option me_V)} {st : List me_V} {M : me_M} {Q : me_Q} (h : me_kn G M L st → me_W G y d pc L st M Q) : me_W G y d pc L st M Q := fun fb lb lo hp g1 g2 g3 g4 g5 => h ⟨g4, g5.2.2.2.1, g5.2.2.2.2.1, g5.2.2.2.2.2.1, g5.2.2.2.2.2.2⟩ fb lb lo hp g1 g2 g3 g4 g5
section KN
variable {G : mv_G} {M : me_M} {L : List (Option me_V)} {st : List me_V} {a : Nat} {q : Nat × Nat}
theorem me_kn.loc (h : me_kn G M L st) {i : Nat} (hL : L[i]? = some (some (.inr (.inl (some a, q))))) : a < M.1 ∧ M.2.1 a = q := h.1.1 _ (List.mem_of_getElem? hL)
theorem me_kn.len (h : me_kn G M L st) (ha : a < M.1 ∧ M.2.1 a = q) : q.2 ≤ 134217728 := by
  have z := h.2.2.2.1 a ha.1
  rw [ha.2] at z
  exact z
theorem me_kn.byte (h : me_kn G M L st) (ha : a < M.1 ∧ M.2.1 a = q) (hq : q.1 = 2) (j : Nat) : -128 ≤ me_i M a j ∧ me_i M a j ≤ 127 := by
  have z := (h.2.2.2.2 a ha.1 j).1 (by rw [ha.2]; exact hq)
  have z : (decide ((-128 : Int32) ≤ M.2.2.1 a j) && decide (M.2.2.1 a j ≤ 127)) = true := z
  rw [Bool.and_eq_true, decide_eq_true_iff, decide_eq_true_iff, Int32.le_iff_toInt_le, Int32.le_iff_toInt_le] at z
  exact z
theorem me_kn.bool (h : me_kn G M L st) (ha : a < M.1 ∧ M.2.1 a = q) (hq : q.1 = 4) (j : Nat) : me_i M a j = 0 ∨ me_i M a j = 1 := by
  have z := (h.2.2.2.2 a ha.1 j).2 (by rw [ha.2]; exact hq)
  have z : (M.2.2.1 a j == 0 || M.2.2.1 a j == 1) = true := z
  rw [Bool.or_eq_true, beq_iff_eq, beq_iff_eq] at z
  rcases z with z | z
  · exact Or.inl (by unfold me_i; rw [z]; rfl)
  · exact Or.inr (by unfold me_i; rw [z]; rfl)
end KN
/-! reading what was written -/
theorem me_i_sI {M : me_M} {a b k j : Nat} {x : Int32} : me_i (me_sI M a k x) b j = if b = a ∧ j = k then x.toInt else me_i M b j := by
  unfold me_i me_sI
  dsimp only
  split <;> rfl
theorem me_p_sI {M : me_M} {a b k j : Nat} {x : Int32} : me_p (me_sI M a k x) b j = me_p M b j := rfl
theorem me_i_sP {M : me_M} {a b k j : Nat} {p : Option Nat} : me_i (me_sP M a k p) b j = me_i M b j := rfl
theorem me_p_sP {M : me_M} {a b k j : Nat} {p : Option Nat} : me_p (me_sP M a k p) b j = if b = a ∧ j = k then p else me_p M b j := rfl
theorem me_to {x : Int} (h : me_r x) : (Int32.ofInt x).toInt = x := me_w_eq h
