/-! the reference's Tokens.one: its contract -/
/-- a token more: a0 the tokens, n how many there were -/
def tk_put (M : me_M) (a0 n : Nat) (so co k sz f : Int) : me_M := me_sI (me_sI (me_sI (me_sI (me_sI (me_sI M (a0 + 1) n (Int32.ofInt so)) (a0 + 2) n (Int32.ofInt co)) (a0 + 3) n (Int32.ofInt k)) (a0 + 4) n (Int32.ofInt sz)) (a0 + 5) n (Int32.ofInt f)) a0 5 (Int32.ofInt ((n : Int) + 1))
section ONE2
variable {N : Nat} {X : Nat → Int32} {d a0 a1 l1 : Nat} {x2 x3 x4 x5 : Int} {M : me_M} {Q : me_Q}
theorem one_296 {x7 x8 x9 : Int} (n : Nat) (hn : me_i M a0 5 = n) (hc : n < 2408) (hQ : Q (.inr (some (.inl x7))) (tk_put M a0 n x8 x9 x2 (x7 - x2) x4)) : me_W (mt_G N X) 288 d 296 [some (.inr (.inl (some a0, 31, 0))), none, some (.inl x2), none, some (.inl x4), none, none, some (.inl x7), some (.inl x8), some (.inl x9)] [] M Q := by
  refine b288_296 ⟨by omega, by omega, ?_⟩
  intro M1
  have e1 : me_i M1 a0 5 = n := by
    show me_i (me_sI _ _ _ _) _ _ = _
    rw [me_i_sI, if_neg (by omega), hn]
  refine ⟨by omega, by omega, ?_⟩
  intro M2
  have e2 : me_i M2 a0 5 = n := by
    show me_i (me_sI _ _ _ _) _ _ = _
    rw [me_i_sI, if_neg (by omega), e1]
  refine ⟨by omega, by omega, ?_⟩
  intro M3
  have e3 : me_i M3 a0 5 = n := by
    show me_i (me_sI _ _ _ _) _ _ = _
    rw [me_i_sI, if_neg (by omega), e2]
  refine ⟨by omega, by omega, ?_⟩
  intro M4
  have e4 : me_i M4 a0 5 = n := by
    show me_i (me_sI _ _ _ _) _ _ = _
    rw [me_i_sI, if_neg (by omega), e3]
  refine ⟨by omega, by omega, ?_⟩
  intro M5
  have e5 : me_i M5 a0 5 = n := by
    show me_i (me_sI _ _ _ _) _ _ = _
    rw [me_i_sI, if_neg (by omega), e4]
  intro M6
  have e : M6 = tk_put M a0 n x8 x9 x2 (x7 - x2) x4 := by
    show me_sI (me_sI M4 _ _ _) _ _ _ = _
    rw [e5, e4]
    show me_sI (me_sI (me_sI M3 _ _ _) _ _ _) _ _ _ = _
    rw [e3]
    show me_sI (me_sI (me_sI (me_sI M2 _ _ _) _ _ _) _ _ _) _ _ _ = _
    rw [e2]
    show me_sI (me_sI (me_sI (me_sI (me_sI M1 _ _ _) _ _ _) _ _ _) _ _ _) _ _ _ = _
    rw [e1]
    show me_sI (me_sI (me_sI (me_sI (me_sI (me_sI M _ _ _) _ _ _) _ _ _) _ _ _) _ _ _) _ _ _ = _
    rw [hn]
    rfl
  rw [e]
  exact hQ
end ONE2
