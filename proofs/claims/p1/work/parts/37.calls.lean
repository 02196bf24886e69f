/-! one call on a fresh pair: the boxes of the script -/
theorem ab_A0_S0 : ab_gS ab_A0 mt_S0 := by
  refine ⟨rfl, fun i v h => ?_, trivial, ⟨rfl, fun k e _ h => by simp [mt_S0] at h⟩, rfl, rfl⟩
  have h : (bif Nat.beq i 0 then some (.inl (.ref mv_big)) else none) = some v := h
  cases hb : Nat.beq i 0 with
  | true =>
    rw [hb] at h
    cases h
    have := Nat.eq_of_beq_eq_true hb
    subst this
    exact ⟨0, _, rfl, rfl, rfl⟩
  | false =>
    rw [hb] at h
    cases h
theorem ab_ans_ok {o : Option ab_Q} (h : ab_ans o = true) : ∃ hh cb sb, o = some (.inr (some (.inl (.int 1))), hh, cb, sb) := by
  unfold ab_ans at h
  split at h
  · rename_i v x
    obtain ⟨hh, cb, sb⟩ := x
    have := of_decide_eq_true h
    subst this
    exact ⟨hh, cb, sb, rfl⟩
  · cases h
theorem ab_gQ_1 {hh : ab_H} {cb sb : Nat} {E : mv_E} (h : ab_gQ (.inr (some (.inl (.int 1))), hh, cb, sb) E) : ∃ hp cb' sb', E = (.inr (some (.int 1)), hp, cb', sb') := by
  obtain ⟨o, hp, cb', sb'⟩ := E
  obtain ⟨h1, -⟩ := h
  rcases o with a | w
  · exact absurd h1 id
  · cases w with
    | none => exact absurd h1 id
    | some w =>
      have h1 : w = .int 1 ∧ _ := h1
      exact ⟨hp, cb', sb', by rw [h1.1]⟩
section ABL
variable {L : Nat} {xs : Nat → Int32}
theorem ab_hL : ∀ a n, ab_Ls L a = some n → ∃ f, mv_gS (mt_G L xs) a = some (n, f) := by
  intro a n h
  unfold ab_Ls at h
  cases hb : Nat.beq a mv_big with
  | true =>
    rw [hb] at h
    cases h
    refine ⟨xs, ?_⟩
    show (if a = mv_big then some (L, xs) else none) = _
    rw [if_pos (Nat.eq_of_beq_eq_true hb)]
  | false =>
    rw [hb] at h
    cases h
theorem ab_hL0 : ∀ a, ab_Ls L a = none → mv_gS (mt_G L xs) a = none := by
  intro a h
  unfold ab_Ls at h
  cases hb : Nat.beq a mv_big with
  | true =>
    rw [hb] at h
    cases h
  | false =>
    show (if a = mv_big then some (L, xs) else none) = _
    rw [if_neg (fun e => by rw [e, Nat.beq_refl] at hb; cases hb)]
theorem ab_hX {X : Nat → ab_V} (h : ∀ k, ab_g (X k) (.int (xs k))) : ∀ a n f, mv_gS (mt_G L xs) a = some (n, f) → ∀ k, ab_g (X k) (.int (f k)) := by
  intro a n f hs k
  have hs : (if a = mv_big then some (L, xs) else none) = some (n, f) := hs
  split at hs
  · cases hs
    exact h k
  · cases hs
theorem ab_short (h : ab_ans (ab_run ft_G (ab_Ls L) (fun _ => ab_full) 3000 0 2048 84000 ab_A0) = true) : mt_true L xs := by
  obtain ⟨hh, cb, sb, ho⟩ := ab_ans_ok h
  rw [ab_run_G L xs] at ho
  obtain ⟨E, h1, h2⟩ := ab_run_ok (ab_hX (fun k => ab_full_ok _)) ab_hL ab_hL0 3000 0 2048 84000 ab_A0 mt_S0 _ ab_A0_S0 ho
  obtain ⟨hp, cb', sb', rfl⟩ := ab_gQ_1 h2
  exact ⟨3000, hp, cb', sb', h1⟩
end ABL
/-- the boxes of some calls: for each the number of the call, the cuts of its ints -/
def ab_chk (l : List (Nat × List (List Int))) : Bool := match ab_pre ft_G (ab_Ls 6) (fun _ => ab_full) 3000 0 2048 84000 10 ab_A0 with
  | some A1 => l.all fun q => ab_pars (fun bs => ab_ans (ab_runc ft_G (ab_Ls 6) (ab_X (Int32.ofNat q.1) bs) ab_sc 5000 0 2048 84000 A1)) q.2 []
  | none => false
theorem ab_chk_ok {l : List (Nat × List (List Int))} (h : ab_chk l = true) {k : Nat} (hk : k ∈ l.map (fun q => q.1)) {xs : Nat → Int32} (h0 : xs 0 &&& 31 = Int32.ofNat k) : mt_true 6 xs := by
  obtain ⟨⟨k', cs⟩, hq, rfl⟩ := List.mem_map.mp hk
  unfold ab_chk at h
  split at h
  · rename_i A1 hA
    have h1 := List.all_eq_true.mp h (k', cs) hq
    obtain ⟨bs, h2, h3⟩ := ab_pars_ok (f := fun j => xs (j + 1)) cs [] h1 (fun j b hb => by simp at hb)
    obtain ⟨hh, cb, sb, ho⟩ := ab_ans_ok h2
    rw [ab_pre_G 6 xs] at hA
    rw [ab_runc_G 6 xs] at ho
    obtain ⟨S1, h4, h5⟩ := ab_pre_ok (ab_hX (fun k => ab_full_ok _)) ab_hL ab_hL0 10 ab_A0 A1 mt_S0 ab_A0_S0 hA
    obtain ⟨m, E, h6, h7⟩ := ab_runc_ok (ab_hX (ab_X_ok h0 h3)) ab_hL ab_hL0 (ab_sc_ok 6 xs) 5000 0 2048 84000 A1 S1 _ h4 ho
    obtain ⟨hp, cb', sb', rfl⟩ := ab_gQ_1 h7
    exact ⟨_, hp, cb', sb', h5 (max m 3000) _ (Nat.le_max_right _ _) (mv_fuel _ (Nat.le_max_left _ _) h6)⟩
  · cases h
theorem ab_five (x : Int32) : ∃ k, k < 32 ∧ x &&& 31 = Int32.ofNat k := by
  refine ⟨(x.toBitVec &&& 31#32).toNat, ?_, ?_⟩
  · rw [BitVec.toNat_and]
    exact Nat.lt_succ_of_le Nat.and_le_right
  · apply Int32.toBitVec.inj
    rw [Int32.toBitVec_and, Int32.toBitVec_ofNat', BitVec.ofNat_toNat, BitVec.setWidth_eq]
    rfl
