/-! the claim -/
theorem ab_all (k : Nat) (hk : k < 32) : k ∈ ab_w1.map (fun q => q.1) ∨ k ∈ ab_w2.map (fun q => q.1) ∨ k ∈ ab_w3.map (fun q => q.1) ∨ k ∈ ab_w4.map (fun q => q.1) ∨ k ∈ ab_w5.map (fun q => q.1) ∨ k ∈ ab_w6.map (fun q => q.1) := by
  revert k
  decide
theorem ab_six (xs : Nat → Int32) : mt_true 6 xs := by
  obtain ⟨k, hk, h0⟩ := ab_five (xs 0)
  rcases ab_all k hk with h | h | h | h | h | h
  · exact ab_chk_ok ab_c1 h h0
  · exact ab_chk_ok ab_c2 h h0
  · exact ab_chk_ok ab_c3 h h0
  · exact ab_chk_ok ab_c4 h h0
  · exact ab_chk_ok ab_c5 h h0
  · exact ab_chk_ok ab_c6 h h0
theorem ab_true (L : Nat) (xs : Nat → Int32) (h : L ≤ 6) : mt_true L xs := by
  rcases Nat.lt_or_ge L 6 with q | q
  · rcases (show L = 0 ∨ L = 1 ∨ L = 2 ∨ L = 3 ∨ L = 4 ∨ L = 5 by omega) with e | e | e | e | e | e
    · rw [e]; exact ab_short ab_s0
    · rw [e]; exact ab_short ab_s1
    · rw [e]; exact ab_short ab_s2
    · rw [e]; exact ab_short ab_s3
    · rw [e]; exact ab_short ab_s4
    · rw [e]; exact ab_short ab_s5
  · rw [show L = 6 by omega]
    exact ab_six xs
theorem i_vc : Claimed_1_1 ∧ Claimed_1_2 := mt_claim ab_true
