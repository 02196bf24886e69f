/-! the reference's Tokens.one: its contract -/
/-- a token more: a0 the tokens, n how many there were -/
def tk_put (M : me_M) (a0 n : Nat) (so co k sz f : Int) : me_M := me_sI (me_sI (me_sI (me_sI (me_sI (me_sI M (a0 + 1) n (Int32.ofInt so)) (a0 + 2) n (Int32.ofInt co)) (a0 + 3) n (Int32.ofInt k)) (a0 + 4) n (Int32.ofInt sz)) (a0 + 5) n (Int32.ofInt f)) a0 5 (Int32.ofInt ((n : Int) + 1))
section ONE2
variable {N : Nat} {X : Nat → Int32} {d a0 a1 l1 : Nat} {x2 x3 x4 x5 : Int} {M : me_M} {Q : me_Q}
theorem one_296 {x7 x8 x9 : Int} (n : Nat) (hn : me_i M a0 5 = n) (hc : n < 2408) (hQ : Q (.inr (some (.inl x7))) (tk_put M a0 n x8 x9 x2 (x7 - x2) x4)) : me_W (mt_G N X) 288 d 296 [some (.inr (.inl (some a0, 31, 0))), none, some (.inl x2), none, some (.inl x4), none, none, some (.inl x7), some (.inl x8), some (.inl x9)] [] M Q := by
  refine b288_296 ⟨by omega, by omega, ?_⟩
  intro M1
  have e1 : me_i M1 a0 5 = n := by
    show me_i (me_sI _ _ _ _) _ _ = _
    rw [me_i_sI, if_neg (by omega), hn]
  refine ⟨by omega, by omega, ?_⟩
  intro M2
  have e2 : me_i M2 a0 5 = n := by
    show me_i (me_sI _ _ _ _) _ _ = _
    rw [me_i_sI, if_neg (by omega), e1]
  refine ⟨by omega, by omega, ?_⟩
  intro M3
  have e3 : me_i M3 a0 5 = n := by
    show me_i (me_sI _ _ _ _) _ _ = _
    rw [me_i_sI, if_neg (by omega), e2]
  refine ⟨by omega, by omega, ?_⟩
  intro M4
  have e4 : me_i M4 a0 5 = n := by
    show me_i (me_sI _ _ _ _) _ _ = _
    rw [me_i_sI, if_neg (by omega), e3]
  refine ⟨by omega, by omega, ?_⟩
  intro M5
  have e5 : me_i M5 a0 5 = n := by
    show me_i (me_sI _ _ _ _) _ _ = _
    rw [me_i_sI, if_neg (by omega), e4]
  intro M6
  have e : M6 = tk_put M a0 n x8 x9 x2 (x7 - x2) x4 := by
    show me_sI (me_sI M4 _ _ _) _ _ _ = _
    rw [e5, e4]
    show me_sI (me_sI (me_sI M3 _ _ _) _ _ _) _ _ _ = _
    rw [e3]
    show me_sI (me_sI (me_sI (me_sI M2 _ _ _) _ _ _) _ _ _) _ _ _ = _
    rw [e2]
    show me_sI (me_sI (me_sI (me_sI (me_sI M1 _ _ _) _ _ _) _ _ _) _ _ _) _ _ _ = _
    rw [e1]
    show me_sI (me_sI (me_sI (me_sI (me_sI (me_sI M _ _ _) _ _ _) _ _ _) _ _ _) _ _ _) _ _ _ = _
    rw [hn]
    rfl
  rw [e]
  exact hQ
/-- one: the token at k is put behind the others; its end comes back -/
theorem c_288 (hd : 7 ≤ d) (h0 : 0 ≤ x2) (h2 : x2 < x3) (h3 : x3 ≤ (l1 : Int)) (h5 : me_r x5) (n : Nat) (hn : me_i M a0 5 = n) (hc : n < 2408) : me_W (mt_G N X) 288 d 0 [some (.inr (.inl (some a0, 31, 0))), some (.inr (.inl (some a1, 2, l1))), some (.inl x2), some (.inl x3), some (.inl x4), some (.inl x5), none, none, none, none] [] M (sx_qI (fun y M' => ∃ so co, rl_tok (rl_at M a1 x3) x5 x2 so co y ∧ M' = tk_put M a0 n so co x2 (y - x2) x4) nt_E) := by
  refine me_W.known fun kn => ?_
  have ka := kn.loc (i := 1) rfl
  have h4 : l1 ≤ 134217728 := kn.len ka
  have hb := kn.byte ka rfl
  clear kn ka
  have b7 := rl_at_b (M := M) (a := a1) (e := x3) (k := x2)
  have b8 := rl_at_b (M := M) (a := a1) (e := x3) (k := x2 + 1)
  have HQ : ∀ (x7 x8 x9 : Int), rl_tok (rl_at M a1 x3) x5 x2 x8 x9 x7 → me_W (mt_G N X) 288 d 296 [some (.inr (.inl (some a0, 31, 0))), none, some (.inl x2), none, some (.inl x4), none, none, some (.inl x7), some (.inl x8), some (.inl x9)] [] M (sx_qI (fun y M' => ∃ so co, rl_tok (rl_at M a1 x3) x5 x2 so co y ∧ M' = tk_put M a0 n so co x2 (y - x2) x4) nt_E) := fun x7 x8 x9 h => one_296 n hn hc ⟨x8, x9, h, rfl⟩
  refine b288_0 (ca_I (by omega) (c_287a h0 ⟨by omega, by omega⟩ ⟨by omega, by omega⟩ h3) (fun y M1 _ h => ?_) nt_E_no)
  obtain ⟨rfl, rfl⟩ := h
  refine ca_I (by omega) (c_289 ⟨by omega, by omega⟩) (fun y8 M5 _ h => ?_) nt_E_no
  obtain ⟨rfl, h8⟩ := h
  refine ⟨⟨by omega, by omega⟩, fun z8 => ?_, fun z8 => ?_⟩
  rotate_left
  · have hL : rl_isL (rl_at M5 a1 x3 x2) := by
      rcases h8 with h8 | h8
      · exact h8.2
      · exact absurd h8.1 z8
    exact one_28 (by omega) h0 h3 h4 hL hb (fun x7 x8 x9 h => HQ _ _ _ (h x5)) (x3 - x2).toNat (x2 + 1) (by omega) (by omega) (by omega) fun i i1 i2 => by omega
  have nL : ¬ rl_isL (rl_at M5 a1 x3 x2) := by
    rcases h8 with h8 | h8
    · omega
    · exact h8.2
  refine ca_I (by omega) (c_290 ⟨by omega, by omega⟩) (fun y12 M9 _ h => ?_) nt_E_no
  obtain ⟨rfl, h12⟩ := h
  refine ⟨⟨by omega, by omega⟩, fun z12 => ?_, fun z12 => ?_⟩
  rotate_left
  · have hD : rl_isD (rl_at M9 a1 x3 x2) := by
      rcases h12 with h12 | h12
      · exact h12.2
      · exact absurd h12.1 z12
    exact one_107 (by omega) h0 h3 h4 hD (fun x7 x8 x9 h => HQ _ _ _ (h x5)) (x3 - x2).toNat (x2 + 1) (by omega) (by omega) (by omega) fun i i1 i2 => by omega
  have nD : ¬ rl_isD (rl_at M9 a1 x3 x2) := by
    rcases h12 with h12 | h12
    · omega
    · exact h12.2
  generalize hQ9 : (sx_qI (fun y M' => ∃ so co, rl_tok (rl_at M9 a1 x3) x5 x2 so co y ∧ M' = tk_put M9 a0 n so co x2 (y - x2) x4) nt_E) = Q9 at *
  have K252 : ¬ (¬ x5 = 0 ∧ rl_at M9 a1 x3 x2 = 36 ∧ 97 ≤ rl_at M9 a1 x3 (x2 + 1) ∧ rl_at M9 a1 x3 (x2 + 1) ≤ 122) → ¬ (¬ x5 = 0 ∧ rl_at M9 a1 x3 x2 = 58) → ¬ (¬ x5 = 0 ∧ rl_at M9 a1 x3 x2 = 45 ∧ rl_at M9 a1 x3 (x2 + 1) = 62) → me_W (mt_G N X) 288 d 252 [some (.inr (.inl (some a0, 31, 0))), some (.inr (.inl (some a1, 2, l1))), some (.inl x2), some (.inl x3), some (.inl x4), none, some (.inl (rl_at M9 a1 x3 x2)), some (.inl (x2 + 1)), none, none] [] M9 Q9 := fun n1 n2 n3 => by
    refine b288_252 (ca_I (by omega) (c_287a (by omega) ⟨by omega, by omega⟩ ⟨by omega, by omega⟩ h3) (fun y M1 _ h => ?_) nt_E_no)
    obtain ⟨rfl, rfl⟩ := h
    refine ca_I (by omega) (c_292 ⟨by omega, by omega⟩ ⟨by omega, by omega⟩) (fun y8 M5 _ h => ?_) nt_E_no
    obtain ⟨rfl, h⟩ := h
    have hs : -1 ≤ y8 ∧ y8 ≤ 305 := by
      rw [h]
      unfold rl_sign
      repeat' split
      all_goals omega
    refine ⟨⟨by omega, by omega⟩, fun z => ?_, fun z => ?_⟩
    · refine b288_276 ⟨⟨by omega, by omega⟩, ⟨by omega, by omega⟩, fun q => b288_293 (HQ _ _ _ ?_), fun q => b288_293 (HQ _ _ _ ?_)⟩
      · exact Or.inr (Or.inr ⟨nL, nD, Or.inr ⟨n1, Or.inr ⟨n2, Or.inr ⟨n3, h, by rw [if_neg (by omega)], by rw [if_neg (by omega)]⟩⟩⟩⟩)
      · exact Or.inr (Or.inr ⟨nL, nD, Or.inr ⟨n1, Or.inr ⟨n2, Or.inr ⟨n3, h, by rw [if_neg (by omega)], by rw [if_pos (by omega)]⟩⟩⟩⟩)
    · refine b288_276 ⟨⟨by omega, by omega⟩, ⟨by omega, by omega⟩, fun q => b288_293 (HQ _ _ _ ?_), fun q => by omega⟩
      exact Or.inr (Or.inr ⟨nL, nD, Or.inr ⟨n1, Or.inr ⟨n2, Or.inr ⟨n3, h, by rw [if_pos (by omega)], by rw [if_neg (by omega)]⟩⟩⟩⟩)
  have K199 : ¬ (¬ x5 = 0 ∧ rl_at M9 a1 x3 x2 = 36 ∧ 97 ≤ rl_at M9 a1 x3 (x2 + 1) ∧ rl_at M9 a1 x3 (x2 + 1) ≤ 122) → me_W (mt_G N X) 288 d 199 [some (.inr (.inl (some a0, 31, 0))), some (.inr (.inl (some a1, 2, l1))), some (.inl x2), some (.inl x3), some (.inl x4), some (.inl x5), some (.inl (rl_at M9 a1 x3 x2)), some (.inl (x2 + 1)), some (.inl 4), some (.inl (rl_at M9 a1 x3 x2))] [] M9 Q9 := fun n1 => by
    have K217 : ¬ (¬ x5 = 0 ∧ rl_at M9 a1 x3 x2 = 58) → me_W (mt_G N X) 288 d 217 [some (.inr (.inl (some a0, 31, 0))), some (.inr (.inl (some a1, 2, l1))), some (.inl x2), some (.inl x3), some (.inl x4), some (.inl x5), some (.inl (rl_at M9 a1 x3 x2)), some (.inl (x2 + 1)), some (.inl 4), none] [] M9 Q9 := fun n2 => by
      refine b288_217 ⟨h5, fun q => K252 n1 n2 (fun z => z.1 q), fun q => ⟨⟨by omega, by omega⟩, ⟨by omega, by omega⟩, fun q2 => K252 n1 n2 (fun z => q2 z.2.1), fun q2 => ?_⟩⟩
      refine ca_I (by omega) (c_287a (by omega) ⟨by omega, by omega⟩ ⟨by omega, by omega⟩ h3) (fun y M1 _ h => ?_) nt_E_no
      obtain ⟨rfl, rfl⟩ := h
      refine ⟨⟨by omega, by omega⟩, ⟨by omega, by omega⟩, fun q3 => K252 n1 n2 (fun z => q3 z.2.2), fun q3 => HQ _ _ _ ?_⟩
      exact Or.inr (Or.inr ⟨nL, nD, Or.inr ⟨n1, Or.inr ⟨n2, Or.inl ⟨⟨q, q2, q3⟩, rfl, rfl, by omega⟩⟩⟩⟩)
    refine b288_199 ⟨h5, fun q => K217 (fun z => z.1 q), fun q => ⟨⟨by omega, by omega⟩, ⟨by omega, by omega⟩, fun q2 => K217 (fun z => q2 z.2), fun q2 => HQ _ _ _ ?_⟩⟩
    exact Or.inr (Or.inr ⟨nL, nD, Or.inr ⟨n1, Or.inl ⟨⟨q, q2⟩, rfl, q2, rfl⟩⟩⟩)
  refine ⟨h5, fun q => K199 (fun z => z.1 q), fun q => ⟨⟨by omega, by omega⟩, ⟨by omega, by omega⟩, fun q2 => K199 (fun z => q2 z.2.1), fun q2 => ?_⟩⟩
  refine ca_I (by omega) (c_287a (by omega) ⟨by omega, by omega⟩ ⟨by omega, by omega⟩ h3) (fun y M1 _ h => ?_) nt_E_no
  obtain ⟨rfl, rfl⟩ := h
  refine ⟨⟨by omega, by omega⟩, ⟨by omega, by omega⟩, fun q3 => K199 (fun z => by omega), fun q3 => ?_⟩
  refine ca_I (by omega) (c_287a (by omega) ⟨by omega, by omega⟩ ⟨by omega, by omega⟩ h3) (fun y M1 _ h => ?_) nt_E_no
  obtain ⟨rfl, rfl⟩ := h
  refine ⟨⟨by omega, by omega⟩, ⟨by omega, by omega⟩, fun q4 => K199 (fun z => by omega), fun q4 => ?_⟩
  refine ca_I (by omega) (c_287a (by omega) ⟨by omega, by omega⟩ ⟨by omega, by omega⟩ h3) (fun y M1 _ h => ?_) nt_E_no
  obtain ⟨rfl, rfl⟩ := h
  exact HQ _ _ _ (Or.inr (Or.inr ⟨nL, nD, Or.inl ⟨⟨q, q2, q3, q4⟩, rfl, rfl, by omega⟩⟩))
end ONE2
