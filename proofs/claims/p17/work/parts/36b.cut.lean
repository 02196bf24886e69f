/-! the reference's Tokens.cut: its contract -/
/-- the tokens of a text from k on; c: how many there were, most: of the file, beyond which none is cut -/
def rl_cutQ (M : me_M) (a0 a1 c : Nat) (e f r most k : Int) : me_M → Prop := fun M' => ∃ l p, rl_toks (rl_at M a1 e) e r k l p ∧ (l.length : Int) ≤ most ∧ (p = e ∨ (l.length : Int) = most) ∧ M' = tk_end (tk_puts M a0 c f l) a0 (c + l.length) e f
section CUT
variable {N : Nat} {X : Nat → Int32} {d a0 a1 l1 : Nat} {x2 x3 x4 x5 x6 : Int}
theorem cut_end {M : me_M} {Q : me_Q} (n : Nat) (hn : me_i M a0 5 = n) (hc : n < 2408) (hQ : Q (.inr none) (tk_end M a0 n x2 x3)) : 0 ≤ me_i M a0 5 ∧ me_i M a0 5 < ((2408 : Nat) : Int) ∧ let M1 : me_M := me_sI M (a0 + 1) (me_i M a0 5).toNat (Int32.ofInt 0); 0 ≤ me_i M1 a0 5 ∧ me_i M1 a0 5 < ((2408 : Nat) : Int) ∧ let M2 : me_M := me_sI M1 (a0 + 2) (me_i M1 a0 5).toNat (Int32.ofInt (-1)); 0 ≤ me_i M2 a0 5 ∧ me_i M2 a0 5 < ((2408 : Nat) : Int) ∧ let M3 : me_M := me_sI M2 (a0 + 3) (me_i M2 a0 5).toNat (Int32.ofInt x2); 0 ≤ me_i M3 a0 5 ∧ me_i M3 a0 5 < ((2408 : Nat) : Int) ∧ let M4 : me_M := me_sI M3 (a0 + 4) (me_i M3 a0 5).toNat (Int32.ofInt 0); 0 ≤ me_i M4 a0 5 ∧ me_i M4 a0 5 < ((2408 : Nat) : Int) ∧ let M5 : me_M := me_sI M4 (a0 + 5) (me_i M4 a0 5).toNat (Int32.ofInt x3); Q (.inr none) M5 := by
  refine ⟨by omega, by omega, ?_⟩
  intro M1
  have e1 : me_i M1 a0 5 = n := by
    show me_i (me_sI _ _ _ _) _ _ = _
    rw [me_i_sI, if_neg (by omega), hn]
  refine ⟨by omega, by omega, ?_⟩
  intro M2
  have e2 : me_i M2 a0 5 = n := by
    show me_i (me_sI _ _ _ _) _ _ = _
    rw [me_i_sI, if_neg (by omega), e1]
  refine ⟨by omega, by omega, ?_⟩
  intro M3
  have e3 : me_i M3 a0 5 = n := by
    show me_i (me_sI _ _ _ _) _ _ = _
    rw [me_i_sI, if_neg (by omega), e2]
  refine ⟨by omega, by omega, ?_⟩
  intro M4
  have e4 : me_i M4 a0 5 = n := by
    show me_i (me_sI _ _ _ _) _ _ = _
    rw [me_i_sI, if_neg (by omega), e3]
  refine ⟨by omega, by omega, ?_⟩
  intro M5
  have e : M5 = tk_end M a0 n x2 x3 := by
    show me_sI M4 _ _ _ = _
    rw [e4]
    show me_sI (me_sI M3 _ _ _) _ _ _ = _
    rw [e3]
    show me_sI (me_sI (me_sI M2 _ _ _) _ _ _) _ _ _ = _
    rw [e2]
    show me_sI (me_sI (me_sI (me_sI M1 _ _ _) _ _ _) _ _ _) _ _ _ = _
    rw [e1]
    show me_sI (me_sI (me_sI (me_sI (me_sI M _ _ _) _ _ _) _ _ _) _ _ _) _ _ _ = _
    rw [hn]
    rfl
  rw [e]
  exact hQ
theorem cut_88 {M : me_M} {Q : me_Q} (h1 : x2 ≤ (l1 : Int)) (h4 : l1 ≤ 134217728) : ∀ (m : Nat) (x7 : Int), 0 ≤ x7 → x7 ≤ x2 → x2 - x7 ≤ m →
    (∀ y, x7 ≤ y → y ≤ x2 → rl_R (rl_at M a1 x2) x2 x7 = rl_K (rl_at M a1 x2) x2 y → me_W (mt_G N X) 286 d 9 [some (.inr (.inl (some a0, 31, 0))), some (.inr (.inl (some a1, 2, l1))), some (.inl x2), some (.inl x3), some (.inl x4), some (.inl x5), some (.inl x6), some (.inl y), none] [] M Q) →
    me_W (mt_G N X) 286 d 88 [some (.inr (.inl (some a0, 31, 0))), some (.inr (.inl (some a1, 2, l1))), some (.inl x2), some (.inl x3), some (.inl x4), some (.inl x5), some (.inl x6), some (.inl x7), none] [] M Q := by
  intro m
  induction m with
  | zero =>
    intro x7 k1 k2 k3 H
    have e : x7 = x2 := by omega
    subst e
    exact b286_88 ⟨⟨by omega, by omega⟩, ⟨by omega, by omega⟩, fun _ => H _ (by omega) (by omega) (by rw [rl_R_e, rl_K_e]), fun q => by omega⟩
  | succ m ih =>
    intro x7 k1 k2 k3 H
    refine b286_88 ⟨⟨by omega, by omega⟩, ⟨by omega, by omega⟩, fun q => H _ (by omega) (by omega) ?_, fun q => ⟨k1, by omega, fun hb => ⟨me_i_r _ _ _, ⟨by omega, by omega⟩, fun z => H _ (by omega) (by omega) ?_, fun z => ih (x7 + 1) (by omega) (by omega) (by omega) fun y y1 y2 y3 => H y (by omega) y2 ?_⟩⟩⟩
    · rw [show x7 = x2 by omega, rl_R_e, rl_K_e]
    · refine rl_R_n q ?_
      unfold rl_at
      rw [if_pos q, z]
      rfl
    · rw [rl_R_s q, y3]
      unfold rl_at
      rw [if_pos q]
      omega
theorem rl_cutQ_K {M M' : me_M} {c : Nat} {k k' r most : Int} (hk : rl_K (rl_at M a1 x2) x2 k = rl_K (rl_at M a1 x2) x2 k') (h : rl_cutQ M a0 a1 c x2 x3 r most k M') : rl_cutQ M a0 a1 c x2 x3 r most k' M' := by
  obtain ⟨l, p, q1, q2, q3, q4⟩ := h
  exact ⟨l, p, rl_toks_K hk q1, q2, q3, q4⟩
theorem rl_cutQ_nil {M : me_M} {c : Nat} {k r most : Int} (h0 : 0 ≤ most) (h : x2 = rl_K (rl_at M a1 x2) x2 k ∨ most = 0) : rl_cutQ M a0 a1 c x2 x3 r most k (tk_end M a0 c x2 x3) := by
  refine ⟨[], rl_K (rl_at M a1 x2) x2 k, rfl, h0, ?_, rfl⟩
  rcases h with h | h
  · exact Or.inl h.symm
  · exact Or.inr h.symm
theorem rl_cutQ_cons {M M' : me_M} {c : Nat} {k r most so co y : Int} (hne : a1 < a0 ∨ a0 + 5 < a1) (hK : rl_K (rl_at M a1 x2) x2 k = k) (hk : k < x2) (ht : rl_tok (rl_at M a1 x2) r k so co y) (h : rl_cutQ (tk_put M a0 c so co k (y - k) x3) a0 a1 (c + 1) x2 x3 r (most - 1) y M') : rl_cutQ M a0 a1 c x2 x3 r most k M' := by
  obtain ⟨l, p, q1, q2, q3, q4⟩ := h
  rw [tk_put_at hne] at q1
  have hl : (((so, co, k, y) :: l).length : Int) = l.length + 1 := by
    rw [List.length_cons]
    omega
  refine ⟨(so, co, k, y) :: l, p, ⟨hK, hk, ht, q1⟩, by omega, ?_, ?_⟩
  · rcases q3 with q3 | q3
    · exact Or.inl q3
    · exact Or.inr (by omega)
  · rw [q4, List.length_cons, show c + (l.length + 1) = c + 1 + l.length by omega]
    rfl
theorem c_286w {Q : me_Q} (hd : 8 ≤ d) (h1 : x2 ≤ (l1 : Int)) (h4 : l1 ≤ 134217728) (hr : me_r x4) (hne : a1 < a0 ∨ a0 + 5 < a1) (h5 : 0 ≤ x5 ∧ x5 ≤ 600) (k4 : 0 ≤ x6) (k7 : x6 + x5 + 1 < 2408) : ∀ (m : Nat) (M : me_M) (x7 : Int) (n : Nat), (∀ j, -128 ≤ me_i M a1 j ∧ me_i M a1 j ≤ 127) → me_i M a0 5 = n → 0 ≤ x7 → x7 ≤ x2 → x2 - x7 ≤ m → x6 ≤ n → (n : Int) ≤ x6 + x5 + 1 → (∀ M', rl_cutQ M a0 a1 n x2 x3 x4 (x6 + x5 + 1 - n) x7 M' → Q (.inr none) M') → me_W (mt_G N X) 286 d 9 [some (.inr (.inl (some a0, 31, 0))), some (.inr (.inl (some a1, 2, l1))), some (.inl x2), some (.inl x3), some (.inl x4), some (.inl x5), some (.inl x6), some (.inl x7), none] [] M Q := by
  intro m
  induction m with
  | zero =>
    intro M x7 n hb hn k1 k2 k3 k5 k6 H
    refine b286_9 ⟨⟨by omega, by omega⟩, ⟨by omega, by omega⟩, fun q => cut_end n hn (by omega) (H _ (rl_cutQ_nil (by omega) (Or.inl ?_))), fun q => by omega⟩
    rw [show x7 = x2 by omega, rl_K_e]
  | succ m ih =>
    intro M x7 n hb hn k1 k2 k3 k5 k6 H
    have hrn := me_i_r M a0 5
    have bl : x7 < x2 → ∀ c, me_i M a1 x7.toNat = c → c = 9 ∨ c = 10 ∨ c = 13 ∨ c = 32 → me_W (mt_G N X) 286 d 9 [some (.inr (.inl (some a0, 31, 0))), some (.inr (.inl (some a1, 2, l1))), some (.inl x2), some (.inl x3), some (.inl x4), some (.inl x5), some (.inl x6), some (.inl (x7 + 1)), none] [] M Q := fun q c ec hc => by
      have eT : rl_at M a1 x2 x7 = me_i M a1 x7.toNat % 256 := by
        unfold rl_at
        rw [if_pos q]
      exact ih M (x7 + 1) n hb hn (by omega) (by omega) (by omega) k5 k6 fun M' h => H M' (rl_cutQ_K (rl_K_b q (by rw [eT, ec]; omega)).symm h)
    have tok : x7 < x2 → (n : Int) ≤ x6 + x5 → rl_K (rl_at M a1 x2) x2 x7 = x7 → ∃ d', d = d' + 1 ∧ me_W (mt_G N X) 288 d' 0 [some (.inr (.inl (some a0, 31, 0))), some (.inr (.inl (some a1, 2, l1))), some (.inl x7), some (.inl x2), some (.inl x3), some (.inl x4), none, none, none, none] [] M (sx_qI (fun y14 M11 => me_W (mt_G N X) 286 d 9 [some (.inr (.inl (some a0, 31, 0))), some (.inr (.inl (some a1, 2, l1))), some (.inl x2), some (.inl x3), some (.inl x4), some (.inl x5), some (.inl x6), some (.inl y14), none] [] M11 Q) (fun e M => Q (.inl e) M)) := fun q qn hK => by
      refine ca_I (by omega) (c_288 (by omega) k1 q h1 hr n hn (by omega)) (fun y M1 _ h => ?_) nt_E_no
      obtain ⟨so, co, ht, rfl⟩ := h
      obtain ⟨y1, y2⟩ := rl_tok_n rl_at_e q ht
      refine ih (tk_put M a0 n so co x7 (y - x7) x3) y (n + 1) (fun j => by rw [tk_put_i hne]; exact hb j) (tk_put_c (by omega)) (by omega) y2 (by omega) (by omega) (by omega) fun M' h => H M' (rl_cutQ_cons hne hK q ht ?_)
      rw [show x6 + x5 + 1 - (n : Int) - 1 = x6 + x5 + 1 - ((n + 1 : Nat) : Int) by omega]
      exact h
    refine b286_9 ⟨⟨by omega, by omega⟩, ⟨by omega, by omega⟩, fun q => cut_end n hn (by omega) (H _ (rl_cutQ_nil (by omega) (Or.inl ?_))), fun q => ⟨⟨by omega, by omega⟩, ⟨by omega, by omega⟩, fun q2 => cut_end n hn (by omega) (H _ (rl_cutQ_nil (by omega) (Or.inr (by omega)))), fun q2 => ⟨k1, by omega, fun hb7 => ?_⟩⟩⟩
    · rw [show x7 = x2 by omega, rl_K_e]
    have eT : rl_at M a1 x2 x7 = me_i M a1 x7.toNat % 256 := by
      unfold rl_at
      rw [if_pos q]
    refine ⟨me_i_r _ _ _, ⟨by omega, by omega⟩, fun z => bl q _ z (by omega), fun z9 => ⟨me_i_r _ _ _, ⟨by omega, by omega⟩, fun z => bl q _ z (by omega), fun z10 => ⟨me_i_r _ _ _, ⟨by omega, by omega⟩, fun z => bl q _ z (by omega), fun z13 => ⟨me_i_r _ _ _, ⟨by omega, by omega⟩, fun z32 => ⟨me_i_r _ _ _, ⟨by omega, by omega⟩, fun z47 => tok q (by omega) (rl_K_t q (by rw [eT]; omega) (by rw [eT]; omega)), fun z47 => ?_⟩, fun z => bl q _ z (by omega)⟩⟩⟩⟩
    have b8 := rl_at_b (M := M) (a := a1) (e := x2) (k := x7 + 1)
    refine ca_I (by omega) (c_287a (by omega) ⟨by omega, by omega⟩ ⟨by omega, by omega⟩ h1) (fun y M1 _ h => ?_) nt_E_no
    obtain ⟨rfl, rfl⟩ := h
    refine ⟨⟨by omega, by omega⟩, ⟨by omega, by omega⟩, fun z => tok q (by omega) (rl_K_t q (by rw [eT]; omega) (by rw [eT]; omega)), fun z => ?_⟩
    have hKR : rl_K (rl_at M1 a1 x2) x2 x7 = rl_R (rl_at M1 a1 x2) x2 (x7 + 1) := by
      rw [rl_K_r q (by rw [eT]; omega) z, rl_R_s q (by rw [eT]; omega)]
    refine b286_88 ⟨⟨by omega, by omega⟩, ⟨by omega, by omega⟩, fun z9 => by omega, fun _ => ⟨k1, by omega, fun _ => ⟨me_i_r _ _ _, ⟨by omega, by omega⟩, fun z9 => by omega, fun _ => ?_⟩⟩⟩
    exact cut_88 h1 h4 (x2 - (x7 + 1)).toNat (x7 + 1) (by omega) (by omega) (by omega) fun y y1 y2 y3 => ih M1 y n hb hn (by omega) y2 (by omega) k5 k6 fun M' h => H M' (rl_cutQ_K (hKR.trans y3).symm h)
/-- cut: all tokens of a text behind those that were there -/
theorem c_286 {M : me_M} {n : Nat} (hd : 8 ≤ d) (h0 : 0 ≤ x2) (h1 : x2 ≤ (l1 : Int)) (hr : me_r x4) (hne : a1 < a0 ∨ a0 + 5 < a1) (h5 : 0 ≤ x5 ∧ x5 ≤ 600) (hn : me_i M a0 5 = n) (k7 : (n : Int) + x5 + 1 < 2408) : me_W (mt_G N X) 286 d 0 [some (.inr (.inl (some a0, 31, 0))), some (.inr (.inl (some a1, 2, l1))), some (.inl x2), some (.inl x3), some (.inl x4), some (.inl x5), none, none, none] [] M (sx_qV (rl_cutQ M a0 a1 n x2 x3 x4 (x5 + 1) 0) nt_E) := by
  refine me_W.known fun kn => ?_
  have ka := kn.loc (i := 1) rfl
  have h4 : l1 ≤ 134217728 := kn.len ka
  have hb := kn.byte ka rfl
  refine b286_0 ?_
  rw [hn]
  refine c_286w (x6 := n) hd h1 h4 hr hne h5 (by omega) k7 x2.toNat M 0 n hb hn (by omega) h0 (by omega) (by omega) (by omega) fun M' h => ?_
  rw [show (n : Int) + x5 + 1 - n = x5 + 1 by omega] at h
  exact h
end CUT
