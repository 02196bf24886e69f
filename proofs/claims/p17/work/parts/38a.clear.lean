/-! the reference's files: clear, classCount -/
section CLR
variable {N : Nat} {X : Nat → Int32} {d p m : Nat} {M : me_M}
theorem c_283 : me_W (mt_G N X) 283 d 0 [some (.inr (.inl (some p, 29, 0)))] [] M (sx_qV (fun M' => fr (fun b j => b = p ∧ (j = 57 ∨ j = 4 ∨ j = 16) ∨ b = p + 7 ∧ j = 5) M M' ∧ me_i M' p 57 = 0 ∧ me_i M' p 4 = 0 ∧ me_i M' p 16 = 0 ∧ me_i M' (p + 7) 5 = 0) nt_E) := by
  refine b283_0 ⟨by omega, ?_⟩
  intro M1
  have f1 : fr (fun b j => b = p ∧ j = 57) M M1 := fr_sI ⟨rfl, rfl⟩
  have v1 : me_i M1 p 57 = 0 := by
    show me_i (me_sI _ _ _ _) _ _ = _
    rw [me_i_sI, if_pos ⟨rfl, rfl⟩]
    rfl
  intro M2
  have f2 : fr (fun b j => b = p + 7 ∧ j = 5) M1 M2 := fr_sI ⟨rfl, rfl⟩
  have v2 : me_i M2 (p + 7) 5 = 0 := by
    show me_i (me_sI _ _ _ _) _ _ = _
    rw [me_i_sI, if_pos ⟨rfl, rfl⟩]
    rfl
  intro M3
  have f3 : fr (fun b j => b = p ∧ j = 4) M2 M3 := fr_sI ⟨rfl, rfl⟩
  have v3 : me_i M3 p 4 = 0 := by
    show me_i (me_sI _ _ _ _) _ _ = _
    rw [me_i_sI, if_pos ⟨rfl, rfl⟩]
    rfl
  intro M4
  have f4 : fr (fun b j => b = p ∧ j = 16) M3 M4 := fr_sI ⟨rfl, rfl⟩
  have v4 : me_i M4 p 16 = 0 := by
    show me_i (me_sI _ _ _ _) _ _ = _
    rw [me_i_sI, if_pos ⟨rfl, rfl⟩]
    rfl
  exact ⟨((f1.mo fun b j z => by omega).tr (f2.mo fun b j z => by omega)).tr ((f3.mo fun b j z => by omega).tr (f4.mo fun b j z => by omega)), by rw [f4.i (by omega), f3.i (by omega), f2.i (by omega), v1], by rw [f4.i (by omega), v3], v4, by rw [f4.i (by omega), f3.i (by omega), v2]⟩
theorem cc_le {B : Nat → Nat → Int} : ∀ D, cc B D ≤ D
  | 0 => Nat.le_refl _
  | D + 1 => by
    have := cc_le (B := B) D
    rw [cc]
    split <;> omega
theorem cnt_4 (hm : me_i M p 16 = (m : Int)) (h8 : m < 2408) : ∀ (k i : Nat), i ≤ m → m - i ≤ k → me_W (mt_G N X) 284 d 4 [some (.inr (.inl (some p, 29, 0))), some (.inl (cc (tA p M) i : Int)), some (.inl (i : Int))] [] M (sx_qI (fun y M' => M' = M ∧ y = (cc (tA p M) m : Int)) nt_E) := by
  intro k
  induction k with
  | zero =>
    intro i i1 i2
    have e : i = m := by omega
    subst e
    refine b284_4 ⟨⟨by omega, by omega⟩, ⟨by omega, by omega⟩, fun _ => ⟨rfl, rfl⟩, fun z => by omega⟩
  | succ k ih =>
    intro i i1 i2
    have ci := cc_le (B := tA p M) i
    have e1 : me_i M (p + 25) i = tA p M 0 i := rfl
    refine b284_4 ⟨⟨by omega, by omega⟩, ⟨by omega, by omega⟩, fun z => ?_, fun z => ⟨by omega, by omega, ?_⟩⟩
    · have e : i = m := by omega
      subst e
      exact ⟨rfl, rfl⟩
    · rw [Int.toNat_natCast, e1]
      refine ⟨me_i_r M (p + 25) i, fun w => ?_, fun w => ?_⟩
      · have := ih (i + 1) (by omega) (by omega)
        rw [cc, if_neg w] at this
        rw [show ((cc (tA p M) i : Nat) : Int) + 0 = ((cc (tA p M) i + 0 : Nat) : Int) by omega, show (i : Int) + 1 = ((i + 1 : Nat) : Int) by omega]
        exact this
      · have := ih (i + 1) (by omega) (by omega)
        rw [cc, if_pos w] at this
        rw [show ((cc (tA p M) i : Nat) : Int) + 1 = ((cc (tA p M) i + 1 : Nat) : Int) by omega, show (i : Int) + 1 = ((i + 1 : Nat) : Int) by omega]
        exact this
theorem c_284 (hm : me_i M p 16 = (m : Int)) (h8 : m < 2408) : me_W (mt_G N X) 284 d 0 [some (.inr (.inl (some p, 29, 0))), none, none] [] M (sx_qI (fun y M' => M' = M ∧ y = (cc (tA p M) m : Int)) nt_E) := b284_0 (cnt_4 hm h8 m 0 (by omega) (by omega))
end CLR
/-! the same text has the same tokens -/
section DET
variable {T : Int → Int} {e r k : Int}
theorem rl_ends_det {P : Int → Prop} {n n' : Int} (h : rl_ends T P k n) (h' : rl_ends T P k n') : n = n' := by
  unfold rl_ends at h h'
  obtain ⟨h1, h2, h3⟩ := h
  obtain ⟨h1', h2', h3'⟩ := h'
  rcases Int.lt_trichotomy n n' with c | c | c
  · exact absurd (h2' n (by omega) c) h3
  · exact c
  · exact absurd (h2 n' (by omega) c) h3'
theorem rl_code_det {n y y' : Int} (h : rl_code T k n y) (h' : rl_code T k n y') : y = y' := by
  rcases h with ⟨w, rfl, w1, w2, w3⟩ | ⟨rfl, w1⟩ <;> rcases h' with ⟨v, rfl, v1, v2, v3⟩ | ⟨rfl, v1⟩
  · rcases Nat.lt_trichotomy w v with c | c | c
    · exact absurd w2 (v3 w c)
    · rw [c]
    · exact absurd v2 (w3 v c)
  · exact absurd w2 (v1 w w1)
  · exact absurd v2 (w1 v v1)
  · rfl
theorem rl_tok_det {so co n so' co' n' : Int} (h : rl_tok T r k so co n) (h' : rl_tok T r k so' co' n') : so = so' ∧ co = co' ∧ n = n' := by
  unfold rl_tok at h h'
  rcases h with ⟨a1, a2, a3, a4⟩ | ⟨a1, a2, a3, a4⟩ | ⟨a1, a2, a3⟩ <;> rcases h' with ⟨b1, b2, b3, b4⟩ | ⟨b1, b2, b3, b4⟩ | ⟨b1, b2, b3⟩
  · have e1 := rl_ends_det a2 b2
    subst e1
    have e2 := rl_code_det a3 b3
    subst e2
    exact ⟨by rw [a4, b4], rfl, rfl⟩
  · unfold rl_isL at a1
    unfold rl_isD at b1
    omega
  · exact absurd a1 b1
  · unfold rl_isD at a1
    unfold rl_isL at b1
    omega
  · have e1 := rl_ends_det a2 b2
    subst e1
    exact ⟨by rw [a4, b4], by rw [a3, b3], rfl⟩
  · exact absurd a1 b2
  · exact absurd b1 a1
  · exact absurd b1 a2
  · rcases a3 with ⟨c1, c2, c3, c4⟩ | ⟨c1, a3⟩ <;> rcases b3 with ⟨d1, d2, d3, d4⟩ | ⟨d1, b3⟩
    · exact ⟨by omega, by omega, by omega⟩
    · exact absurd c1 d1
    · exact absurd d1 c1
    rcases a3 with ⟨c1, c2, c3, c4⟩ | ⟨c1, a3⟩ <;> rcases b3 with ⟨d1, d2, d3, d4⟩ | ⟨d1, b3⟩
    · exact ⟨by omega, by omega, by omega⟩
    · exact absurd c1 d1
    · exact absurd d1 c1
    rcases a3 with ⟨c1, c2, c3, c4⟩ | ⟨c1, a3⟩ <;> rcases b3 with ⟨d1, d2, d3, d4⟩ | ⟨d1, b3⟩
    · exact ⟨by omega, by omega, by omega⟩
    · exact absurd c1 d1
    · exact absurd d1 c1
    obtain ⟨a3, a4, a5⟩ := a3
    obtain ⟨b3, b4, b5⟩ := b3
    have e2 : co = co' := by rw [a3, b3]
    subst e2
    exact ⟨by rw [a4, b4], rfl, by rw [a5, b5]⟩
theorem rl_toks_det : ∀ (l l' : List (Int × Int × Int × Int)) (k pp pp' b : Int), rl_toks T e r k l pp → rl_toks T e r k l' pp' → (l.length : Int) ≤ b → (l'.length : Int) ≤ b → (pp = e ∨ (l.length : Int) = b) → (pp' = e ∨ (l'.length : Int) = b) → l = l'
  | [], [], _, _, _, _, _, _, _, _, _, _ => rfl
  | [], x :: l', k, pp, pp', b, h, h', b1, b2, c1, c2 => by
    have h : pp = rl_K T e k := h
    obtain ⟨h1, h2, _⟩ := h'
    rw [List.length_cons] at b2
    rw [List.length_nil] at c1
    omega
  | x :: l, [], k, pp, pp', b, h, h', b1, b2, c1, c2 => by
    have h' : pp' = rl_K T e k := h'
    obtain ⟨h1, h2, _⟩ := h
    rw [List.length_cons] at b1
    rw [List.length_nil] at c2
    omega
  | x :: l, x' :: l', k, pp, pp', b, h, h', b1, b2, c1, c2 => by
    obtain ⟨h1, h2, h3, h4⟩ := h
    obtain ⟨h1', h2', h3', h4'⟩ := h'
    have ek : x.2.2.1 = x'.2.2.1 := h1.symm.trans h1'
    rw [ek] at h3
    obtain ⟨d1, d2, d3⟩ := rl_tok_det h3 h3'
    rw [d3] at h4
    rw [List.length_cons] at b1 b2 c1 c2
    have := rl_toks_det l l' x'.2.2.2 pp pp' (b - 1) h4 h4' (by omega) (by omega) (by omega) (by omega)
    rw [this]
    have ex : x = x' := Prod.ext d1 (Prod.ext d2 (Prod.ext ek d3))
    rw [ex]
end DET
