/-! the reference's files: the tokens in memory -/
section TK
variable {T : Int → Int} {e r k p : Int} {l : List (Int × Int × Int × Int)} {M : me_M} {a0 n : Nat} {f : Int}
theorem rl_sk_b : ∀ (m : Nat) (b : Bool) (k : Int), k ≤ rl_sk T m b k ∧ rl_sk T m b k ≤ k + m
  | 0, _, k => ⟨by show k ≤ k; omega, by show k ≤ k + (0 : Nat); omega⟩
  | m + 1, true, k => by
    have h1 := rl_sk_b m false (k + 1)
    have h2 := rl_sk_b m true (k + 1)
    rw [rl_sk]
    split <;> omega
  | m + 1, false, k => by
    have h1 := rl_sk_b m false (k + 1)
    have h2 := rl_sk_b m true (k + 1)
    rw [rl_sk]
    repeat' split
    all_goals omega
theorem rl_K_ge (h : k ≤ e) : k ≤ rl_K T e k ∧ rl_K T e k ≤ e := by
  have := rl_sk_b (T := T) (e - k).toNat false k
  unfold rl_K
  omega
/-- a token is well made -/
def tkw (r e : Int) (t : Int × Int × Int × Int) : Prop := 0 ≤ t.2.2.1 ∧ t.2.2.1 < t.2.2.2 ∧ t.2.2.2 ≤ e ∧ (-1 ≤ t.1 ∧ t.1 ≤ 5 ∧ ¬ t.1 = 0 ∧ (r = 0 → ¬ t.1 = 5)) ∧ -1 ≤ t.2.1 ∧ t.2.1 ≤ 400
theorem rl_tok_w {so co y : Int} (hT : ∀ i, e ≤ i → T i = -1) (hb : ∀ i, -1 ≤ T i ∧ T i ≤ 255) (h0 : 0 ≤ k) (hk : k < e) (h : rl_tok T r k so co y) : tkw r e (so, co, k, y) := by
  obtain ⟨y1, y2⟩ := rl_tok_n hT hk h
  have c0 := hb k
  have c1 := hb (k + 1)
  refine ⟨h0, y1, y2, ?_⟩
  show (-1 ≤ so ∧ so ≤ 5 ∧ ¬ so = 0 ∧ (r = 0 → ¬ so = 5)) ∧ -1 ≤ co ∧ co ≤ 400
  rcases h with ⟨_, _, h3, h4⟩ | ⟨_, _, h3, h4⟩ | ⟨_, _, h⟩
  · have hc : -1 ≤ co ∧ co ≤ 400 := by
      rcases h3 with ⟨w, w1, w2, _⟩ | ⟨w1, _⟩ <;> omega
    refine ⟨?_, hc⟩
    rw [h4]
    repeat' split
    all_goals omega
  · refine ⟨?_, by omega, by omega⟩
    rw [h4]
    repeat' split
    all_goals omega
  · rcases h with ⟨_, rfl, rfl, _⟩ | ⟨_, ⟨_, rfl, rfl, _⟩ | ⟨_, ⟨_, rfl, rfl, _⟩ | ⟨_, h5, h6, _⟩⟩⟩
    · omega
    · omega
    · omega
    · have hc : -1 ≤ co ∧ co ≤ 400 := by
        rw [h5]
        unfold rl_sign
        repeat' split
        all_goals omega
      refine ⟨?_, hc⟩
      rw [h6]
      split <;> omega
theorem rl_toks_w (hT : ∀ i, e ≤ i → T i = -1) (hb : ∀ i, -1 ≤ T i ∧ T i ≤ 255) : ∀ (l : List (Int × Int × Int × Int)) (k : Int), 0 ≤ k → k ≤ e → rl_toks T e r k l p → ∀ (i : Nat) (t : Int × Int × Int × Int), l[i]? = some t → tkw r e t ∧ k ≤ t.2.2.1 ∧ ∀ (j : Nat) (t' : Int × Int × Int × Int), i < j → l[j]? = some t' → t.2.2.2 ≤ t'.2.2.1
  | [], _, _, _, _, i, t, hi => by cases hi
  | x :: l, k, h0, hk, h, i, t, hi => by
    obtain ⟨h1, h2, h3, h4⟩ := h
    have hK := rl_K_ge (T := T) hk
    have hw := rl_tok_w hT hb (by omega) h2 h3
    have hw0 := hw
    obtain ⟨w1, w2, w3, _⟩ := hw0
    have w2 : x.2.2.1 < x.2.2.2 := w2
    have w3 : x.2.2.2 ≤ e := w3
    cases i with
    | zero =>
      have : x = t := Option.some.inj hi
      subst this
      refine ⟨hw, by omega, fun j t' j1 j2 => ?_⟩
      cases j with
      | zero => omega
      | succ j => exact (rl_toks_w hT hb l x.2.2.2 (by omega) w3 h4 j t' j2).2.1
    | succ i =>
      obtain ⟨a1, a2, a3⟩ := rl_toks_w hT hb l x.2.2.2 (by omega) w3 h4 i t hi
      refine ⟨a1, by omega, fun j t' j1 j2 => ?_⟩
      cases j with
      | zero => omega
      | succ j => exact a3 j t' (by omega) j2
theorem tk_put_fr {so co sz : Int} : fr (fun b j => b = a0 ∧ j = 5 ∨ a0 + 1 ≤ b ∧ b ≤ a0 + 5 ∧ j = n) M (tk_put M a0 n so co k sz f) := by
  unfold tk_put
  refine fr.tr ?_ (fr_sI (Or.inl ⟨rfl, rfl⟩))
  iterate 4 refine fr.tr ?_ (fr_sI (Or.inr ⟨by omega, by omega, rfl⟩))
  exact fr_sI (Or.inr ⟨by omega, by omega, rfl⟩)
theorem tk_put_v {so co sz : Int} (r1 : me_r so) (r2 : me_r co) (r3 : me_r k) (r4 : me_r sz) (r5 : me_r f) : me_i (tk_put M a0 n so co k sz f) (a0 + 1) n = so ∧ me_i (tk_put M a0 n so co k sz f) (a0 + 2) n = co ∧ me_i (tk_put M a0 n so co k sz f) (a0 + 3) n = k ∧ me_i (tk_put M a0 n so co k sz f) (a0 + 4) n = sz ∧ me_i (tk_put M a0 n so co k sz f) (a0 + 5) n = f := by
  unfold tk_put
  refine ⟨?_, ?_, ?_, ?_, ?_⟩
  · iterate 5 rw [me_i_sI, if_neg (by omega)]
    rw [me_i_sI, if_pos ⟨rfl, rfl⟩, me_to r1]
  · iterate 4 rw [me_i_sI, if_neg (by omega)]
    rw [me_i_sI, if_pos ⟨rfl, rfl⟩, me_to r2]
  · iterate 3 rw [me_i_sI, if_neg (by omega)]
    rw [me_i_sI, if_pos ⟨rfl, rfl⟩, me_to r3]
  · iterate 2 rw [me_i_sI, if_neg (by omega)]
    rw [me_i_sI, if_pos ⟨rfl, rfl⟩, me_to r4]
  · rw [me_i_sI, if_neg (by omega)]
    rw [me_i_sI, if_pos ⟨rfl, rfl⟩, me_to r5]
theorem tk_end_fr : fr (fun b j => a0 + 1 ≤ b ∧ b ≤ a0 + 5 ∧ j = n) M (tk_end M a0 n e f) := by
  unfold tk_end
  iterate 4 refine fr.tr ?_ (fr_sI ⟨by omega, by omega, rfl⟩)
  exact fr_sI ⟨by omega, by omega, rfl⟩
theorem tk_end_0 : me_i (tk_end M a0 n e f) (a0 + 1) n = 0 := by
  unfold tk_end
  iterate 4 rw [me_i_sI, if_neg (by omega)]
  rw [me_i_sI, if_pos ⟨rfl, rfl⟩]
  rfl
theorem tk_end_1 : me_i (tk_end M a0 n e f) (a0 + 2) n = -1 := by
  unfold tk_end
  iterate 3 rw [me_i_sI, if_neg (by omega)]
  rw [me_i_sI, if_pos ⟨rfl, rfl⟩]
  rfl
theorem tkp_fr : ∀ (l : List (Int × Int × Int × Int)) (M : me_M) (n : Nat), fr (fun b j => b = a0 ∧ j = 5 ∨ a0 + 1 ≤ b ∧ b ≤ a0 + 5 ∧ n ≤ j) M (tk_puts M a0 n f l)
  | [], _, _ => fr.rf
  | t :: l, M, n => (tk_put_fr.mo fun b j z => by omega).tr ((tkp_fr l _ (n + 1)).mo fun b j z => by omega)
theorem tkp_c : ∀ (l : List (Int × Int × Int × Int)) (M : me_M) (n : Nat), me_i M a0 5 = n → n + l.length < 2147483647 → me_i (tk_puts M a0 n f l) a0 5 = ((n + l.length : Nat) : Int)
  | [], _, _, h, _ => h
  | t :: l, M, n, h, hl => by
    rw [List.length_cons] at hl
    show me_i (tk_puts _ a0 (n + 1) f l) a0 5 = _
    rw [tkp_c l _ (n + 1) (tk_put_c (by omega)) (by omega), List.length_cons]
    omega
theorem tkp_v (hf : me_r f) (he : me_r e) : ∀ (l : List (Int × Int × Int × Int)) (M : me_M) (n i : Nat) (t : Int × Int × Int × Int), (∀ (i : Nat) (t : Int × Int × Int × Int), l[i]? = some t → tkw r e t) → l[i]? = some t → me_i (tk_puts M a0 n f l) (a0 + 1) (n + i) = t.1 ∧ me_i (tk_puts M a0 n f l) (a0 + 2) (n + i) = t.2.1 ∧ me_i (tk_puts M a0 n f l) (a0 + 3) (n + i) = t.2.2.1 ∧ me_i (tk_puts M a0 n f l) (a0 + 4) (n + i) = t.2.2.2 - t.2.2.1 ∧ me_i (tk_puts M a0 n f l) (a0 + 5) (n + i) = f
  | [], _, _, i, t, _, hi => by cases hi
  | x :: l, M, n, i, t, hw, hi => by
    cases i with
    | zero =>
      have : x = t := Option.some.inj hi
      subst this
      obtain ⟨w1, w2, w3, w4, w5⟩ := hw 0 x rfl
      obtain ⟨e1, e2⟩ := he
      have v := tk_put_v (M := M) (a0 := a0) (n := n) (so := x.1) (co := x.2.1) (k := x.2.2.1) (sz := x.2.2.2 - x.2.2.1) (f := f) ⟨by omega, by omega⟩ ⟨by omega, by omega⟩ ⟨by omega, by omega⟩ ⟨by omega, by omega⟩ hf
      have F := tkp_fr (a0 := a0) (f := f) l (tk_put M a0 n x.1 x.2.1 x.2.2.1 (x.2.2.2 - x.2.2.1) f) (n + 1)
      show me_i (tk_puts _ a0 (n + 1) f l) _ _ = _ ∧ me_i (tk_puts _ a0 (n + 1) f l) _ _ = _ ∧ me_i (tk_puts _ a0 (n + 1) f l) _ _ = _ ∧ me_i (tk_puts _ a0 (n + 1) f l) _ _ = _ ∧ me_i (tk_puts _ a0 (n + 1) f l) _ _ = _
      rw [F.i (by omega), F.i (by omega), F.i (by omega), F.i (by omega), F.i (by omega)]
      exact v
    | succ i =>
      have := tkp_v hf he l (tk_put M a0 n x.1 x.2.1 x.2.2.1 (x.2.2.2 - x.2.2.1) f) (n + 1) i t (fun i t h => hw (i + 1) t h) hi
      rw [show n + 1 + i = n + (i + 1) by omega] at this
      exact this
end TK
