/-! the reference's Tokens.cut: all tokens of a text -/
/-- from k on behind blanks and remarks; true: within a remark -/
def rl_sk (T : Int → Int) : Nat → Bool → Int → Int
  | 0, _, k => k
  | n + 1, true, k => if T k = 10 then rl_sk T n false (k + 1) else rl_sk T n true (k + 1)
  | n + 1, false, k => if T k = 9 ∨ T k = 10 ∨ T k = 13 ∨ T k = 32 then rl_sk T n false (k + 1) else if T k = 47 ∧ T (k + 1) = 47 then rl_sk T n true (k + 1) else k
def rl_K (T : Int → Int) (e k : Int) : Int := rl_sk T (e - k).toNat false k
def rl_R (T : Int → Int) (e k : Int) : Int := rl_sk T (e - k).toNat true k
section SK
variable {T : Int → Int} {e k : Int}
theorem rl_fu (h : k < e) : (e - k).toNat = (e - (k + 1)).toNat + 1 := by omega
theorem rl_K_e : rl_K T e e = e := by
  unfold rl_K
  rw [show (e - e).toNat = 0 by omega]
  rfl
theorem rl_R_e : rl_R T e e = e := by
  unfold rl_R
  rw [show (e - e).toNat = 0 by omega]
  rfl
theorem rl_K_b (h : k < e) (hb : T k = 9 ∨ T k = 10 ∨ T k = 13 ∨ T k = 32) : rl_K T e k = rl_K T e (k + 1) := by
  unfold rl_K
  rw [rl_fu h, rl_sk, if_pos hb]
theorem rl_K_r (h : k < e) (h1 : T k = 47) (h2 : T (k + 1) = 47) : rl_K T e k = rl_R T e k := by
  unfold rl_K rl_R
  rw [rl_fu h, rl_sk, rl_sk, if_neg (by omega), if_pos ⟨h1, h2⟩, if_neg (by omega)]
theorem rl_R_n (h : k < e) (h1 : T k = 10) : rl_R T e k = rl_K T e k := by
  unfold rl_K rl_R
  rw [rl_fu h, rl_sk, rl_sk, if_pos h1, if_pos (by omega)]
theorem rl_R_s (h : k < e) (h1 : ¬ T k = 10) : rl_R T e k = rl_R T e (k + 1) := by
  unfold rl_R
  rw [rl_fu h, rl_sk, if_neg h1]
theorem rl_K_t (h : k < e) (h1 : ¬ (T k = 9 ∨ T k = 10 ∨ T k = 13 ∨ T k = 32)) (h2 : ¬ (T k = 47 ∧ T (k + 1) = 47)) : rl_K T e k = k := by
  unfold rl_K
  rw [rl_fu h, rl_sk, if_neg h1, if_neg h2]
end SK
/-- the tokens from k on (sort, code, where it begins, where it ends), and where the next would begin -/
def rl_toks (T : Int → Int) (e r : Int) : Int → List (Int × Int × Int × Int) → Int → Prop
  | k, [], p => p = rl_K T e k
  | k, t :: l, p => rl_K T e k = t.2.2.1 ∧ t.2.2.1 < e ∧ rl_tok T r t.2.2.1 t.1 t.2.1 t.2.2.2 ∧ rl_toks T e r t.2.2.2 l p
theorem rl_toks_K {T : Int → Int} {e r k k' p : Int} {l : List (Int × Int × Int × Int)} (hk : rl_K T e k = rl_K T e k') (h : rl_toks T e r k l p) : rl_toks T e r k' l p := by
  cases l with
  | nil =>
    unfold rl_toks at h ⊢
    rw [h, hk]
  | cons t l =>
    unfold rl_toks at h ⊢
    rw [← hk]
    exact h
/-- a token ends within the text -/
theorem rl_tok_n {T : Int → Int} {e r k so co n : Int} (hT : ∀ i, e ≤ i → T i = -1) (hk : k < e) (h : rl_tok T r k so co n) : k < n ∧ n ≤ e := by
  have h1 : ∀ i, 0 ≤ T i → i < e := fun i z => by
    rcases Int.lt_or_le i e with c | c
    · exact c
    · rw [hT i c] at z
      omega
  rcases h with ⟨_, ⟨q1, q2, _⟩, _⟩ | ⟨_, ⟨q1, q2, _⟩, _⟩ | ⟨_, _, h⟩
  · refine ⟨q1, ?_⟩
    rcases Int.lt_or_le (k + 1) n with c | c
    · have := q2 (n - 1) (by omega) (by omega)
      have := h1 (n - 1) (by unfold rl_LD rl_isL rl_isD at this; omega)
      omega
    · omega
  · refine ⟨q1, ?_⟩
    rcases Int.lt_or_le (k + 1) n with c | c
    · have := q2 (n - 1) (by omega) (by omega)
      have := h1 (n - 1) (by unfold rl_isD at this; omega)
      omega
    · omega
  · rcases h with ⟨q, _, _, rfl⟩ | ⟨_, h⟩
    · have := h1 (k + 1) (by omega)
      omega
    rcases h with ⟨q, _, _, rfl⟩ | ⟨_, h⟩
    · omega
    rcases h with ⟨q, _, _, rfl⟩ | ⟨_, h2, h3, rfl⟩
    · have := h1 (k + 1) (by omega)
      omega
    · split
      · rename_i c
        have : 0 ≤ T (k + 1) := by
          rw [h2] at c
          unfold rl_sign at c
          repeat' split at c
          all_goals omega
        have := h1 (k + 1) this
        omega
      · omega
def tk_puts (M : me_M) (a0 n : Nat) (f : Int) : List (Int × Int × Int × Int) → me_M
  | [] => M
  | t :: l => tk_puts (tk_put M a0 n t.1 t.2.1 t.2.2.1 (t.2.2.2 - t.2.2.1) f) a0 (n + 1) f l
/-- the end of a text behind its tokens -/
def tk_end (M : me_M) (a0 n : Nat) (e f : Int) : me_M := me_sI (me_sI (me_sI (me_sI (me_sI M (a0 + 1) n (Int32.ofInt 0)) (a0 + 2) n (Int32.ofInt (-1))) (a0 + 3) n (Int32.ofInt e)) (a0 + 4) n (Int32.ofInt 0)) (a0 + 5) n (Int32.ofInt f)
theorem tk_put_i {M : me_M} {a0 n b j : Nat} {so co k sz f : Int} (hb : b < a0 ∨ a0 + 5 < b) : me_i (tk_put M a0 n so co k sz f) b j = me_i M b j := by
  unfold tk_put
  rw [me_i_sI, if_neg (by omega), me_i_sI, if_neg (by omega), me_i_sI, if_neg (by omega), me_i_sI, if_neg (by omega), me_i_sI, if_neg (by omega), me_i_sI, if_neg (by omega)]
theorem tk_put_c {M : me_M} {a0 n : Nat} {so co k sz f : Int} (hn : n < 2147483647) : me_i (tk_put M a0 n so co k sz f) a0 5 = (n + 1 : Nat) := by
  unfold tk_put
  rw [me_i_sI, if_pos ⟨rfl, rfl⟩, me_to ⟨by omega, by omega⟩]
  omega
theorem tk_put_at {M : me_M} {a0 n b : Nat} {e so co k sz f : Int} (hb : b < a0 ∨ a0 + 5 < b) : rl_at (tk_put M a0 n so co k sz f) b e = rl_at M b e := by
  funext i
  unfold rl_at
  rw [tk_put_i hb]
theorem rl_at_e {M : me_M} {b : Nat} {e : Int} : ∀ i, e ≤ i → rl_at M b e i = -1 := fun i h => by
  unfold rl_at
  rw [if_neg (by omega)]
