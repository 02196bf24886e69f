/-! the reference's Tokens.one: what token begins at a place -/
/-- the byte at k, or -1 from the end on -/
def rl_at (M : me_M) (a : Nat) (e k : Int) : Int := if k < e then me_i M a k.toNat % 256 else -1
theorem rl_at_b {M : me_M} {a : Nat} {e k : Int} : -1 ≤ rl_at M a e k ∧ rl_at M a e k ≤ 255 := by
  unfold rl_at
  split <;> omega
def rl_LD (c : Int) : Prop := rl_isL c ∨ rl_isD c
def rl_ends (T : Int → Int) (p : Int → Prop) (k n : Int) : Prop := k < n ∧ (∀ i, k < i → i < n → p (T i)) ∧ ¬ p (T n)
def rl_isT (T : Int → Int) (k n : Int) (w : Nat) : Prop := n + 1 + wb w = wb (w + 1) ∧ ∀ j : Nat, (j : Int) < n → T (k + j) = wo_c (wb w + j)
def rl_code (T : Int → Int) (k n y : Int) : Prop := (∃ w : Nat, y = w ∧ w < 17 ∧ rl_isT T k n w ∧ ∀ v : Nat, v < w → ¬ rl_isT T k n v) ∨ y = -1 ∧ ∀ v : Nat, v < 17 → ¬ rl_isT T k n v
/-- the token that begins at k: sort, code, where it ends; r: in a recipe -/
def rl_tok (T : Int → Int) (r k so co n : Int) : Prop :=
  rl_isL (T k) ∧ rl_ends T rl_LD k n ∧ rl_code T k (n - k) co ∧ so = (if 0 ≤ co then 3 else if 12 < n - k then -1 else 1) ∨
  rl_isD (T k) ∧ rl_ends T rl_isD k n ∧ co = T k ∧ so = (if 9 < n - k then -1 else 2) ∨
  ¬ rl_isL (T k) ∧ ¬ rl_isD (T k) ∧ (
    (¬ r = 0 ∧ T k = 36 ∧ 97 ≤ T (k + 1) ∧ T (k + 1) ≤ 122) ∧ so = 5 ∧ co = T (k + 1) ∧ n = k + 2 ∨
    ¬ (¬ r = 0 ∧ T k = 36 ∧ 97 ≤ T (k + 1) ∧ T (k + 1) ≤ 122) ∧ (
      (¬ r = 0 ∧ T k = 58) ∧ so = 4 ∧ co = 58 ∧ n = k + 1 ∨
      ¬ (¬ r = 0 ∧ T k = 58) ∧ (
        (¬ r = 0 ∧ T k = 45 ∧ T (k + 1) = 62) ∧ so = 4 ∧ co = 306 ∧ n = k + 2 ∨
        ¬ (¬ r = 0 ∧ T k = 45 ∧ T (k + 1) = 62) ∧ co = rl_sign (T k) (T (k + 1)) ∧ so = (if co < 0 then -1 else 4) ∧ n = k + 1 + (if 300 ≤ co then 1 else 0))))
theorem wo_c_f : ∀ k : Fin 92, 0 ≤ wo_c k.val ∧ wo_c k.val ≤ 127 := by decide +kernel
theorem wo_c_b (k : Nat) : 0 ≤ wo_c k ∧ wo_c k ≤ 127 := by
  rcases Nat.lt_or_ge k 92 with h | h
  · exact wo_c_f ⟨k, h⟩
  · unfold wo_c
    rw [List.getD_eq_getElem?_getD, List.getElem?_eq_none (by rw [wo_len]; exact h)]
    decide +kernel
section ONE
variable {N : Nat} {X : Nat → Int32} {d a0 a1 l1 : Nat} {x2 x3 x4 : Int} {M : me_M} {Q : me_Q}
theorem c_287a {x1 : Int} (h0 : 0 ≤ x1) (h1 : me_r x1) (h2 : me_r x3) (h3 : x3 ≤ (l1 : Int)) : me_W (mt_G N X) 287 d 0 [some (.inr (.inl (some a1, 2, l1))), some (.inl x1), some (.inl x3)] [] M (sx_qI (fun y M' => M' = M ∧ y = rl_at M a1 x3 x1) nt_E) :=
  (c_287 h0 h1 h2 h3).mono fun o M' _ q => by
    rcases o with a | _ | y | ⟨p, w⟩ | j <;> first | exact q | exact q.elim | skip
    obtain ⟨e, _, _, q1, q2⟩ := q
    refine ⟨e, ?_⟩
    unfold rl_at
    split
    · exact q1 (by omega)
    · exact q2 (by omega)
theorem one_28s {x7 : Int} (hd : 6 ≤ d) (h0 : 0 ≤ x2) (h3 : x3 ≤ (l1 : Int)) (h4 : l1 ≤ 134217728) (hL : rl_isL (rl_at M a1 x3 x2)) (hb : ∀ j, -128 ≤ me_i M a1 j ∧ me_i M a1 j ≤ 127) (hk : x2 < x7) (hk3 : x7 ≤ x3) (hi : ∀ i, x2 < i → i < x7 → rl_LD (rl_at M a1 x3 i))
    (H : ∀ (x7 x8 x9 : Int), (∀ r, rl_tok (rl_at M a1 x3) r x2 x8 x9 x7) → me_W (mt_G N X) 288 d 296 [some (.inr (.inl (some a0, 31, 0))), none, some (.inl x2), none, some (.inl x4), none, none, some (.inl x7), some (.inl x8), some (.inl x9)] [] M Q)
    (IH : rl_LD (rl_at M a1 x3 x7) → me_W (mt_G N X) 288 d 54 [some (.inr (.inl (some a0, 31, 0))), some (.inr (.inl (some a1, 2, l1))), some (.inl x2), some (.inl x3), some (.inl x4), none, none, some (.inl x7), none, none] [] M Q) :
    me_W (mt_G N X) 288 d 28 [some (.inr (.inl (some a0, 31, 0))), some (.inr (.inl (some a1, 2, l1))), some (.inl x2), some (.inl x3), some (.inl x4), none, none, some (.inl x7), none, none] [] M Q := by
  have b7 := rl_at_b (M := M) (a := a1) (e := x3) (k := x7)
  refine b288_28 (ca_I (by omega) (c_287a (by omega) ⟨by omega, by omega⟩ ⟨by omega, by omega⟩ h3) (fun y M1 _ h => ?_) nt_E_no)
  obtain ⟨rfl, rfl⟩ := h
  refine ca_I (by omega) (c_289 ⟨by omega, by omega⟩) (fun y8 M5 _ h => ?_) nt_E_no
  obtain ⟨rfl, h8⟩ := h
  refine ⟨⟨by omega, by omega⟩, fun z => IH (Or.inl (by rcases h8 with h8 | h8; exact h8.2; exact absurd h8.1 z)), fun z => ?_⟩
  have n8 : ¬ rl_isL (rl_at M5 a1 x3 x7) := by
    rcases h8 with h8 | h8
    · omega
    · exact h8.2
  refine ca_I (by omega) (c_287a (by omega) ⟨by omega, by omega⟩ ⟨by omega, by omega⟩ h3) (fun y M1 _ h => ?_) nt_E_no
  obtain ⟨rfl, rfl⟩ := h
  refine ca_I (by omega) (c_290 ⟨by omega, by omega⟩) (fun y8 M5 _ h => ?_) nt_E_no
  obtain ⟨rfl, h9⟩ := h
  refine ⟨⟨by omega, by omega⟩, fun z => ?_, fun z => IH (Or.inr (by rcases h9 with h9 | h9; exact h9.2; exact absurd h9.1 z))⟩
  have n9 : ¬ rl_isD (rl_at M5 a1 x3 x7) := by
    rcases h9 with h9 | h9
    · omega
    · exact h9.2
  have hends : rl_ends (rl_at M5 a1 x3) rl_LD x2 x7 := ⟨hk, hi, fun q => q.elim n8 n9⟩
  refine ca_I (by omega) (c_291 (by omega) h0 (by omega) (by omega) ⟨by omega, by omega⟩) (fun y20 M17 _ h => ?_) nt_E_no
  obtain ⟨rfl, h20⟩ := h
  have hw : ∀ w, rl_is M17 a1 x2 (x7 - x2) w ↔ rl_isT (rl_at M17 a1 x3) x2 (x7 - x2) w := by
    intro w
    refine and_congr Iff.rfl (forall_congr' fun j => imp_congr_right fun hj => ?_)
    have e1 : rl_at M17 a1 x3 (x2 + j) = me_i M17 a1 (x2 + (j : Int)).toNat % 256 := by
      unfold rl_at
      rw [if_pos (by omega)]
    have e2 := hb (x2 + (j : Int)).toNat
    have e3 := wo_c_b (wb w + j)
    rw [e1]
    omega
  have hco : rl_code (rl_at M17 a1 x3) x2 (x7 - x2) y20 := by
    rcases h20 with ⟨w, e, q1, q2, q3⟩ | ⟨e, q⟩
    · exact Or.inl ⟨w, e, q1, (hw w).mp q2, fun v hv => fun z => q3 v hv ((hw v).mpr z)⟩
    · exact Or.inr ⟨e, fun v hv => fun z => q v hv ((hw v).mpr z)⟩
  have hr20 : -1 ≤ y20 ∧ y20 < 17 := by
    rcases h20 with ⟨w, e, q1, q2, q3⟩ | ⟨e, q⟩ <;> omega
  refine ⟨⟨by omega, by omega⟩, fun z => ⟨⟨by omega, by omega⟩, ⟨by omega, by omega⟩, fun q => ?_, fun q => ?_⟩, fun z => ?_⟩
  · exact b288_94 (H _ _ _ fun r => Or.inl ⟨hL, hends, hco, by rw [if_neg (by omega), if_neg (by omega)]⟩)
  · exact b288_94 (H _ _ _ fun r => Or.inl ⟨hL, hends, hco, by rw [if_neg (by omega), if_pos (by omega)]⟩)
  · exact b288_94 (H _ _ _ fun r => Or.inl ⟨hL, hends, hco, by rw [if_pos (by omega)]⟩)
theorem one_28 (hd : 6 ≤ d) (h0 : 0 ≤ x2) (h3 : x3 ≤ (l1 : Int)) (h4 : l1 ≤ 134217728) (hL : rl_isL (rl_at M a1 x3 x2)) (hb : ∀ j, -128 ≤ me_i M a1 j ∧ me_i M a1 j ≤ 127)
    (H : ∀ (x7 x8 x9 : Int), (∀ r, rl_tok (rl_at M a1 x3) r x2 x8 x9 x7) → me_W (mt_G N X) 288 d 296 [some (.inr (.inl (some a0, 31, 0))), none, some (.inl x2), none, some (.inl x4), none, none, some (.inl x7), some (.inl x8), some (.inl x9)] [] M Q) :
    ∀ (m : Nat) (x7 : Int), x2 < x7 → x7 ≤ x3 → x3 - x7 ≤ m → (∀ i, x2 < i → i < x7 → rl_LD (rl_at M a1 x3 i)) → me_W (mt_G N X) 288 d 28 [some (.inr (.inl (some a0, 31, 0))), some (.inr (.inl (some a1, 2, l1))), some (.inl x2), some (.inl x3), some (.inl x4), none, none, some (.inl x7), none, none] [] M Q := by
  have hin : ∀ x7, rl_LD (rl_at M a1 x3 x7) → x7 < x3 := fun x7 z => by
    rcases Int.lt_or_le x7 x3 with c | c
    · exact c
    · have e : rl_at M a1 x3 x7 = -1 := by
        unfold rl_at
        rw [if_neg (by omega)]
      rw [e] at z
      unfold rl_LD rl_isL rl_isD at z
      omega
  intro m
  induction m with
  | zero =>
    intro x7 k1 k2 k3 k4
    exact one_28s hd h0 h3 h4 hL hb k1 k2 k4 H fun z => by have := hin x7 z; omega
  | succ m ih =>
    intro x7 k1 k2 k3 k4
    refine one_28s hd h0 h3 h4 hL hb k1 k2 k4 H fun z => b288_54 (ih (x7 + 1) (by omega) (by have := hin x7 z; omega) (by omega) fun i i1 i2 => ?_)
    rcases Int.lt_or_le i x7 with c | c
    · exact k4 i i1 c
    · have e : i = x7 := by omega
      rw [e]
      exact z
theorem one_107 (hd : 6 ≤ d) (h0 : 0 ≤ x2) (h3 : x3 ≤ (l1 : Int)) (h4 : l1 ≤ 134217728) (hD : rl_isD (rl_at M a1 x3 x2))
    (H : ∀ (x7 x8 x9 : Int), (∀ r, rl_tok (rl_at M a1 x3) r x2 x8 x9 x7) → me_W (mt_G N X) 288 d 296 [some (.inr (.inl (some a0, 31, 0))), none, some (.inl x2), none, some (.inl x4), none, none, some (.inl x7), some (.inl x8), some (.inl x9)] [] M Q) :
    ∀ (m : Nat) (x7 : Int), x2 < x7 → x7 ≤ x3 → x3 - x7 ≤ m → (∀ i, x2 < i → i < x7 → rl_isD (rl_at M a1 x3 i)) → me_W (mt_G N X) 288 d 107 [some (.inr (.inl (some a0, 31, 0))), some (.inr (.inl (some a1, 2, l1))), some (.inl x2), some (.inl x3), some (.inl x4), none, none, some (.inl x7), none, some (.inl (rl_at M a1 x3 x2))] [] M Q := by
  intro m
  induction m with
  | zero =>
    intro x7 k1 k2 k3 k4
    have b7 := rl_at_b (M := M) (a := a1) (e := x3) (k := x7)
    refine b288_107 (ca_I (by omega) (c_287a (by omega) ⟨by omega, by omega⟩ ⟨by omega, by omega⟩ h3) (fun y M1 _ h => ?_) nt_E_no)
    obtain ⟨rfl, rfl⟩ := h
    have e : rl_at M1 a1 x3 x7 = -1 := by
      unfold rl_at
      rw [if_neg (by omega)]
    rw [e]
    refine ca_I (by omega) (c_290 ⟨by omega, by omega⟩) (fun y8 M5 _ h => ?_) nt_E_no
    obtain ⟨rfl, h9⟩ := h
    have n9 : ¬ rl_isD (-1) := by
      unfold rl_isD
      omega
    have e8 : y8 = 0 := by
      rcases h9 with h9 | h9
      · exact absurd h9.2 n9
      · exact h9.1
    have hends : rl_ends (rl_at M5 a1 x3) rl_isD x2 x7 := ⟨k1, k4, by rw [e]; exact n9⟩
    refine ⟨⟨by omega, by omega⟩, fun _ => ⟨⟨by omega, by omega⟩, ⟨by omega, by omega⟩, fun q => ?_, fun q => ?_⟩, fun z => absurd e8 z⟩
    · exact b288_140 (H _ _ _ fun r => Or.inr (Or.inl ⟨hD, hends, rfl, by rw [if_neg (by omega)]⟩))
    · exact b288_140 (H _ _ _ fun r => Or.inr (Or.inl ⟨hD, hends, rfl, by rw [if_pos (by omega)]⟩))
  | succ m ih =>
    intro x7 k1 k2 k3 k4
    have b7 := rl_at_b (M := M) (a := a1) (e := x3) (k := x7)
    refine b288_107 (ca_I (by omega) (c_287a (by omega) ⟨by omega, by omega⟩ ⟨by omega, by omega⟩ h3) (fun y M1 _ h => ?_) nt_E_no)
    obtain ⟨rfl, rfl⟩ := h
    refine ca_I (by omega) (c_290 ⟨by omega, by omega⟩) (fun y8 M5 _ h => ?_) nt_E_no
    obtain ⟨rfl, h9⟩ := h
    refine ⟨⟨by omega, by omega⟩, fun z => ?_, fun z => ?_⟩
    · have n9 : ¬ rl_isD (rl_at M5 a1 x3 x7) := by
        rcases h9 with h9 | h9
        · omega
        · exact h9.2
      have hends : rl_ends (rl_at M5 a1 x3) rl_isD x2 x7 := ⟨k1, k4, n9⟩
      refine ⟨⟨by omega, by omega⟩, ⟨by omega, by omega⟩, fun q => ?_, fun q => ?_⟩
      · exact b288_140 (H _ _ _ fun r => Or.inr (Or.inl ⟨hD, hends, rfl, by rw [if_neg (by omega)]⟩))
      · exact b288_140 (H _ _ _ fun r => Or.inr (Or.inl ⟨hD, hends, rfl, by rw [if_pos (by omega)]⟩))
    · have z9 : rl_isD (rl_at M5 a1 x3 x7) := by
        rcases h9 with h9 | h9
        · exact h9.2
        · exact absurd h9.1 z
      have hlt : x7 < x3 := by
        rcases Int.lt_or_le x7 x3 with c | c
        · exact c
        · have e : rl_at M5 a1 x3 x7 = -1 := by
            unfold rl_at
            rw [if_neg (by omega)]
          rw [e] at z9
          unfold rl_isD at z9
          omega
      refine ih (x7 + 1) (by omega) (by omega) (by omega) fun i i1 i2 => ?_
      rcases Int.lt_or_le i x7 with c | c
      · exact k4 i i1 c
      · have e : i = x7 := by omega
        rw [e]
        exact z9
end ONE
