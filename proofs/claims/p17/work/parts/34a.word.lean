/-! the reference's wordOf -/
def wo_t : List Int32 := (mt_TX.getD 30 (0, 0, 0, [])).2.2.2
def wo_c (k : Nat) : Int := (st_ch (wo_t.getD k 0)).toInt
def wo_b : List Nat := [0, 6, 14, 21, 25, 30, 35, 38, 43, 49, 56, 62, 67, 71, 76, 81, 86, 92]
def wb (w : Nat) : Nat := wo_b.getD w 0
theorem wo_len : wo_t.length = 92 := by decide +kernel
theorem wo_f1 : ∀ w : Fin 17, wb w.val + 1 < wb (w.val + 1) ∧ wb (w.val + 1) ≤ 92 ∧ (wo_c (wb (w.val + 1) - 1) + 0).toNat = 32 := by decide +kernel
theorem wo_f2 : ∀ w : Fin 17, ∀ k : Fin 92, wb w.val ≤ k.val → k.val + 1 < wb (w.val + 1) → ¬ (wo_c k.val).toNat = 32 := by decide +kernel
theorem wo_tx {N : Nat} {X : Nat → Int32} {K : List Int32 → Prop} (h : K wo_t) : sx_tx (mt_G N X) (mv_big + 1 + 30) K := by
  have e : mv_gX2 (mt_G N X) (mv_big + 1 + 30) = some wo_t := rfl
  unfold sx_tx
  rw [e]
  exact h
/-- whether the n bytes from x1 on are the w-th word -/
def rl_is (M : me_M) (a0 : Nat) (x1 n : Int) (w : Nat) : Prop := n + 1 + wb w = wb (w + 1) ∧ ∀ j : Nat, (j : Int) < n → me_i M a0 (x1 + j).toNat = wo_c (wb w + j)
section WO
variable {N : Nat} {X : Nat → Int32} {d a0 l0 : Nat} {x1 x2 : Int} {M : me_M} {Q : me_Q}
theorem wo_49 (w : Nat) (hw : w < 17) (hd : 4 ≤ d) (h1 : 0 ≤ x1) (h2 : 0 ≤ x2) (h3 : x1 + x2 ≤ (l0 : Int)) (hr : me_r x2)
    (Hn : ¬ rl_is M a0 x1 x2 w → ∀ y3 y4 y5 : Int, y3 = (w : Int) + 1 → y4 = wb (w + 1) → y5 = wb (w + 1) → me_W (mt_G N X) 291 d 8 [some (.inr (.inl (some a0, 2, l0))), some (.inl x1), some (.inl x2), some (.inl y3), some (.inl y4), some (.inl y5), none, none] [] M Q)
    (Hy : rl_is M a0 x1 x2 w → ∀ y3 : Int, y3 = w → Q (.inr (some (.inl y3))) M) :
    ∀ (m : Nat) (x3 x4 x5 x6 x7 : Int), x3 = w → x4 = wb w → x5 + 1 = wb (w + 1) → 0 ≤ x7 → x7 ≤ x2 → x2 - x7 ≤ m → (x6 = 0 ∧ ¬ rl_is M a0 x1 x2 w ∨ x6 = 1 ∧ x2 + 1 + wb w = wb (w + 1) ∧ ∀ j : Nat, (j : Int) < x7 → me_i M a0 (x1 + j).toNat = wo_c (wb w + j)) → me_W (mt_G N X) 291 d 49 [some (.inr (.inl (some a0, 2, l0))), some (.inl x1), some (.inl x2), some (.inl x3), some (.inl x4), some (.inl x5), some (.inl x6), some (.inl x7)] [] M Q := by
  obtain ⟨f1, f2, f3⟩ := wo_f1 ⟨w, hw⟩
  dsimp only at f1 f2 f3
  have fg : ∀ {L6 L7 : Option me_V} {y3 y4 y5 : Int}, ¬ rl_is M a0 x1 x2 w → y3 = (w : Int) + 1 → y4 = wb (w + 1) → y5 = wb (w + 1) → me_W (mt_G N X) 291 d 8 [some (.inr (.inl (some a0, 2, l0))), some (.inl x1), some (.inl x2), some (.inl y3), some (.inl y4), some (.inl y5), L6, L7] [] M Q := fun hn e3 e4 e5 => (Hn hn _ _ _ e3 e4 e5).forget fun i v hv => by
    rcases i with _ | _ | _ | _ | _ | _ | _ | _ | i <;> first | exact hv | cases hv
  intro m
  induction m with
  | zero =>
    intro x3 x4 x5 x6 x7 e3 e4 e5 g1 g2 g3 g4
    refine b291_49 ⟨⟨by omega, by have := hr.2; omega⟩, hr, fun _ => ⟨⟨by omega, by omega⟩, fun e => fg (by rcases g4 with g4 | g4; exact g4.2; omega) (by omega) (by omega) (by omega), fun e => Hy ?_ _ e3⟩, fun h => by omega⟩
    rcases g4 with g4 | g4
    · exact absurd g4.1 e
    · exact ⟨g4.2.1, fun j hj => g4.2.2 j (by omega)⟩
  | succ m ih =>
    intro x3 x4 x5 x6 x7 e3 e4 e5 g1 g2 g3 g4
    refine b291_49 ⟨⟨by omega, by have := hr.2; omega⟩, hr, fun _ => ⟨⟨by omega, by omega⟩, fun e => fg (by rcases g4 with g4 | g4; exact g4.2; omega) (by omega) (by omega) (by omega), fun e => Hy ?_ _ e3⟩, fun h => ⟨⟨by omega, by omega⟩, fun e => ⟨⟨by omega, by omega⟩, fun e => fg (by rcases g4 with g4 | g4; exact g4.2; omega) (by omega) (by omega) (by omega), fun e9 => absurd e e9⟩, fun e => ?_⟩⟩
    · rcases g4 with g4 | g4
      · exact absurd g4.1 e
      · exact ⟨g4.2.1, fun j hj => g4.2.2 j (by omega)⟩
    · rcases g4 with g4 | ⟨g4, g5, g6⟩
      · exact absurd g4.1 e
      refine ⟨by omega, by omega, fun hb => wo_tx ⟨hd, by omega, ?_, me_i_r _ _ _, ⟨Int32.le_toInt _, Int32.toInt_lt _⟩, fun z => ?_, fun z => ?_⟩⟩
      · rw [wo_len]
        omega
      · refine ih _ _ _ _ _ e3 e4 e5 (by omega) (by omega) (by omega) (Or.inl ⟨rfl, fun q => z ?_⟩)
        have q2 := q.2 x7.toNat (by omega)
        rw [show x1 + (x7.toNat : Int) = x1 + x7 by omega] at q2
        rw [q2, show (x4 + x7).toNat = wb w + x7.toNat by omega]
        rfl
      · refine ih _ _ _ _ _ e3 e4 e5 (by omega) (by omega) (by omega) (Or.inr ⟨rfl, g5, fun j hj => ?_⟩)
        by_cases hj2 : (j : Int) < x7
        · exact g6 j hj2
        · have ej : (j : Int) = x7 := by omega
          rw [ej, z, show (x4 + x7).toNat = wb w + j by omega]
          rfl
end WO
section WO2
variable {N : Nat} {X : Nat → Int32} {d a0 l0 : Nat} {x1 x2 : Int} {M : me_M} {Q : me_Q}
theorem wo_8 (hd : 4 ≤ d) (h1 : 0 ≤ x1) (h2 : 0 ≤ x2) (h3 : x1 + x2 ≤ (l0 : Int)) (hr : me_r x2) (Hy : ∀ w : Nat, w < 17 → rl_is M a0 x1 x2 w → (∀ v : Nat, v < w → ¬ rl_is M a0 x1 x2 v) → Q (.inr (some (.inl w))) M) (Hz : (∀ v : Nat, v < 17 → ¬ rl_is M a0 x1 x2 v) → Q (.inr (some (.inl (-1)))) M) :
    ∀ (m w : Nat), w + m = 17 → (∀ v : Nat, v < w → ¬ rl_is M a0 x1 x2 v) → ∀ (n : Nat) (x3 x4 x5 : Int), x3 = w → x4 = wb w → wb w ≤ x5 → (x5 < wb (w + 1) ∨ m = 0 ∧ x5 = 92) → (wb (w + 1) : Int) - x5 ≤ n → me_W (mt_G N X) 291 d 8 [some (.inr (.inl (some a0, 2, l0))), some (.inl x1), some (.inl x2), some (.inl x3), some (.inl x4), some (.inl x5), none, none] [] M Q := by
  intro m
  induction m with
  | zero =>
    intro w hw hv n x3 x4 x5 e3 e4 g1 g2 g3
    have ew : w = 17 := by omega
    subst ew
    have e17 : wb 17 = 92 := rfl
    have e18 : wb (17 + 1) = 0 := rfl
    have e5 : x5 = 92 := by omega
    subst e5
    refine b291_8 (wo_tx ⟨hd, ⟨by omega, by omega⟩, ⟨by rw [wo_len]; omega, by rw [wo_len]; omega⟩, fun _ => Hz hv, fun h => ?_⟩)
    rw [wo_len] at h
    omega
  | succ m ih =>
    intro w hw hv n
    have hw17 : w < 17 := by omega
    obtain ⟨f1, f2, f3⟩ := wo_f1 ⟨w, hw17⟩
    dsimp only at f1 f2 f3
    induction n with
    | zero =>
      intro x3 x4 x5 e3 e4 g1 g2 g3
      omega
    | succ n ihn =>
      intro x3 x4 x5 e3 e4 g1 g2 g3
      have g2 : x5 < wb (w + 1) := by omega
      have hx5 : x5 < 92 := by omega
      refine b291_8 (wo_tx ⟨hd, ⟨by omega, by omega⟩, ⟨by rw [wo_len]; omega, by rw [wo_len]; omega⟩, fun h => ?_, fun _ => wo_tx ⟨hd, by omega, by rw [wo_len]; omega, ⟨Int32.le_toInt _, Int32.toInt_lt _⟩, ⟨by omega, by omega⟩, fun z => ?_, fun z => ?_⟩⟩)
      · rw [wo_len] at h
        omega
      · have hne : x5 + 1 ≠ wb (w + 1) := fun e => by
          have e2 : x5.toNat = wb (w + 1) - 1 := by omega
          have z2 : ¬ wo_c x5.toNat = 32 := z
          rw [e2] at z2
          omega
        exact ihn _ _ _ e3 e4 (by omega) (Or.inl (by omega)) (by omega)
      · have he : x5 + 1 = wb (w + 1) := by
          have q := wo_f2 ⟨w, hw17⟩ ⟨x5.toNat, by omega⟩
          dsimp only at q
          have z2 : wo_c x5.toNat = 32 := z
          by_cases c : x5.toNat + 1 < wb (w + 1)
          · have := q (by omega) c
            rw [z2] at this
            exact absurd rfl this
          · omega
        have nx : ¬ rl_is M a0 x1 x2 w → ∀ y3 y4 y5 : Int, y3 = (w : Int) + 1 → y4 = wb (w + 1) → y5 = wb (w + 1) → me_W (mt_G N X) 291 d 8 [some (.inr (.inl (some a0, 2, l0))), some (.inl x1), some (.inl x2), some (.inl y3), some (.inl y4), some (.inl y5), none, none] [] M Q := fun hn y3 y4 y5 k3 k4 k5 => by
          have hv2 : ∀ v : Nat, v < w + 1 → ¬ rl_is M a0 x1 x2 v := fun v hv3 => by
            rcases Nat.lt_or_ge v w with c | c
            · exact hv v c
            · have : v = w := by omega
              rw [this]
              exact hn
          refine ih (w + 1) (by omega) hv2 92 y3 y4 y5 (by omega) k4 (by omega) ?_ ?_
          · by_cases c : m = 0
            · refine Or.inr ⟨c, ?_⟩
              have : w = 16 := by omega
              subst this
              have e17 : wb (16 + 1) = 92 := rfl
              omega
            · have q := wo_f1 ⟨w + 1, by omega⟩
              dsimp only at q
              exact Or.inl (by omega)
          · by_cases c : m = 0
            · have : w = 16 := by omega
              subst this
              have e18 : wb (16 + 1 + 1) = 0 := rfl
              omega
            · have q := wo_f1 ⟨w + 1, by omega⟩
              dsimp only at q
              omega
        have ys : rl_is M a0 x1 x2 w → ∀ y3 : Int, y3 = w → Q (.inr (some (.inl y3))) M := fun h y3 e => by
          rw [e]
          exact Hy w hw17 h hv
        refine ⟨⟨by omega, by omega⟩, hr, fun c => ?_, fun c => ?_⟩
        · exact wo_49 w hw17 hd h1 h2 h3 hr nx ys x2.toNat x3 x4 x5 0 0 e3 e4 he (by omega) h2 (by omega) (Or.inl ⟨rfl, fun q => c (by have := q.1; omega)⟩)
        · exact wo_49 w hw17 hd h1 h2 h3 hr nx ys x2.toNat x3 x4 x5 1 0 e3 e4 he (by omega) h2 (by omega) (Or.inr ⟨rfl, by omega, fun j hj => by omega⟩)
/-- wordOf: the number of the word that the bytes are, or -1 -/
theorem c_291 (hd : 4 ≤ d) (h1 : 0 ≤ x1) (h2 : 0 ≤ x2) (h3 : x1 + x2 ≤ (l0 : Int)) (hr : me_r x2) : me_W (mt_G N X) 291 d 0 [some (.inr (.inl (some a0, 2, l0))), some (.inl x1), some (.inl x2), none, none, none, none, none] [] M (sx_qI (fun y M' => M' = M ∧ ((∃ w : Nat, y = w ∧ w < 17 ∧ rl_is M a0 x1 x2 w ∧ ∀ v : Nat, v < w → ¬ rl_is M a0 x1 x2 v) ∨ y = -1 ∧ ∀ v : Nat, v < 17 → ¬ rl_is M a0 x1 x2 v)) nt_E) := by
  refine b291_0 (wo_8 hd h1 h2 h3 hr (fun w hw hy hv => ⟨rfl, Or.inl ⟨w, rfl, hw, hy, hv⟩⟩) (fun hz => ⟨rfl, Or.inr ⟨rfl, hz⟩⟩) 17 0 rfl (fun v hv => absurd hv (Nat.not_lt_zero v)) 92 0 0 0 rfl rfl (by decide) (Or.inl (by decide)) (by decide))
end WO2
