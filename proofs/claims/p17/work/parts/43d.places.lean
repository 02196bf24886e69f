/-! the model's calls: where tokens lie -/
section MEANS
variable {p C n m cl k q : Nat} {Φ : Nat → Nat} {Mb M : me_M}
/-- names mean what is told -/
theorem GOOD.means (g : GOOD p C n m cl Φ Mb M) (hk : k < C) (h1 : tS p Mb k = 1) : ∃ q : Nat, me_i M (p + 38) k = (q : Int) ∧ q < m := by
  have J := g.js
  rcases J.1.2.2.2.2.2.1.2.2.2.1 k hk h1 with ⟨w, w1, w2⟩ | ⟨q, q1, q2⟩
  · obtain ⟨_, ⟨_, n1, n2, n3, n4⟩, _⟩ := J.G w w1
    have no := g.no16 w1
    have ho : nA p Mb 0 w ≤ 16 := by
      by_cases c : nA p Mb 0 w ≤ 16
      · exact c
      · have := n4 (by omega)
        omega
    obtain ⟨h, hh⟩ := Int.eq_ofNat_of_zero_le (J.1.2.2.2.2.2.1.1 w w1).2.1.1
    have wt := g.wt w1 hh ho
    have e : (nA p Mb 4 w).toNat = k := by omega
    have n12 : nA p Mb 0 w = 7 ∨ nA p Mb 0 w = 8 ∨ nA p Mb 0 w = 9 ∨ nA p Mb 0 w = 11 ∨ nA p Mb 0 w = 12 := by
      by_cases c : nA p Mb 0 w = 1
      · have := (n1 c).2
        rw [e] at this
        omega
      · by_cases c2 : nA p Mb 0 w = 7 ∨ nA p Mb 0 w = 8 ∨ nA p Mb 0 w = 9 ∨ nA p Mb 0 w = 11 ∨ nA p Mb 0 w = 12
        · exact c2
        · have := n4 (by omega)
          omega
    obtain ⟨_, _, _, t7, t8, t9, _, t11, t12, _⟩ := wt
    rw [e] at t7 t8 t9 t11 t12
    rcases n12 with c | c | c | c | c
    · obtain ⟨q, a, a1, _⟩ := t7 c
      exact ⟨q, a, a1⟩
    · obtain ⟨q, a, a1, _⟩ := t8 c
      exact ⟨q, a, a1⟩
    · obtain ⟨q, i, a, a1, _⟩ := t9 c
      exact ⟨q, a, a1⟩
    · obtain ⟨q, a, a1, _⟩ := t11 c
      exact ⟨q, a, a1⟩
    · obtain ⟨q, a, a1, _⟩ := t12 c
      exact ⟨q, a, a1⟩
  · obtain ⟨a, a2⟩ := g.2.2.2.2.1 q q1
    rcases q2 with q2 | q2
    · rw [q2, Int.toNat_natCast] at a
      exact ⟨q, a, q1⟩
    · rw [q2, Int.toNat_natCast] at a2
      obtain ⟨o, o1, o2, _⟩ := a2 (by omega) h1
      exact ⟨o, o1, o2⟩
end MEANS
section PLACES
variable {N : Nat} {X : Nat → Int32} {d p C n m : Nat} {x1 : Int} {Φ : Nat → Nat} {M M1 M2 : me_M}
/-- bytes' tokens -/
def mP (p : Nat) : Nat → Nat → Prop := fun b j => b = p + 46 ∨ b = p ∧ j = 57
def MBY (p C : Nat) (M : me_M) : Prop := ∀ i, i < 12000 → -1 ≤ me_i M (p + 46) i ∧ me_i M (p + 46) i < C
def MAP (p C : Nat) (M : me_M) : Prop := ¬ me_i M p 57 = 0 → MBY p C M
theorem tkp_end {Q : me_Q} (hx : me_r x1) (HM : MBY p C M) (hQ : ∀ y : Int, -1 ≤ y → y < C → Q (.inr (some (.inl y))) M) : me_r x1 ∧ (0 ≤ x1 → me_r x1 ∧ me_r 10000 ∧ ¬ (10000 : Int) = 0 ∧ me_r (x1.tdiv 10000) ∧ me_r 4 ∧ (4 ≤ (x1.tdiv 10000) → Q (.inr (some (.inl (-1)))) M) ∧ ((x1.tdiv 10000) < 4 → me_r x1 ∧ me_r 10000 ∧ ¬ (10000 : Int) = 0 ∧ me_r (x1 - x1.tdiv 10000 * 10000) ∧ me_r 3000 ∧ (3000 ≤ (x1 - x1.tdiv 10000 * 10000) → Q (.inr (some (.inl (-1)))) M) ∧ ((x1 - x1.tdiv 10000 * 10000) < 3000 → me_r x1 ∧ me_r 10000 ∧ ¬ (10000 : Int) = 0 ∧ 0 ≤ (3000 * (x1.tdiv 10000)) + (x1 - x1.tdiv 10000 * 10000) ∧ (3000 * (x1.tdiv 10000)) + (x1 - x1.tdiv 10000 * 10000) < ((12000 : Nat) : Int) ∧ Q (.inr (some (.inl (me_i M (p + 46) ((3000 * (x1.tdiv 10000)) + (x1 - x1.tdiv 10000 * 10000)).toNat)))) M))) ∧ (x1 < 0 → me_r 4 ∧ me_r 4 ∧ (4 ≤ (4 : Int) → Q (.inr (some (.inl (-1)))) M) ∧ ((4 : Int) < 4 → me_r x1 ∧ me_r 10000 ∧ ¬ (10000 : Int) = 0 ∧ me_r (x1 - x1.tdiv 10000 * 10000) ∧ me_r 3000 ∧ (3000 ≤ (x1 - x1.tdiv 10000 * 10000) → Q (.inr (some (.inl (-1)))) M) ∧ ((x1 - x1.tdiv 10000 * 10000) < 3000 → me_r x1 ∧ me_r 10000 ∧ ¬ (10000 : Int) = 0 ∧ 0 ≤ (3000 * 4) + (x1 - x1.tdiv 10000 * 10000) ∧ (3000 * 4) + (x1 - x1.tdiv 10000 * 10000) < ((12000 : Nat) : Int) ∧ Q (.inr (some (.inl (me_i M (p + 46) ((3000 * 4) + (x1 - x1.tdiv 10000 * 10000)).toNat)))) M))) := by
  have no := hQ (-1) (by omega) (by omega)
  refine ⟨hx, fun c => ?_, fun c => ⟨⟨by decide, by decide⟩, ⟨by decide, by decide⟩, fun _ => no, fun z => absurd z (by decide)⟩⟩
  rw [Int.tdiv_eq_ediv_of_nonneg c]
  have rx := hx
  unfold me_r at rx
  refine ⟨hx, ⟨by decide, by decide⟩, by decide, ⟨by omega, by omega⟩, ⟨by decide, by decide⟩, fun _ => no, fun c1 => ⟨hx, ⟨by decide, by decide⟩, by decide, ⟨by omega, by omega⟩, ⟨by decide, by decide⟩, fun _ => no, fun c2 => ⟨hx, ⟨by decide, by decide⟩, by decide, by omega, by omega, ?_⟩⟩⟩
  have := HM (3000 * (x1 / 10000) + (x1 - x1 / 10000 * 10000)).toNat (by omega)
  exact hQ _ this.1 this.2
/-- tokens fit into the map -/
def TKF (p C : Nat) (M : me_M) : Prop := me_i M (p + 7) 5 = (C : Int) ∧ C ≤ 2405 ∧ ∀ k, k < C → 0 ≤ kA p M 4 k ∧ kA p M 4 k < 4 ∧ 0 ≤ kA p M 2 k ∧ kA p M 2 k < 3000
theorem TKF.fr (H : TKF p C M) (f : fr (mP p) M M1) : TKF p C M1 := by
  obtain ⟨h1, h2, h3⟩ := H
  refine ⟨by rw [f.i (by unfold mP; omega), h1], h2, fun k hk => ?_⟩
  have e : ∀ i, i < 5 → kA p M1 i k = kA p M i k := fun i _ => f.i (by unfold mP; omega)
  rw [e 4 (by omega), e 2 (by omega)]
  exact h3 k hk
theorem tk_31 (hx : me_r x1) (H : TKF p C M) : ∀ (f x : Nat) (M1 : me_M), C - x < f → x ≤ C → fr (mP p) M M1 → MBY p C M1 → me_W (mt_G N X) 376 d 31 [some (.inr (.inl (some p, 29, 0))), some (.inl x1), some (.inl (x : Int))] [] M1 (sx_qI (fun y M' => fr (mP p) M M' ∧ MAP p C M' ∧ -1 ≤ y ∧ y < C) nt_E) := by
  intro f
  induction f with
  | zero => intro x M1 z; omega
  | succ f ih =>
    intro x M1 hf hx2 fr1 HM
    obtain ⟨h1, h2, h3⟩ := H.fr fr1
    refine b376_31 ?_
    rw [h1]
    refine ⟨⟨by omega, by omega⟩, ⟨by omega, by omega⟩, fun c => ⟨Or.inr rfl, ?_⟩, fun c => ?_⟩
    · intro M2
      have f2 : fr (mP p) M1 M2 := fr_sI (Or.inr ⟨rfl, rfl⟩)
      have HM2 : MBY p C M2 := fun i i1 => by
        have e : me_i M2 (p + 46) i = me_i M1 (p + 46) i := by
          show me_i (me_sI M1 p 57 (Int32.ofInt 1)) (p + 46) i = _
          rw [me_i_sI, if_neg fun v => by have := v.1; omega]
        rw [e]
        exact HM i i1
      clear_value M2
      exact tkp_end hx HM2 fun y y1 y2 => ⟨fr1.tr f2, fun _ => HM2, y1, y2⟩
    · have xC : x < C := by omega
      obtain ⟨a1, a2, a3, a4⟩ := h3 x xC
      have e4 : me_i M1 (p + 12) x = kA p M1 4 x := rfl
      have e2 : me_i M1 (p + 10) x = kA p M1 2 x := rfl
      rw [Int.toNat_natCast, e4, e2]
      refine ⟨by omega, by omega, by omega, by omega, by omega, by omega, ?_⟩
      intro M2
      have f2 : fr (mP p) M1 M2 := fr_sI (Or.inl rfl)
      have HM2 : MBY p C M2 := fun i i1 => by
        show -1 ≤ me_i (me_sI M1 (p + 46) _ (Int32.ofInt (x : Int))) (p + 46) i ∧ me_i (me_sI M1 (p + 46) _ (Int32.ofInt (x : Int))) (p + 46) i < C
        rw [me_i_sI]
        by_cases c : p + 46 = p + 46 ∧ i = (3000 * kA p M1 4 x + kA p M1 2 x).toNat
        · rw [if_pos c, me_to ⟨by omega, by omega⟩]
          omega
        · rw [if_neg c]
          exact HM i i1
      clear_value M2
      rw [show (x : Int) + 1 = ((x + 1 : Nat) : Int) by omega]
      exact ih (x + 1) M2 (by omega) (by omega) (fr1.tr f2) HM2
theorem tk_9 (hx : me_r x1) (H : TKF p C M) : ∀ (f x : Nat) (M1 : me_M), 12000 - x < f → x ≤ 12000 → fr (mP p) M M1 → (∀ i, i < x → me_i M1 (p + 46) i = -1) → me_W (mt_G N X) 376 d 9 [some (.inr (.inl (some p, 29, 0))), some (.inl x1), some (.inl (x : Int))] [] M1 (sx_qI (fun y M' => fr (mP p) M M' ∧ MAP p C M' ∧ -1 ≤ y ∧ y < C) nt_E) := by
  intro f
  induction f with
  | zero => intro x M1 z; omega
  | succ f ih =>
    intro x M1 hf hx2 fr1 HM
    refine b376_9 ⟨⟨by omega, by omega⟩, ⟨by decide, by decide⟩, fun c => ?_, fun c => ⟨by omega, by omega, ?_⟩⟩
    · refine tk_31 hx H (C + 1) 0 M1 (by omega) (by omega) fr1 fun i i1 => ?_
      rw [HM i (by omega)]
      omega
    · rw [Int.toNat_natCast]
      intro M2
      have f2 : fr (mP p) M1 M2 := fr_sI (Or.inl rfl)
      have HM2 : ∀ i, i < x + 1 → me_i M2 (p + 46) i = -1 := fun i i1 => by
        show me_i (me_sI M1 (p + 46) x (Int32.ofInt (-1))) (p + 46) i = -1
        rw [me_i_sI]
        by_cases c : p + 46 = p + 46 ∧ i = x
        · rw [if_pos c]
          rfl
        · rw [if_neg c]
          exact HM i (by omega)
      clear_value M2
      rw [show (x : Int) + 1 = ((x + 1 : Nat) : Int) by omega]
      exact ih (x + 1) M2 (by omega) (by omega) (fr1.tr f2) HM2
theorem c_376 (hx : me_r x1) (H : TKF p C M) (HM : MAP p C M) : me_W (mt_G N X) 376 d 0 [some (.inr (.inl (some p, 29, 0))), some (.inl x1), none] [] M (sx_qI (fun y M' => fr (mP p) M M' ∧ MAP p C M' ∧ -1 ≤ y ∧ y < C) nt_E) := by
  refine b376_0 ⟨me_i_r _ _ _, fun c => ?_, fun c => tk_9 hx H 12001 0 M (by omega) (by omega) fr.rf fun i z => by omega⟩
  exact tkp_end hx (HM c) fun y y1 y2 => ⟨fr.rf, HM, y1, y2⟩
/-- a name's token at a place -/
theorem c_379 (hx : me_r x1) (H : TKF p C M) (HM : MAP p C M) (hd : 1 ≤ d) : me_W (mt_G N X) 379 d 0 [some (.inr (.inl (some p, 29, 0))), some (.inl x1), none] [] M (sx_qI (fun y M' => fr (mP p) M M' ∧ MAP p C M' ∧ (y = -1 ∨ ∃ k : Nat, y = (k : Int) ∧ k < C ∧ tS p M k = 1)) nt_E) := by
  refine b379_0 (ca_I hd (c_376 hx H HM) (fun y M1 _ z => ?_) nt_E_no)
  obtain ⟨f, HM1, y1, y2⟩ := z
  have C5 := H.2.1
  refine ⟨⟨by omega, by omega⟩, fun _ => ⟨f, HM1, Or.inl rfl⟩, fun c => ⟨by omega, by omega, me_i_r _ _ _, ⟨by decide, by decide⟩, fun _ => ⟨f, HM1, Or.inl rfl⟩, fun c1 => ⟨f, HM1, Or.inr ⟨y.toNat, by omega, by omega, ?_⟩⟩⟩⟩
  rw [← c1]
  exact (f.i (by unfold mP; omega)).symm
end PLACES
