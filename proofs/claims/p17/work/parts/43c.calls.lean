/-! the model's calls: the tape, the numbers to read -/
section CALLS
variable {N : Nat} {X : Nat → Int32} {d p : Nat} {x0 x1 x2 x3 x4 x5 : Int} {M M1 : me_M}
theorem c_368 (h0 : me_r x0) (h1 : me_r x1) : me_W (mt_G N X) 368 d 0 [some (.inl x0), some (.inl x1)] [] M (sx_qI (fun y M' => M' = M ∧ (y = 1 ∧ 0 ≤ x0 ∧ x0 < x1 ∨ y = 0 ∧ ¬ (0 ≤ x0 ∧ x0 < x1))) nt_E) :=
  b368_0 ⟨h0, fun c => ⟨Or.inl rfl, rfl, Or.inr ⟨rfl, by omega⟩⟩, fun c => ⟨h0, h1, fun c1 => ⟨Or.inl rfl, rfl, Or.inr ⟨rfl, by omega⟩⟩, fun c1 => ⟨Or.inr rfl, rfl, Or.inl ⟨rfl, c, c1⟩⟩⟩⟩
/-- cells of the tape -/
def tP : Nat → Nat → Prop := fun b j => b = 165 ∨ b = 164 ∧ j = 1
theorem c_365 {s : Nat} (hs : me_i M 164 1 = (s : Int)) (h : s + 4 ≤ 4000) : me_W (mt_G N X) 365 d 0 [some (.inr (.inl (some 164, 25, 0))), some (.inl x1), none] [] M (sx_qV (fun M' => fr tP M M' ∧ me_i M' 164 1 = ((s + 4 : Nat) : Int)) nt_E) := by
  have st : ∀ (k : Nat) (M1 : me_M) (x2 : Int), k ≤ 4 → x2 = 24 - 8 * (k : Int) → fr tP M M1 → me_i M1 164 1 = ((s + k : Nat) : Int) → (∀ M2 : me_M, fr tP M M2 → me_i M2 164 1 = ((s + k + 1 : Nat) : Int) → me_W (mt_G N X) 365 d 3 [some (.inr (.inl (some 164, 25, 0))), some (.inl x1), some (.inl (x2 + (-8)))] [] M2 (sx_qV (fun M' => fr tP M M' ∧ me_i M' 164 1 = ((s + 4 : Nat) : Int)) nt_E)) → me_W (mt_G N X) 365 d 3 [some (.inr (.inl (some 164, 25, 0))), some (.inl x1), some (.inl x2)] [] M1 (sx_qV (fun M' => fr tP M M' ∧ me_i M' 164 1 = ((s + 4 : Nat) : Int)) nt_E) := fun k M1 x2 hk hx f e hn => by
    refine b365_3 ⟨⟨by omega, by omega⟩, fun c => ⟨f, by rw [e, show s + k = s + 4 by omega]⟩, fun c => ?_⟩
    rw [e]
    refine ⟨by omega, by omega, ?_⟩
    intro M2 M3
    have f2 : fr tP M1 M2 := fr_sI (Or.inl rfl)
    have e2 : me_i M2 164 1 = ((s + k : Nat) : Int) := by
      rw [← e]
      show me_i (me_sI M1 165 _ _) 164 1 = _
      rw [me_i_sI, if_neg fun v => absurd v.1 (by decide)]
    clear_value M2
    obtain ⟨f3, e3⟩ := cell_fr (M := M2) (M1 := M3) (j0 := 1) (x := me_i M2 164 1 + 1) rfl (by rw [e2]; exact ⟨by omega, by omega⟩)
    rw [e2] at e3
    clear_value M3
    exact hn M3 (f.tr (f2.tr (f3.mo fun b j v => Or.inr v))) e3
  refine b365_0 (st 0 M 24 (by omega) rfl fr.rf hs fun M1 f1 e1 => st 1 M1 _ (by omega) (by omega) f1 e1 fun M2 f2 e2 => st 2 M2 _ (by omega) (by omega) f2 e2 fun M3 f3 e3 => st 3 M3 _ (by omega) (by omega) f3 e3 fun M4 f4 e4 => ?_)
  refine b365_3 ⟨⟨by omega, by omega⟩, fun c => ⟨f4, e4⟩, fun c => by omega⟩
theorem c_364 {s : Nat} (hs : me_i M 164 1 = (s : Int)) (h : s ≤ 4000) (hd : 1 ≤ d) : me_W (mt_G N X) 364 d 0 [some (.inr (.inl (some 164, 25, 0))), some (.inl x1), some (.inl x2), some (.inl x3), some (.inl x4), some (.inl x5)] [] M (sx_qI (fun _ M' => fr tP M M' ∧ ∃ s' : Nat, me_i M' 164 1 = (s' : Int) ∧ s' ≤ 4000) nt_E) := by
  refine b364_0 ?_
  rw [hs]
  refine ⟨⟨by omega, by omega⟩, ⟨by decide, by decide⟩, fun c => ?_, fun c => ⟨fr.rf, s, hs, h⟩⟩
  refine ca_V hd (c_365 hs (by omega)) (fun M1 _ z => ?_) nt_E_no
  refine ca_V hd (c_365 z.2 (by omega)) (fun M2 _ z2 => ?_) nt_E_no
  refine ca_V hd (c_365 z2.2 (by omega)) (fun M3 _ z3 => ?_) nt_E_no
  refine ca_V hd (c_365 z3.2 (by omega)) (fun M4 _ z4 => ?_) nt_E_no
  refine ca_V hd (c_365 z4.2 (by omega)) (fun M5 _ z5 => ?_) nt_E_no
  exact ⟨z.1.tr (z2.1.tr (z3.1.tr (z4.1.tr z5.1))), _, z5.2, by omega⟩
theorem c_366 {s : Nat} (hs : me_i M 164 1 = (s : Int)) (h : s ≤ 4000) (h1 : me_r x1) : me_W (mt_G N X) 366 d 0 [some (.inr (.inl (some 164, 25, 0))), some (.inl x1)] [] M (sx_qI (fun _ M' => fr tP M M' ∧ ∃ s' : Nat, me_i M' 164 1 = (s' : Int) ∧ s' ≤ 4000) nt_E) := by
  refine b366_0 ?_
  rw [hs]
  refine ⟨h1, fun c => ⟨fr.rf, s, hs, h⟩, fun c => ⟨h1, ⟨by omega, by omega⟩, fun c1 => ?_, fun c1 => ⟨fr.rf, s, hs, h⟩⟩⟩
  intro M1
  obtain ⟨f, e⟩ := cell_fr (M := M) (M1 := M1) (j0 := 1) (x := (s : Int) - x1) rfl ⟨by omega, by omega⟩
  clear_value M1
  exact ⟨f.mo fun b j v => Or.inr v, ((s : Int) - x1).toNat, by rw [e]; omega, by omega⟩
/-- the numbers to read -/
def uP : Nat → Nat → Prop := fun b j => b = 169 ∨ b = 164 ∧ j = 15
theorem c_393 {s : Nat} (hs : me_i M 164 15 = (s : Int)) (h : s ≤ 50) : me_W (mt_G N X) 393 d 0 [some (.inr (.inl (some 164, 25, 0))), some (.inl x1)] [] M (sx_qI (fun y M' => fr uP M M' ∧ (s = 50 ∧ y = -3 ∧ M' = M ∨ s < 50 ∧ y = (s : Int) + 1 ∧ me_i M' 164 15 = ((s + 1 : Nat) : Int))) nt_E) := by
  refine b393_0 ?_
  rw [hs]
  refine ⟨⟨by omega, by omega⟩, ⟨by decide, by decide⟩, fun c => ⟨by omega, by omega, ?_⟩, fun c => ⟨fr.rf, Or.inl ⟨by omega, rfl, rfl⟩⟩⟩
  intro M1 M2
  have f1 : fr uP M M1 := fr_sI (Or.inl rfl)
  have e1 : me_i M1 164 15 = (s : Int) := by
    rw [← hs]
    show me_i (me_sI M 169 _ _) 164 15 = _
    rw [me_i_sI, if_neg fun v => absurd v.1 (by decide)]
  clear_value M1
  obtain ⟨f2, e2⟩ := cell_fr (M := M1) (M1 := M2) (j0 := 15) (x := me_i M1 164 15 + 1) rfl (by rw [e1]; exact ⟨by omega, by omega⟩)
  rw [e1] at e2
  clear_value M2
  exact ⟨f1.tr (f2.mo fun b j v => Or.inr v), Or.inr ⟨by omega, e2, e2⟩⟩
theorem c_394 {s : Nat} (hs : me_i M 164 15 = (s : Int)) : me_W (mt_G N X) 394 d 0 [some (.inr (.inl (some 164, 25, 0))), none] [] M (sx_qI (fun y M' => fr uP M M' ∧ y = (s : Int) ∧ me_i M' 164 15 = 0) nt_E) := by
  refine b394_0 ?_
  intro M1
  obtain ⟨f, e⟩ := cell_fr (M := M) (M1 := M1) (j0 := 15) (x := 0) rfl ⟨by decide, by decide⟩
  clear_value M1
  exact ⟨f.mo fun b j v => Or.inr v, hs, e⟩
/-- what a change of the texts forgets -/
def nP : Nat → Nat → Prop := fun b j => b = 164 ∧ (j = 62 ∨ j = 68 ∨ j = 72 ∨ j = 74 ∨ j = 84 ∨ j = 86 ∨ j = 91 ∨ j = 107)
def nP0 : Nat → Nat → Prop := fun b j => b = 164 ∧ (j = 62 ∨ j = 68 ∨ j = 72 ∨ j = 74)
theorem c_371 : me_W (mt_G N X) 371 d 0 [some (.inr (.inl (some 164, 25, 0)))] [] M (sx_qV (fun M' => fr nP0 M M' ∧ ∀ j, (j = 62 ∨ j = 68 ∨ j = 72 ∨ j = 74) → me_i M' 164 j = 0) nt_E) := by
  refine b371_0 ?_
  intro M1
  obtain ⟨f1, e1⟩ := cell_fr (M := M) (M1 := M1) (j0 := 62) (x := 0) rfl ⟨by decide, by decide⟩
  clear_value M1
  intro M2
  obtain ⟨f2, e2⟩ := cell_fr (M := M1) (M1 := M2) (j0 := 68) (x := 0) rfl ⟨by decide, by decide⟩
  clear_value M2
  intro M3
  obtain ⟨f3, e3⟩ := cell_fr (M := M2) (M1 := M3) (j0 := 74) (x := 0) rfl ⟨by decide, by decide⟩
  clear_value M3
  refine ⟨Or.inl rfl, ?_⟩
  intro M4
  obtain ⟨f4, e4⟩ := cell_fr (M := M3) (M1 := M4) (j0 := 72) (x := 0) rfl ⟨by decide, by decide⟩
  clear_value M4
  refine ⟨(f1.mo fun b j v => ⟨v.1, by have := v.2; omega⟩).tr ((f2.mo fun b j v => ⟨v.1, by have := v.2; omega⟩).tr ((f3.mo fun b j v => ⟨v.1, by have := v.2; omega⟩).tr (f4.mo fun b j v => ⟨v.1, by have := v.2; omega⟩))), fun j hj => ?_⟩
  rcases hj with e | e | e | e <;> rw [e]
  · exact (f4.i fun v => absurd v.2 (by decide)).trans ((f3.i fun v => absurd v.2 (by decide)).trans ((f2.i fun v => absurd v.2 (by decide)).trans e1))
  · exact (f4.i fun v => absurd v.2 (by decide)).trans ((f3.i fun v => absurd v.2 (by decide)).trans e2)
  · exact e4
  · exact (f4.i fun v => absurd v.2 (by decide)).trans e3
theorem c_370 (hd : 1 ≤ d) : me_W (mt_G N X) 370 d 0 [some (.inr (.inl (some 164, 25, 0)))] [] M (sx_qV (fun M' => fr nP M M' ∧ ∀ j, (j = 62 ∨ j = 68 ∨ j = 72 ∨ j = 74 ∨ j = 84 ∨ j = 86 ∨ j = 91) → me_i M' 164 j = 0) nt_E) := by
  refine b370_0 ?_
  intro M1
  obtain ⟨f1, e1⟩ := cell_fr (M := M) (M1 := M1) (j0 := 84) (x := 0) rfl ⟨by decide, by decide⟩
  clear_value M1
  refine ⟨Or.inl rfl, ?_⟩
  intro M2
  obtain ⟨f2, e2⟩ := cell_fr (M := M1) (M1 := M2) (j0 := 86) (x := 0) rfl ⟨by decide, by decide⟩
  clear_value M2
  intro M3
  obtain ⟨f3, e3⟩ := cell_fr (M := M2) (M1 := M3) (j0 := 91) (x := 0) rfl ⟨by decide, by decide⟩
  clear_value M3
  intro M4
  obtain ⟨f4, e4⟩ := cell_fr (M := M3) (M1 := M4) (j0 := 107) (x := -2) rfl ⟨by decide, by decide⟩
  clear_value M4
  refine ca_V hd c_371 (fun M5 _ z => ?_) nt_E_no
  obtain ⟨f5, e5⟩ := z
  refine ⟨(f1.mo fun b j v => ⟨v.1, by have := v.2; omega⟩).tr ((f2.mo fun b j v => ⟨v.1, by have := v.2; omega⟩).tr ((f3.mo fun b j v => ⟨v.1, by have := v.2; omega⟩).tr ((f4.mo fun b j v => ⟨v.1, by have := v.2; omega⟩).tr (f5.mo fun b j v => ⟨v.1, by have := v.2; omega⟩)))), fun j hj => ?_⟩
  by_cases h : j = 62 ∨ j = 68 ∨ j = 72 ∨ j = 74
  · exact e5 j h
  · have n5 : me_i M5 164 j = me_i M4 164 j := f5.i fun v => h v.2
    rw [n5, f4.i fun v => by have := v.2; omega]
    have c : j = 84 ∨ j = 86 ∨ j = 91 := by omega
    rcases c with e | e | e <;> rw [e]
    · exact (f3.i fun v => absurd v.2 (by decide)).trans ((f2.i fun v => absurd v.2 (by decide)).trans e1)
    · exact (f3.i fun v => absurd v.2 (by decide)).trans e2
    · exact e3
end CALLS
