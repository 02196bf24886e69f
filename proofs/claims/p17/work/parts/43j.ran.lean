/-! the model's calls: a run and what it leaves -/
section RAN
variable {N : Nat} {X : Nat → Int32} {d p C n m cl : Nat} {x1 x2 : Int} {Φ : Nat → Nat} {M0 M M1 M2 : me_M}
/-- what a run tells -/
def roP : Nat → Nat → Prop := fun b j => b = 164 ∧ 102 ≤ j ∧ j ≤ 108 ∨ b = 474
/-- what lies ready for runs -/
def RDY (M : me_M) : Prop := GA M ∧ (0 ≤ me_i M 164 49 ∧ me_i M 164 49 ≤ 2000000000) ∧ (∀ i, i < 19264 → me_i M 190 i ≤ me_i M 164 49) ∧ M.2.1 169 = (0, 50) ∧ (0 ≤ me_i M 164 15 ∧ me_i M 164 15 ≤ 50)
theorem c_397r {a2 l2 : Nat} {x3 : Int} (H : PI p C n m cl Φ M0 M) (h33 : me_i M p 33 = 0) (hp : 192 ≤ p ∧ p + 47 ≤ 447) (R : RDY M) (ha2 : a2 < 477) (ka2 : M.2.1 a2 = (0, l2)) (hx3 : x3 ≤ l2) (rx : me_r x3) (hd : 1850 ≤ d) : me_W (mt_G N X) 397 d 0 [some (.inr (.inl (some 164, 25, 0))), some (.inr (.inl (some p, 29, 0))), some (.inr (.inl (some a2, 0, l2))), some (.inl x3), none] [] M (sx_qI (fun y M' => me_r y ∧ RE M M') nt_E) := by
  obtain ⟨A, B, nx, cn, ct, fc, fs, mn, V, b, s, T9, hh, dh, h1, h2, h3, h4, h5, h6⟩ := H.rp h33 R.1 hp
  exact c_397 h1 h2 h3 h4 h5 h6 R.1 R.2.1 R.2.2.1 ha2 ka2 hx3 rx hd
theorem ran_131 {x : Int} (h12 : 0 ≤ me_i M 164 12 ∧ me_i M 164 12 ≤ 300) (hd : 1 ≤ d) (rx : me_r x) : me_W (mt_G N X) 395 d 131 [some (.inr (.inl (some 164, 25, 0))), none] [.inl x, .inr (.inl (some 164, 25, 0))] M (sx_qI (fun _ M' => fr roP M M' ∧ 0 ≤ me_i M' 164 108 ∧ me_i M' 164 108 ≤ 300) nt_E) := by
  refine b395_131 ?_
  intro Z1
  obtain ⟨f1, e1⟩ := cell_fr (M := M) (M1 := Z1) (j0 := 107) (x := x) rfl rx
  clear_value Z1
  intro Z2
  obtain ⟨f2, e2⟩ := cell_fr (M := Z1) (M1 := Z2) (j0 := 108) (x := me_i Z1 164 12) rfl (me_i_r _ _ _)
  clear_value Z2
  have k1 : me_i Z1 164 12 = me_i M 164 12 := f1.i fun v => absurd v.2 (by decide)
  have k2 : me_i Z2 164 12 = me_i M 164 12 := (f2.i fun v => absurd v.2 (by decide)).trans k1
  rw [k2]
  refine ⟨hd, by omega, by omega, by omega, by omega, by omega, ?_⟩
  intro Z3
  have f3 : fr roP Z2 Z3 := fr_cp fun _ => Or.inr rfl
  have e3 : me_i Z3 164 108 = me_i Z2 164 108 := by
    show me_i (me_cp Z2 168 474 0 0 (me_i M 164 12).toNat) 164 108 = _
    rw [mi_cp, if_neg fun v => absurd v.1 (by decide)]
  clear_value Z3
  refine ⟨(f1.mo fun b j v => Or.inl ⟨v.1, by have := v.2; omega⟩).tr ((f2.mo fun b j v => Or.inl ⟨v.1, by have := v.2; omega⟩).tr f3), ?_, ?_⟩ <;> rw [e3, e2, k1]
  · exact h12.1
  · exact h12.2
theorem ran_71 (H : PI p C n m cl Φ M0 M) (h33 : me_i M p 33 = 0) (hp : 192 ≤ p ∧ p + 47 ≤ 447) (R : RDY M) (hd : 1852 ≤ d) : me_W (mt_G N X) 395 d 71 [some (.inr (.inl (some 164, 25, 0))), none] [.inr (.inl (some p, 29, 0)), .inr (.inl (some 164, 25, 0)), .inr (.inl (some 164, 25, 0))] M (sx_qI (fun _ M' => ∃ M5, RE M M5 ∧ fr roP M5 M' ∧ 0 ≤ me_i M' 164 108 ∧ me_i M' 164 108 ≤ 300) nt_E) := by
  refine b395_71 (ca_I (by omega) (c_397r (a2 := 164 + 5) H h33 hp R (by decide) R.2.2.2.1 R.2.2.2.2.2 (me_i_r _ _ _) (by omega)) (fun y M5 _ rr => ?_) nt_E_no)
  have re := rr.2
  intro Z1
  have f1 : fr roP M5 Z1 := fr_sI (Or.inl ⟨rfl, by decide, by decide⟩)
  have o1 : me_i Z1 164 12 = me_i M5 164 12 := by
    show me_i (me_sI M5 164 103 (Int32.ofInt y)) 164 12 = _
    rw [me_i_sI, if_neg (by decide)]
  clear_value Z1
  refine ⟨Or.inr rfl, ?_⟩
  intro Z2
  obtain ⟨f2, _⟩ := cell_fr (M := Z1) (M1 := Z2) (j0 := 102) (x := 1) rfl ⟨by decide, by decide⟩
  clear_value Z2
  intro Z3
  obtain ⟨f3, _⟩ := cell_fr (M := Z2) (M1 := Z3) (j0 := 104) (x := me_i Z2 164 9) rfl (me_i_r _ _ _)
  clear_value Z3
  intro Z4
  obtain ⟨f4, _⟩ := cell_fr (M := Z3) (M1 := Z4) (j0 := 105) (x := me_i Z3 164 11) rfl (me_i_r _ _ _)
  clear_value Z4
  intro Z5
  obtain ⟨f5, _⟩ := cell_fr (M := Z4) (M1 := Z5) (j0 := 106) (x := me_i Z4 164 17) rfl (me_i_r _ _ _)
  clear_value Z5
  have F : fr roP M5 Z5 := f1.tr ((f2.mo fun b j v => Or.inl ⟨v.1, by have := v.2; omega⟩).tr ((f3.mo fun b j v => Or.inl ⟨v.1, by have := v.2; omega⟩).tr ((f4.mo fun b j v => Or.inl ⟨v.1, by have := v.2; omega⟩).tr (f5.mo fun b j v => Or.inl ⟨v.1, by have := v.2; omega⟩))))
  have k12 : me_i Z5 164 12 = me_i M5 164 12 := (f5.i fun v => absurd v.2 (by decide)).trans ((f4.i fun v => absurd v.2 (by decide)).trans ((f3.i fun v => absurd v.2 (by decide)).trans ((f2.i fun v => absurd v.2 (by decide)).trans o1)))
  have go : ∀ x, me_r x → me_W (mt_G N X) 395 d 131 [some (.inr (.inl (some 164, 25, 0))), none] [.inl x, .inr (.inl (some 164, 25, 0))] Z5 (sx_qI (fun _ M' => ∃ M5, RE M M5 ∧ fr roP M5 M' ∧ 0 ≤ me_i M' 164 108 ∧ me_i M' 164 108 ≤ 300) nt_E) := fun x rx => by
    refine (ran_131 (by rw [k12]; exact re.2.2.1) (by omega) rx).mono fun o M' _ h => ?_
    rcases o with a | _ | x | ⟨a, b⟩ | jj
    · exact h
    · exact h
    · exact ⟨M5, re, F.tr h.1, h.2⟩
    · exact h
    · exact h
  exact ⟨me_i_r _ _ _, fun _ => go _ (me_i_r _ _ _), fun _ => go _ ⟨by decide, by decide⟩⟩
end RAN
