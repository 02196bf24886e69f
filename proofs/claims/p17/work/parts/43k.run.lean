/-! the model's calls: run -/
section RUNC
variable {N : Nat} {X : Nat → Int32} {d p pb C n m cl : Nat} {k : Nat → Nat} {x1 x2 : Int} {Φ : Nat → Nat} {M0 M M1 M2 : me_M}
theorem bgP_ok {b j : Nat} (hp : 192 ≤ pb ∧ pb + 47 ≤ 380) (h : bgP pb b j) : ¬ oka b := by
  unfold oka
  rcases bgP_p h with h | h <;> omega
theorem RDY.bg (R : RDY M) (hp : 192 ≤ pb ∧ pb + 47 ≤ 380) (f : fr (bgP pb) M M1) : RDY M1 := by
  obtain ⟨h1, h2, h3, h4, h5⟩ := R
  have e : ∀ b j, ¬ bgP pb b j → me_i M1 b j = me_i M b j := fun b j h => f.i h
  have n4 : ∀ j, ¬ j = 3 → ¬ j = 4 → ¬ bgP pb 164 j := fun j a b h => by
    rcases bgP_p h with h | h <;> omega
  refine ⟨(gx.of (R := no2) h1 f fun b j => bgP_ok hp).GA, ?_, fun i hi => ?_, by rw [f.2.1]; exact h4, ?_⟩
  · rw [e _ _ (n4 49 (by decide) (by decide))]
    exact h2
  · rw [e _ _ (n4 49 (by decide) (by decide)), e 190 i fun h => by rcases bgP_p h with h | h <;> omega]
    exact h3 i hi
  · rw [e _ _ (n4 15 (by decide) (by decide))]
    exact h5
/-- behind run -/
def RUQ (pb : Nat) (k : Nat → Nat) (M M' : me_M) : Prop := ∃ M1, (M1 = M ∨ fr (bgP pb) M M1 ∧ RDP pb k M1) ∧ (M' = M1 ∨ ∃ M5, RE M1 M5 ∧ fr roP M5 M' ∧ 0 ≤ me_i M' 164 108 ∧ me_i M' 164 108 ≤ 300)
theorem c_395 (HP : me_p M 164 52 = some p) (HB : me_p M 164 54 = some pb) (H : PI p C n m cl Φ M0 M) (hp : 192 ≤ p ∧ p + 47 ≤ 380) (hpb : 192 ≤ pb ∧ pb + 47 ≤ 380) (R : RDY M) (h1 : me_r x1) (hd : 1866 ≤ d)
    (hB : ¬ me_i M 164 59 = 0 → ∀ d, 1862 ≤ d → me_W (mt_G N X) 396 d 0 [some (.inr (.inl (some 164, 25, 0))), some (.inr (.inl (some pb, 29, 0))), some (.inl (me_i M 164 59 - 1)), none] [] M (sx_qV (fun M' => fr (bgP pb) M M' ∧ RDP pb k M' ∧ me_i M' pb 33 = 0) nt_E)) : me_W (mt_G N X) 395 d 0 [some (.inr (.inl (some 164, 25, 0))), some (.inl x1)] [] M (sx_qI (fun _ M' => RUQ pb k M M') nt_E) := by
  refine b395_0 (ca_I (by omega) (c_368 h1 ⟨by decide, by decide⟩) (fun y M1 _ z => ?_) nt_E_no)
  obtain ⟨z1, z2⟩ := z
  rw [z1, HP]
  have no : RUQ pb k M M := ⟨M, Or.inl rfl, Or.inl rfl⟩
  have out : me_W (mt_G N X) 395 d 32 [none, none] [] M (sx_qI (fun _ M' => RUQ pb k M M') nt_E) := b395_32 no
  refine ⟨⟨by omega, by omega⟩, fun c => dr_s ⟨me_i_r _ _ _, fun _ => out, fun c33 => ?_⟩, fun _ => no⟩
  have zero : ¬ x1 = 1 → me_W (mt_G N X) 395 d 35 [some (.inr (.inl (some 164, 25, 0))), some (.inl x1)] [] M (sx_qI (fun _ M' => RUQ pb k M M') nt_E) := fun c1 => by
    refine b395_35 ⟨h1, ⟨by decide, by decide⟩, fun _ => b395_54 ⟨h1, fun v => by omega, fun _ => ?_⟩, fun v => absurd v c1⟩
    rw [HP]
    refine (ran_71 H c33 (by omega) R (by omega)).mono fun o M' _ h => ?_
    rcases o with a | _ | x | ⟨a, b⟩ | jj
    · exact h
    · exact h
    · exact ⟨M, Or.inl rfl, Or.inr h⟩
    · exact h
    · exact h
  refine ⟨h1, ⟨by decide, by decide⟩, zero, fun c1 => ⟨me_i_r _ _ _, fun c59 => ?_, fun _ => out⟩⟩
  refine b395_35 ⟨h1, ⟨by decide, by decide⟩, fun v => absurd c1 v, fun _ => ?_⟩
  rw [HB]
  refine ca_V (by omega) (hB c59 (d - 1) (by omega)) (fun M1 _ w => ?_) nt_E_no
  obtain ⟨f, rp, e33⟩ := w
  refine b395_54 ⟨h1, fun _ => ?_, fun v => by omega⟩
  rw [f.p, HB]
  have rp0 := rp
  obtain ⟨Φ1, C1, n1, m1', I1, _⟩ := rp
  refine (ran_71 I1 e33 (by omega) (R.bg hpb f) (by omega)).mono fun o M' _ h => ?_
  rcases o with a | _ | x | ⟨a, b⟩ | jj
  · exact h
  · exact h
  · exact ⟨M1, Or.inr ⟨f, rp0⟩, Or.inr h⟩
  · exact h
  · exact h
end RUNC
