/-! the run: which method is main -/
section MAIN
variable {N : Nat} {X : Nat → Int32} {d p C n m cl q : Nat} {A B : Nat → Nat → Int} {nx cn ct fc fs mn : Nat → Int} {V : Nat → Nat → Prop} {M : me_M}
theorem c_424 (H : RP p C n m cl A B nx cn ct fc fs mn V M) (CFH : CF B nx cn ct fc fs V m cl) (hq : q < m) (hd : 4 ≤ d) : me_W (mt_G N X) 424 d 0 [some (.inr (.inl (some 164, 25, 0))), some (.inr (.inl (some p, 29, 0))), some (.inl (q : Int))] [] M (sx_qI (fun y M' => M' = M ∧ (y = 0 ∨ y = 1 ∧ B 0 q = 2 ∧ B 4 q = 1 ∧ B 9 q = 0)) nt_E) := by
  have m5 := CFH.1.2
  have R := H.1.2.2.2.2.1
  have r0 : me_i M (p + 25) q = B 0 q := R 0 q (by omega)
  have r1 : me_i M (p + 26) q = B 1 q := R 1 q (by omega)
  have r4 : me_i M (p + 29) q = B 4 q := R 4 q (by omega)
  have r9 : me_i M (p + 34) q = B 9 q := R 9 q (by omega)
  obtain ⟨b0, b1⟩ := H.2.2.2.1 q hq
  obtain ⟨k, hk⟩ := Int.eq_ofNat_of_zero_le b0
  have kC : k < C := by omega
  have hT := H.1.2.2.2.2.2.2.2.1
  have tk := H.1.2.2.2.2.2.2.2.2 k kC
  have k08 := tk.1
  have b4 := (CFH.2.2.2.2.2.2.2.1 q hq).2.1
  have q0 : (0 : Int) ≤ (q : Int) := Int.natCast_nonneg _
  have q1 : (q : Int) < ((2408 : Nat) : Int) := by omega
  have no : ∀ {Q : me_Q}, Q = (sx_qI (fun y M' => M' = M ∧ (y = 0 ∨ y = 1 ∧ B 0 q = 2 ∧ B 4 q = 1 ∧ B 9 q = 0)) nt_E) → ((0 : Int) = 0 ∨ (0 : Int) = 1) ∧ Q (.inr (some (.inl 0))) M := fun e => by
    rw [e]
    exact ⟨Or.inl rfl, rfl, Or.inl rfl⟩
  refine b424_0 ?_
  rw [Int.toNat_natCast, r1, hk, Int.toNat_natCast, r4, r9]
  refine ⟨q0, q1, me_i_r _ _ _, ⟨by decide, by decide⟩, fun _ => no rfl, fun c0 => ⟨q0, q1, fun _ => ⟨by rcases b4 with z | z <;> rw [z] <;> exact ⟨by decide, by decide⟩, fun _ => no rfl, fun c4 => ⟨q0, q1, by rw [← r9]; exact me_i_r _ _ _, fun _ => no rfl, fun c9 => ⟨q0, q1, me_i_r _ _ _, ⟨by decide, by decide⟩, fun _ => no rfl, fun c8 => ⟨q0, q1, Int.natCast_nonneg _, by omega, me_i_r _ _ _, ⟨by decide, by decide⟩, fun _ => no rfl, fun c11 => ⟨q0, q1, ?_⟩⟩⟩⟩⟩⟩⟩
  have ln : kA p M 3 k = 4 := c11
  have fin : ((1 : Int) = 0 ∨ (1 : Int) = 1) ∧ (sx_qI (fun y M' => M' = M ∧ (y = 0 ∨ y = 1 ∧ B 0 q = 2 ∧ B 4 q = 1 ∧ B 9 q = 0)) nt_E) (.inr (some (.inl 1))) M := ⟨Or.inr rfl, rfl, Or.inr ⟨rfl, r0.symm.trans c0, by omega, c9⟩⟩
  have br : ∀ i, me_r (bA p M k i) := fun i => me_i_r _ _ _
  refine ca_I (by omega) (c_327 hT tk (by omega) (by omega)) (fun y M1 _ z => ?_) nt_E_no
  obtain ⟨z1, z2⟩ := z
  rw [z1, z2]
  refine ⟨br _, ⟨by decide, by decide⟩, fun _ => no rfl, fun _ => ⟨q0, q1, ?_⟩⟩
  rw [r1, hk]
  refine ca_I (by omega) (c_327 hT tk (by omega) (by omega)) (fun y M1 _ z => ?_) nt_E_no
  obtain ⟨z1, z2⟩ := z
  rw [z1, z2]
  refine ⟨br _, ⟨by decide, by decide⟩, fun _ => no rfl, fun _ => ⟨q0, q1, ?_⟩⟩
  rw [r1, hk]
  refine ca_I (by omega) (c_327 hT tk (by omega) (by omega)) (fun y M1 _ z => ?_) nt_E_no
  obtain ⟨z1, z2⟩ := z
  rw [z1, z2]
  refine ⟨br _, ⟨by decide, by decide⟩, fun _ => no rfl, fun _ => ⟨q0, q1, ?_⟩⟩
  rw [r1, hk]
  refine ca_I (by omega) (c_327 hT tk (by omega) (by omega)) (fun y M1 _ z => ?_) nt_E_no
  obtain ⟨z1, z2⟩ := z
  rw [z1, z2]
  exact ⟨br _, ⟨by decide, by decide⟩, fun _ => no rfl, fun _ => fin⟩
theorem mo_2 (H : RP p C n m cl A B nx cn ct fc fs mn V M) (CFH : CF B nx cn ct fc fs V m cl) (hd : 6 ≤ d) : ∀ (f x : Nat), m - x < f → x ≤ m → me_W (mt_G N X) 423 d 2 [some (.inr (.inl (some 164, 25, 0))), some (.inr (.inl (some p, 29, 0))), some (.inl (x : Int))] [] M (sx_qI (fun y M' => M' = M ∧ (y = -1 ∨ ∃ q : Nat, y = (q : Int) ∧ q < m ∧ B 0 q = 2 ∧ B 4 q = 1 ∧ B 9 q = 0)) nt_E) := by
  intro f
  induction f with
  | zero => intro x z; omega
  | succ f ih =>
    intro x hf hx
    have m5 := CFH.1.2
    have h16 := H.2.1.2.1
    refine b423_2 ?_
    rw [h16]
    refine ⟨⟨by omega, by omega⟩, ⟨by omega, by omega⟩, fun _ => ⟨rfl, Or.inl rfl⟩, fun c => ?_⟩
    have xm : x < m := by omega
    refine ca_I (by omega) (c_424 H CFH xm (by omega)) (fun y M1 _ z => ?_) nt_E_no
    obtain ⟨z1, z2⟩ := z
    rw [z1]
    refine ⟨⟨by omega, by omega⟩, fun _ => ih (x + 1) (by omega) (by omega), fun c1 => ⟨rfl, Or.inr ⟨x, rfl, xm, ?_⟩⟩⟩
    rcases z2 with z2 | z2
    · exact absurd z2 c1
    · exact z2.2
theorem c_423 (H : RP p C n m cl A B nx cn ct fc fs mn V M) (CFH : CF B nx cn ct fc fs V m cl) (hd : 6 ≤ d) : me_W (mt_G N X) 423 d 0 [some (.inr (.inl (some 164, 25, 0))), some (.inr (.inl (some p, 29, 0))), none] [] M (sx_qI (fun y M' => M' = M ∧ (y = -1 ∨ ∃ q : Nat, y = (q : Int) ∧ q < m ∧ B 0 q = 2 ∧ B 4 q = 1 ∧ B 9 q = 0)) nt_E) :=
  b423_0 (mo_2 H CFH hd (m + 1) 0 (by omega) (by omega))
end MAIN
