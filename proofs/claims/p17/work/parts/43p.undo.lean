/-! the model's calls: undo, redo (their blocks come with 484-490; here: what follows bring) -/
section UNDO
variable {N : Nat} {X : Nat → Int32} {d p C n m cl K G : Nat} {k : Nat → Nat} {Φ : Nat → Nat} {M0 M M1 M2 : me_M} {kp : Nat → Nat} {j : Nat}
/-- the program was read, some time ago -/
def RDX (p : Nat) (k : Nat → Nat) (M : me_M) : Prop := ∃ (Φ : Nat → Nat) (C n m : Nat) (M0 : me_M), PI p C n m (sumk k 4) Φ M0 M ∧ cc (tA p M0) m = sumk k 4 ∧ (0 ≤ me_i M0 p 33 ∧ me_i M0 p 33 ≤ 14)
theorem RDP.x (h : RDP p k M) : RDX p k M := by
  obtain ⟨Φ, C, n, m, a, b, c⟩ := h
  exact ⟨Φ, C, n, m, M, a, b, c⟩
theorem RDX.fr {P : Nat → Nat → Prop} (h : RDX p k M) (f : fr P M M1) (hP : ∀ b j, P b j → b < p ∨ p + 47 ≤ b) : RDX p k M1 := by
  obtain ⟨Φ, C, n, m, M0, a, b, c⟩ := h
  have o : ∀ b j, p ≤ b → b < p + 47 → me_i M1 b j = me_i M b j := fun b j b1 b2 => f.i fun v => by
    have := hP b j v
    omega
  refine ⟨Φ, C, n, m, M0, a.fr f (fun b j v => by have := hP b j v; omega) fun v x hx => ?_, b, c⟩
  rw [o _ _ (by omega) (by omega)] at v ⊢
  exact a.map v x hx
/-- bring into now, and what a change of texts forgets -/
theorem brings_w {Q : me_Q} (hj : j < 13) (hp : 192 ≤ p ∧ p + 47 ≤ 380) (hK : 80000 ≤ K) (hK2 : K < 900000) (hG : 3000 ≤ G) (hG2 : G < 9000) (hd : 1864 ≤ d) (HT : TX p M) (HK : KPT kp M) (HR : KRD kp K G j k M) (hQ : ∀ M', fr (fun b i => bgP p b i ∨ nP b i) M M' → RDX p k M' → (∀ i, (i = 62 ∨ i = 68 ∨ i = 72 ∨ i = 74 ∨ i = 84 ∨ i = 86 ∨ i = 91) → me_i M' 164 i = 0) → Q (.inr none) M') : me_W (mt_G N X) 396 (d - 1) 0 [some (.inr (.inl (some 164, 25, 0))), some (.inr (.inl (some p, 29, 0))), some (.inl (j : Int)), none] [] M (sx_qV (fun M2 => ∃ d', d = d' + 1 ∧ me_W (mt_G N X) 370 d' 0 [some (.inr (.inl (some 164, 25, 0)))] [] M2 (sx_qV (fun M5 => Q (.inr none) M5) nt_E)) nt_E) := by
  refine (c_396 hj hp hK hK2 hG hG2 (by omega) HT HK HR).mono fun o M2 _ h => ?_
  rcases o with a | _ | x | ⟨a, b⟩ | jj
  · exact h
  · obtain ⟨f, rp⟩ := h
    refine ca_V (by omega) (c_370 (by omega)) (fun M5 _ z => ?_) nt_E_no
    exact hQ M5 ((f.mo fun b i v => Or.inl v).tr (z.1.mo fun b i v => Or.inr v)) (rp.x.fr z.1 fun b i v => by have := v.1; omega) z.2
  · exact h
  · exact h
  · exact h
end UNDO
