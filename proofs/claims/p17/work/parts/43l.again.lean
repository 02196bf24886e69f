/-! behind a run all is ready again -/
section AGAIN
variable {p C n m cl : Nat} {Φ : Nat → Nat} {M0 M M1 M2 : me_M}
theorem eP_lt {b j : Nat} (h : eP b j) : b < 192 := by
  rcases h with h | h | h | h | h
  · unfold rP at h
    omega
  · have := h.1
    omega
  · rcases h with h | h
    · have := h.1
      omega
    · omega
  · have h : b = 170 := h
    omega
  · have := h.1
    omega
theorem RE.i {b j : Nat} (h : RE M M1) (G : GA M) (hb : 192 ≤ b) (hb2 : b < 477) (ho : ¬ oka b) : me_i M1 b j = me_i M b j := h.1.i G hb2 ho fun v => by
  have := eP_lt v
  omega
/-- a program that was read, behind a run -/
theorem PI.re (H : PI p C n m cl Φ M0 M) (G : GA M) (hp : 192 ≤ p ∧ p + 47 ≤ 380) (h : RE M M1) : PI p C n m cl Φ M0 M1 := by
  obtain ⟨h1, h2, h3, h4, h5, h6, h7⟩ := H
  have hM := G.2.2.1
  have e : ∀ b j, p ≤ b → b ≤ p + 46 → me_i M1 b j = me_i M b j := fun b j b1 b2 => h.i G (by omega) (by omega) (by unfold oka; omega)
  refine ⟨h1, h2, fun b j b1 b2 b3 => (e b j b1 (by omega)).trans (h3 b j b1 b2 b3), fun f hf => ?_, h5, fun v i hi => ?_, h7⟩
  · obtain ⟨t1, t2, t3, t4⟩ := h4 f hf
    have pp : me_p M1 (p + 1) f = me_p M (p + 1) f := h.1.2.2.2.1 _ _ (by omega) fun v => by have := v.1; omega
    refine ⟨pp.trans t1, ?_, ?_, ?_⟩
    · rw [h.1.2.1 _ (by omega)]
      exact t2
    · rw [e _ _ (by omega) (by omega)]
      exact t3
    · rw [e _ _ (by omega) (by omega)]
      exact t4
  · rw [e _ _ (by omega) (by omega)] at v
    rw [e _ _ (by omega) (by omega)]
    exact h6 v i hi
theorem RE.c15 (h : RE M M1) (G : GA M) : me_i M1 164 15 = me_i M 164 15 := h.1.i G (by decide) ok164 fun v => by
  rcases v with v | v | v | v | v
  · unfold rP at v
    omega
  · unfold zP at v
    omega
  · rcases v with v | v
    · have := v.2
      omega
    · omega
  · exact absurd (show 164 = 170 from v) (by decide)
  · exact absurd v.2 (by decide)
theorem RDY.re (R : RDY M) (h : RE M M1) (hb : me_i M 164 49 < 2000000000) : RDY M1 := by
  obtain ⟨h1, h2, h3, h4, h5⟩ := R
  have hM := h1.2.2.1
  obtain ⟨g, e49, e12, st⟩ := h
  refine ⟨g.2.2.2.2.2, by omega, st, ?_, ?_⟩
  · rw [g.2.1 169 (by omega)]
    exact h4
  · rw [RE.c15 ⟨g, e49, e12, st⟩ h1]
    exact h5
end AGAIN
