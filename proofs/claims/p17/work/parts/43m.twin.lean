/-! the model's calls: twin -/
section TWIN
variable {N : Nat} {X : Nat → Int32} {d p pb C n m cl C1 n1 m1' cl1 : Nat} {x1 : Int} {Φ Φ1 : Nat → Nat} {M0 Mb M M1 M2 : me_M}
def twP : Nat → Nat → Prop := fun b j => eP b j ∨ b = 475 ∨ b = 476
theorem twP_ok {b : Nat} (h : b = 475 ∨ b = 476) : ¬ oka b := by
  unfold oka
  omega
/-- while twins run -/
def TW (p pb C n m cl C1 n1 m1' cl1 : Nat) (Φ Φ1 : Nat → Nat) (M0 Mb : me_M) (r : Nat) (M : me_M) : Prop := (me_p M 164 52 = some p ∧ me_p M 164 54 = some pb) ∧ (PI p C n m cl Φ M0 M ∧ me_i M p 33 = 0) ∧ (PI pb C1 n1 m1' cl1 Φ1 Mb M ∧ me_i M pb 33 = 0) ∧ RDY M ∧ M.2.1 475 = (0, 8) ∧ me_i M 164 49 ≤ r
theorem TW.run {r : Nat} (H : TW p pb C n m cl C1 n1 m1' cl1 Φ Φ1 M0 Mb r M) (hp : 192 ≤ p ∧ p + 47 ≤ 380) (hpb : 192 ≤ pb ∧ pb + 47 ≤ 380) (hr : r + 1 < 2000000000) (h : RE M M1) : TW p pb C n m cl C1 n1 m1' cl1 Φ Φ1 M0 Mb (r + 1) M1 := by
  obtain ⟨⟨a1, a2⟩, ⟨b1, b2⟩, ⟨c1, c2⟩, R, k, e⟩ := H
  have G := R.1
  have hM := G.2.2.1
  have pp : ∀ j, (j = 52 ∨ j = 54) → me_p M1 164 j = me_p M 164 j := fun j hj => h.1.2.2.2.1 164 j (by omega) fun v => by
    have v := v.2
    rcases hj with z | z <;> rw [z] at v <;> exact absurd v (by decide)
  refine ⟨⟨(pp _ (Or.inl rfl)).trans a1, (pp _ (Or.inr rfl)).trans a2⟩, ⟨b1.re G hp h, ?_⟩, ⟨c1.re G hpb h, ?_⟩, R.re h (by omega), ?_, ?_⟩
  · rw [h.i G (by omega) (by omega) (by unfold oka; omega)]
    exact b2
  · rw [h.i G (by omega) (by omega) (by unfold oka; omega)]
    exact c2
  · rw [h.1.2.1 475 (by omega)]
    exact k
  · rw [h.2.1]
    omega
theorem TW.cell {r : Nat} (H : TW p pb C n m cl C1 n1 m1' cl1 Φ Φ1 M0 Mb r M) (hp : 192 ≤ p ∧ p + 47 ≤ 380) (hpb : 192 ≤ pb ∧ pb + 47 ≤ 380) (f : fr (fun b _ => b = 475 ∨ b = 476) M M1) : TW p pb C n m cl C1 n1 m1' cl1 Φ Φ1 M0 Mb r M1 := by
  obtain ⟨⟨a1, a2⟩, ⟨b1, b2⟩, ⟨c1, c2⟩, ⟨r1, r2, r3, r4, r5⟩, k, e⟩ := H
  have i : ∀ b j, b < 475 → me_i M1 b j = me_i M b j := fun b j hb => f.i (by omega)
  have mp : ∀ {q c : Nat}, q + 47 ≤ 380 → MAP q c M → MAP q c M1 := fun hq hm v x hx => by
    rw [i _ _ (by omega)] at v ⊢
    exact hm v x hx
  refine ⟨⟨f.p.trans a1, f.p.trans a2⟩, ⟨b1.fr f (fun b j v => by omega) (mp hp.2 b1.map), (i _ _ (by omega)).trans b2⟩, ⟨c1.fr f (fun b j v => by omega) (mp hpb.2 c1.map), (i _ _ (by omega)).trans c2⟩, ⟨(gx.of (R := no2) r1 f fun b j => twP_ok).GA, ?_, fun x hx => ?_, by rw [f.2.1]; exact r4, ?_⟩, by rw [f.2.1]; exact k, ?_⟩
  · rw [i _ _ (by decide)]
    exact r2
  · rw [i _ _ (by decide), i _ _ (by decide)]
    exact r3 x hx
  · rw [i _ _ (by decide)]
    exact r5
  · rw [i _ _ (by decide)]
    exact e
end TWIN
