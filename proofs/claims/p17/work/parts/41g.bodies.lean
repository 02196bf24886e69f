/-! bodies, out of a good program -/
section GBOD
variable {p C n m cl h q : Nat} {Φ : Nat → Nat} {Mb M : me_M}
theorem GOOD.fb (g : GOOD p C n m cl Φ Mb M) : FB (nA p Mb) (tA p Mb) (sp p Mb) (nA p M 9) n m := fun q qm q1 q5 => by
  have J := g.js
  obtain ⟨t1, t2, t3, t4, t5⟩ : 0 ≤ tA p Mb 5 q ∧ tA p Mb 5 q < n ∧ nA p Mb 8 (tA p Mb 5 q).toNat = -1 ∧ ex (nA p Mb) (tA p Mb 5 q) ∧ nA p Mb 10 (tA p Mb 5 q).toNat = q := by
    rcases (J.td qm).2.2 with v | v | v | v | v
    · omega
    · rcases v.2.2.2.1 with u | u
      · omega
      · exact u
    · omega
    · omega
    · omega
  obtain ⟨r, hr⟩ : ∃ r : Nat, tA p Mb 5 q = (r : Int) := ⟨(tA p Mb 5 q).toNat, by omega⟩
  unfold ex at t4
  rw [hr, Int.toNat_natCast] at t3 t4 t5
  have rn : r < n := by omega
  obtain ⟨lo, S⟩ := seg_root J.G rn
  have home := fun k k1 k2 => J.home rn S r k (by omega) k1 k2
  refine ⟨r, lo, hr, rn, S, t4.2, fun k k1 k2 => (home k k1 k2).trans t5, t3, ?_, ?_⟩
  · have a := (g.2.2.1 r rn).2 t3
    rw [t5, Int.toNat_natCast] at a
    exact a q1
  · have a := (J.pg (k := lo) (by have := S.1; omega)).2.2.2
    rw [home lo (Nat.le_refl _) S.1, t5, Int.toNat_natCast, hr] at a
    omega
theorem GOOD.mbd (g : GOOD p C n m cl Φ Mb M) : MBD (nA p Mb) (tA p Mb) n m := fun h hm h2 => by
  have J := g.js
  obtain ⟨t1, t2, t3, t4, t5⟩ : 0 ≤ tA p Mb 5 h ∧ tA p Mb 5 h < n ∧ nA p Mb 8 (tA p Mb 5 h).toNat = -1 ∧ nA p Mb 0 (tA p Mb 5 h).toNat = 20 ∧ nA p Mb 10 (tA p Mb 5 h).toNat = h := by
    rcases (J.td hm).2.2 with v | v | v | v | v
    · omega
    · omega
    · exact v.2.2.2.1
    · omega
    · omega
  obtain ⟨r, hr⟩ : ∃ r : Nat, tA p Mb 5 h = (r : Int) := ⟨(tA p Mb 5 h).toNat, by omega⟩
  rw [hr, Int.toNat_natCast] at t3 t4 t5
  have rn : r < n := by omega
  obtain ⟨lo, S⟩ := seg_root J.G rn
  have home := fun k k1 k2 => J.home rn S r k (by omega) k1 k2
  refine ⟨r, lo, hr, rn, S, t4, fun k k1 k2 => (home k k1 k2).trans t5, ?_, fun q z => ?_⟩
  · have a := (J.pg (k := lo) (by have := S.1; omega)).2.2.2
    rw [home lo (Nat.le_refl _) S.1, t5, Int.toNat_natCast, hr] at a
    omega
  · rcases Nat.lt_or_ge q m with c | c
    · obtain ⟨z3, z⟩ := z
      rcases z with z | ⟨z, l, l1, l2, l3, l4, l5⟩
      · exact Or.inr ⟨z3, z⟩
      · exfalso
        have ln : l < n := by have := S.1; omega
        have hl : nA p Mb 10 l = h := by
          have a := (J.1.2.2.2.2.2.1.1 l ln).2.2.2.2.2.1 l3
          rw [l4, Int.toNat_natCast, z3] at a
          exact a.symm
        obtain ⟨r', r1, r2, r3, r4, r5, r6⟩ := J.root n l (by omega) ln
        rw [hl, Int.toNat_natCast, hr] at r5
        have e : r' = r := by omega
        subst e
        have := r6 lo S
        omega
    · exact Or.inl c
end GBOD
