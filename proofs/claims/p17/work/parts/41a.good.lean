/-! a program that was judged all right, as the run sees it -/
section GOODS
variable {p C n m cl h k q a b : Nat} {Φ : Nat → Nat} {Mb M : me_M}
/-- the number of a telling's class -/
def hkn (B : Nat → Nat → Int) (cn : Nat → Int) (h : Nat) : Nat := (cn (B 3 h).toNat).toNat
theorem GOOD.js (g : GOOD p C n m cl Φ Mb M) : JS p C n m cl Φ Mb := g.2.1
theorem GOOD.n7 (g : GOOD p C n m cl Φ Mb M) : n ≤ 2405 ∧ C ≤ 2405 ∧ m ≤ 2405 := by
  have J := g.js
  have := J.1.2.2.1
  have := J.2.1
  have := J.m7
  omega
theorem GOOD.no16 (g : GOOD p C n m cl Φ Mb M) (hk : k < n) : ¬ nA p Mb 0 k = 16 := fun z => by
  have J := g.js
  obtain ⟨_, ⟨n0, _, _, n3, _⟩, _⟩ := J.G k hk
  obtain ⟨w0, w1⟩ := n3 z
  have t := (J.1.2.2.2.2.2.2.1 (nA p Mb 4 k).toNat (by omega)).2.2.2.2.1
  have e : tS p Mb (nA p Mb 4 k).toNat = kA p Mb 0 (nA p Mb 4 k).toNat := rfl
  omega
theorem GOOD.wt (g : GOOD p C n m cl Φ Mb M) (hk : k < n) (h10 : nA p Mb 10 k = h) (ho : nA p Mb 0 k ≤ 16) : WT (nA p Mb) (tA p Mb) (sp p Mb) (fun q => me_i Mb (p + 37) q) h (hcn p Mb h) m (nA p M 9) (fun j => me_i M (p + 38) j) k (nA p M 9 k) := by
  have a := (g.2.2.1 k hk).1.1 ho
  rw [h10, Int.toNat_natCast] at a
  exact a
theorem GOOD.b8 (g : GOOD p C n m cl Φ Mb M) (hq : q < m) (h0 : ¬ tA p Mb 0 q = 0) : 0 ≤ tA p Mb 8 q := by
  have := (g.js.2.2.2.2.2.1 q hq h0).1
  unfold ty_v at this
  omega
/-- only a class's name has no type -/
theorem GOOD.t5 (g : GOOD p C n m cl Φ Mb M) : ∀ (f k : Nat), k < f → k < n → nA p Mb 0 k ≤ 16 → nA p M 9 k = -5 → 0 ≤ nA p Mb 8 k ∧ (nA p Mb 0 (nA p Mb 8 k).toNat = 11 ∨ nA p Mb 0 (nA p Mb 8 k).toNat = 12) ∧ nA p Mb 1 (nA p Mb 8 k).toNat = k := by
  have J := g.js
  intro f
  induction f with
  | zero => intro k z; omega
  | succ f ih =>
    intro k kf hk ho z
    obtain ⟨hh, e⟩ : ∃ hh : Nat, nA p Mb 10 k = (hh : Int) := ⟨(nA p Mb 10 k).toNat, by have := (J.pg hk).1; omega⟩
    have w := g.wt hk e ho
    have n16 := g.no16 hk
    have G := J.G k hk
    have o := G.1
    have pt := G.2.2.2.2.2.2.2.2.1
    rw [z] at w
    have o1 : 1 ≤ nA p Mb 0 k := by
      unfold opk ex at o
      omega
    have bb : ∀ q : Nat, q < m → ¬ tA p Mb 0 q = 0 → ¬ (-5 : Int) = tA p Mb 8 q := fun q q1 q2 v => by
      have := g.b8 q1 q2
      omega
    by_cases c7 : nA p Mb 0 k = 7
    · obtain ⟨q, q1, q2, q3⟩ := w.2.2.2.1 c7
      rcases q3 with q3 | ⟨q3, q4⟩
      · exact q3.2.2
      · exfalso
        refine bb q q2 (fun v => ?_) q3
        rcases q4 with q4 | ⟨_, q4⟩
        · have := q4.1
          omega
        · rcases q4 with q4 | ⟨q4, _⟩ <;> omega
    by_cases c10 : nA p Mb 0 k = 10
    · have t := w.2.2.2.2.2.2.1 c10
      have pe : ex (nA p Mb) (nA p Mb 1 k) := by
        unfold opk at o
        rcases o with v | v | v | v | v | v | v | v | v | v | v | v <;> first | omega | exact v.2.1
      unfold ex at pe
      have p8 : part (nA p Mb) 0 k (nA p Mb 1 k) := pt
      unfold part at p8
      have v := ih (nA p Mb 1 k).toNat (by omega) (by omega) pe.2.2 t.symm
      rw [show nA p Mb 8 (nA p Mb 1 k).toNat = (k : Int) by omega, Int.toNat_natCast] at v
      omega
    by_cases c8 : nA p Mb 0 k = 8
    · obtain ⟨q, q1, q2, q3, q4, _⟩ := w.2.2.2.2.1 c8
      exact absurd q4 (bb q q2 (by omega))
    by_cases c9 : nA p Mb 0 k = 9
    · obtain ⟨q, i, q1, q2, q3, q4, q5⟩ := w.2.2.2.2.2.1 c9
      omega
    by_cases c11 : nA p Mb 0 k = 11
    · obtain ⟨q, q1, q2, q3, q4, _⟩ := w.2.2.2.2.2.2.2.1 c11
      exact absurd q4 (bb q q2 (by omega))
    by_cases c12 : nA p Mb 0 k = 12
    · obtain ⟨q, q1, q2, q3, q4, _⟩ := w.2.2.2.2.2.2.2.2.1 c12
      exact absurd q4 (bb q q2 (by omega))
    have w1 := w.1
    have w2 := w.2.1
    have w3 := w.2.2.1
    have w10 := w.2.2.2.2.2.2.2.2.2
    clear w bb ih
    omega
theorem GOOD.stf (g : GOOD p C n m cl Φ Mb M) : STF (nA p Mb) (tA p Mb) (tA p Mb 0) (tS p Mb) (sp p Mb) (fun q => me_i Mb (p + 37) q) (fun j => me_i M (p + 38) j) (nA p M 9) (fun k => (nA p Mb 10 k, (tA p Mb 6 (nA p Mb 10 k).toNat).toNat)) n m C m cl h (hcn p Mb h) := by
  have J := g.js
  refine ⟨J.G, g.n7, fun q i q1 q2 q3 => ?_, fun q q1 q2 => g.b8 q1 q2, fun q q1 => (J.td q1).2.1, fun q q1 q2 => ?_, fun k k1 k2 k3 => ⟨g.wt k1 k2 k3, g.no16 k1, g.t5 (k + 1) k (by omega) k1 k3⟩⟩
  · obtain ⟨i', i1, i2, _⟩ := J.2.2.2.1.2.2.2.1 q q1 q2
    have q3 : me_i Mb (p + 37) q = (i : Int) := q3
    omega
  · obtain ⟨⟨m1, m2, m3⟩, m4⟩ := J.met q1 q2
    exact ⟨m1, m2, m3, fun i i1 => (m4 i i1).1⟩
theorem GOOD.sts (g : GOOD p C n m cl Φ Mb M) : STS (nA p Mb) (tA p Mb) (sp p Mb) (nA p M 9) n m h := by
  have J := g.js
  intro w w1 w2
  have G := J.G w w1
  have o := G.1
  have c5 := G.2.2.2.2.1
  have pg := (J.1.2.2.2.2.2.1.1 w w1).2.2.2.2.2.1
  have al := (g.2.2.1 w w1).1.2
  rw [w2, Int.toNat_natCast] at al
  refine ⟨fun z => ?_, fun z => ((al (by omega)).2.1 z), fun z => ⟨?_, (al (by omega)).2.2.2 z⟩⟩
  · have y0 : 0 ≤ nA p Mb 2 w := by
      unfold opk at o
      omega
    obtain ⟨d1, d2, _⟩ := c5 z
    refine ⟨(nA p Mb 2 w).toNat, by omega, by omega, ?_, d2, (al (by omega)).1 z⟩
    rw [← w2]
    exact pg z
  · -- a field's body has no returns
    obtain ⟨a1, a2⟩ := (J.pg w1).1
    rw [w2, Int.toNat_natCast] at a2
    rcases a2.2 with f1 | f1
    · exfalso
      obtain ⟨r, r1, r2, r3, r4, r5, r6⟩ := J.root n w (by omega) w1
      rw [w2, Int.toNat_natCast] at r5
      obtain ⟨lo, S⟩ := seg_root J.G r1
      have t := (J.td (q := h) (by omega)).2.2
      have e : ex (nA p Mb) (tA p Mb 5 h) := by
        rcases t with v | v | v | v | v
        · omega
        · rcases v.2.2.2.1 with u | u
          · omega
          · exact u.2.2.2.1
        · omega
        · omega
        · omega
      unfold ex at e
      rw [r5, Int.toNat_natCast] at e
      have := seg_ex J.G r1 S e.2.2 r w (by omega) (r6 lo S) r3
      omega
    · exact f1
/-- all that is told between a method and its last local is its own -/
theorem GOOD.own_m (g : GOOD p C n m cl Φ Mb M) (hq : q < m) (hs : tA p Mb 0 h = 2) (hh : h < q) (hl : ∀ j, h < j → j ≤ q → 3 ≤ tA p Mb 0 j) : tA p Mb 3 q = h := by
  have J := g.js
  have t := (J.td hq).2.2
  have l := hl q hh (Nat.le_refl _)
  have o : om (tA p Mb) q := by
    rcases t with z | z | z | z | z
    · omega
    · omega
    · omega
    · exact z.2.2.1
    · exact z.2.2.1
  obtain ⟨o1, o2, o3, o4⟩ := o
  rcases Int.lt_trichotomy (tA p Mb 3 q) h with c | c | c
  · have := o4 h c (by omega)
    omega
  · exact c
  · have := hl (tA p Mb 3 q).toNat (by omega) (by omega)
    omega
/-- a method tells no more than 609 -/
theorem GOOD.span (g : GOOD p C n m cl Φ Mb M) (hq : q < m) (hs : tA p Mb 0 h = 2) (hh : h < q) (hl : ∀ j, h < j → j ≤ q → 3 ≤ tA p Mb 0 j) : q ≤ h + 609 := by
  have J := g.js
  have mt := J.met (q := h) (by omega) hs
  refine Classical.byContradiction fun hc => ?_
  have loc : ∀ j, h + 9 ≤ j → j ≤ q → ∃ k : Nat, tA p Mb 5 j = (k : Int) ∧ k < n ∧ nA p Mb 2 k = j ∧ nA p Mb 10 k = h := fun j j1 j2 => by
    have e := g.own_m (q := j) (by omega) hs (by omega) fun i i1 i2 => hl i i1 (by omega)
    have t := (J.td (q := j) (by omega)).2.2
    have l := hl j (by omega) j2
    rcases t with z | z | z | z | z
    · omega
    · omega
    · omega
    · exfalso
      have := z.2.2.2.1
      rw [e, Int.toNat_natCast] at this
      omega
    · obtain ⟨_, _, _, _, ⟨z1, z2, z3, z4, z5⟩, _⟩ := z
      exact ⟨(tA p Mb 5 j).toNat, by omega, by omega, z4, by rw [z5, e]⟩
  obtain ⟨k0, r1, r2, r3, r4⟩ := loc q (by omega) (Nat.le_refl _)
  obtain ⟨r, s1, s2, s3, s4, s5, _⟩ := J.root n k0 (by omega) r2
  rw [r4, Int.toNat_natCast] at s5
  have rng : ∀ k, k < n → nA p Mb 10 k = h → k ≤ r ∧ r < k + 601 := fun k k1 k2 => by
    have a := (J.pg k1).2.2.2
    rw [k2, Int.toNat_natCast, s5] at a
    obtain ⟨r', t1, t2, t3, t4, t5, _⟩ := J.root n k (by omega) k1
    rw [k2, Int.toNat_natCast, s5] at t5
    omega
  obtain ⟨i, j, ij, jq, e⟩ := pigeon 601 (fun i => (r : Int) - tA p Mb 5 (h + 9 + i) |>.toNat) (q - h - 8) (by omega) (fun i i1 => by
    obtain ⟨k, k1, k2, k3, k4⟩ := loc (h + 9 + i) (by omega) (by omega)
    have := rng k k2 k4
    show ((r : Int) - tA p Mb 5 (h + 9 + i)).toNat < 601
    omega)
  have e : ((r : Int) - tA p Mb 5 (h + 9 + i)).toNat = ((r : Int) - tA p Mb 5 (h + 9 + j)).toNat := e
  obtain ⟨k, k1, k2, k3, k4⟩ := loc (h + 9 + i) (by omega) (by omega)
  obtain ⟨k', k1', k2', k3', k4'⟩ := loc (h + 9 + j) (by omega) (by omega)
  have a := rng k k2 k4
  have b := rng k' k2' k4'
  have : k = k' := by omega
  rw [this] at k3
  omega
end GOODS
