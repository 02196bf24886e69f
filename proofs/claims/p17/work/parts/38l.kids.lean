/-! a node's kids, by its sort -/
section KIDS
variable {A : Nat → Nat → Int} {b s : Nat → Int} {n D t lo e : Nat} {hh : Nat → Int × Nat}
theorem kids_0 (G : ∀ k, k < n → cl A b s 0 n D t (hh k) k) (he : e < n) (S : seg A lo e) (ho : 1 ≤ A 0 e ∧ A 0 e ≤ 7 ∨ A 0 e = 9 ∨ A 0 e = 16 ∨ A 0 e = 26 ∧ A 1 e = -1) : lo = e := by
  have o := (G e he).1
  unfold opk at o
  refine kid_none G he S.iv fun k k1 k2 k3 => ?_
  rcases kid_of G he k2 k3 with z | z | z | z
  · omega
  · omega
  · omega
  · omega
theorem kids_1 (G : ∀ k, k < n → cl A b s 0 n D t (hh k) k) (he : e < n) (S : seg A lo e) (ho : A 0 e = 10 ∨ A 0 e = 11 ∨ A 0 e = 13 ∨ A 0 e = 14 ∨ A 0 e = 21 ∨ A 0 e = 23 ∨ A 0 e = 27 ∨ A 0 e = 26 ∧ ¬ A 1 e = -1) : ∃ x : Nat, A 1 e = (x : Int) ∧ seg A lo x ∧ x + 1 = e ∧ 1 ≤ A 0 x ∧ A 0 x ≤ 16 ∧ A 8 x = e := by
  have o := (G e he).1
  have p1 := part_kid S (G e he).2.2.2.2.2.2.2.2.1
  have ex1 : ex A (A 1 e) := by
    unfold opk at o
    rcases o with z | z | z | z | z | z | z | z | z | z | z | z
    · omega
    · omega
    · exact z.2.1
    · omega
    · omega
    · omega
    · exact z.2.1
    · omega
    · exact z.2.1
    · omega
    · omega
    · rcases z.2.1 with v | v
      · omega
      · exact v
  have hyz : (A 0 e = 21 ∨ A 2 e = -1) ∧ A 3 e = -1 := by
    unfold opk at o
    omega
  unfold ex at ex1
  obtain ⟨x, hx⟩ : ∃ x : Nat, A 1 e = (x : Int) := ⟨(A 1 e).toNat, by omega⟩
  rw [hx, Int.toNat_natCast] at p1 ex1
  obtain ⟨q1, q2⟩ := kid_one G he S.iv (x := x) (by omega) (fun k k1 k2 k3 => by
    rcases kid_of G he k2 k3 with z | z | z | z
    · omega
    · omega
    · omega
    · omega)
  exact ⟨x, hx, q1, q2, ex1.2.1, ex1.2.2, by omega⟩
theorem kids_c (G : ∀ k, k < n → cl A b s 0 n D t (hh k) k) (he : e < n) (S : seg A lo e) (ho : A 0 e = 8 ∨ A 0 e = 20) : ∃ ks, CHN A (A 1 e) ks ∧ SG A e lo ks := by
  have o := (G e he).1
  have p1 := part_kid S (G e he).2.2.2.2.2.2.2.2.1
  have hyz : A 2 e = -1 ∧ A 3 e = -1 := by
    unfold opk at o
    omega
  refine kid_chain G he _ lo (A 1 e) (Nat.le_refl _) S.iv p1 fun j j1 j2 j3 => ?_
  rcases kid_of G he j2 j3 with z | z | z | ⟨z1, i, z2, z3, z4, _⟩
  · exact Or.inl z
  · omega
  · omega
  · refine Or.inr ⟨i, ?_, z2, z3, z4⟩
    by_cases c : lo ≤ i
    · exact c
    · have := S.1
      exact absurd ⟨by omega, by omega⟩ (S.2.2 i (by omega))
theorem kids_d (G : ∀ k, k < n → cl A b s 0 n D t (hh k) k) (he : e < n) (S : seg A lo e) (ho : A 0 e = 12) : ∃ x : Nat, ∃ ks, A 1 e = (x : Int) ∧ seg A lo x ∧ x < e ∧ 1 ≤ A 0 x ∧ A 0 x ≤ 16 ∧ A 8 x = e ∧ CHN A (A 2 e) ks ∧ SG A e (x + 1) ks := by
  have o := (G e he).1
  have p1 := part_kid S (G e he).2.2.2.2.2.2.2.2.1
  have p2 := part_kid S ((G e he).2.2.2.2.2.2.2.2.2.1 (by omega))
  have o2 : ex A (A 1 e) ∧ (A 2 e = -1 ∨ A 1 e < A 2 e) ∧ A 3 e = -1 := by
    unfold opk at o
    rcases o with z | z | z | z | z | z | z | z | z | z | z | z
    · omega
    · omega
    · omega
    · exact ⟨z.2.1, z.2.2.1.imp id fun v => v.2, z.2.2.2⟩
    · omega
    · omega
    · omega
    · omega
    · omega
    · omega
    · omega
    · omega
  obtain ⟨o3, o4, o5⟩ := o2
  unfold ex at o3
  obtain ⟨x, hx⟩ : ∃ x : Nat, A 1 e = (x : Int) := ⟨(A 1 e).toNat, by omega⟩
  rw [hx, Int.toNat_natCast] at p1 o3
  have back : ∀ i, i < e → A 8 i = e → lo ≤ i := fun i i1 i2 => by
    by_cases c : lo ≤ i
    · exact c
    · have := S.1
      exact absurd ⟨by omega, by omega⟩ (S.2.2 i (by omega))
  -- x is the least
  have lst : ∀ m k, k ≤ m → k < x → A 8 k = e → False := by
    intro m
    induction m with
    | zero =>
      intro k k0 k1 k3
      rcases kid_of G he (by omega) k3 with z | z | z | ⟨_, i, z2, _⟩
      · omega
      · omega
      · omega
      · omega
    | succ m ih =>
      intro k k0 k1 k3
      rcases kid_of G he (by omega) k3 with z | z | z | ⟨_, i, z2, z3, _⟩
      · omega
      · omega
      · omega
      · exact ih i (by omega) (by omega) z3
  obtain ⟨c, c1, c2, c3, c4, c5, c6⟩ := kid_least G he S.iv (by omega)
  have e1 : c = x := by
    by_cases w : c < x
    · exact (lst c c (Nat.le_refl _) w c3).elim
    · by_cases w2 : c = x
      · exact w2
      · exact absurd (by omega : A 8 x = e) (c4 x (by omega) (by omega))
  subst e1
  obtain ⟨ks, k1, k2⟩ := kid_chain G he _ (c + 1) (A 2 e) (Nat.le_refl _) c6 (by omega) fun j j1 j2 j3 => by
    rcases kid_of G he j2 j3 with z | z | z | ⟨z1, i, z2, z3, z4, z5⟩
    · omega
    · exact Or.inl z.2
    · omega
    · refine Or.inr ⟨i, ?_, z2, z3, z4⟩
      have := z5 ho
      have := back i (by omega) z3
      by_cases w : i < c
      · exact absurd z3 (c4 i (by omega) w)
      · omega
  exact ⟨c, ks, hx, c5, c2, o3.2.1, o3.2.2, c3, k1, k2⟩
theorem kids_2 (G : ∀ k, k < n → cl A b s 0 n D t (hh k) k) (he : e < n) (S : seg A lo e) (ho : A 0 e = 15 ∨ A 0 e = 22 ∨ A 0 e = 25 ∨ A 0 e = 24 ∧ A 3 e = -1) : ∃ x y : Nat, A 1 e = (x : Int) ∧ A 2 e = (y : Int) ∧ seg A lo x ∧ seg A (x + 1) y ∧ y + 1 = e ∧ (1 ≤ A 0 x ∧ A 0 x ≤ 16) ∧ (A 0 e < 24 → 1 ≤ A 0 y ∧ A 0 y ≤ 16) ∧ (24 ≤ A 0 e → 20 ≤ A 0 y ∧ A 0 y ≤ 27) ∧ A 8 x = e ∧ A 8 y = e := by
  have o := (G e he).1
  have p1 := part_kid S (G e he).2.2.2.2.2.2.2.2.1
  have p2 := part_kid S ((G e he).2.2.2.2.2.2.2.2.2.1 (by omega))
  have o2 : ex A (A 1 e) ∧ A 1 e < A 2 e ∧ (A 0 e < 24 → ex A (A 2 e)) ∧ (24 ≤ A 0 e → sm A (A 2 e)) ∧ (A 0 e = 15 ∨ A 3 e = -1) := by
    unfold opk at o
    rcases o with z | z | z | z | z | z | z | z | z | z | z | z
    · omega
    · omega
    · omega
    · omega
    · exact ⟨z.2.1, z.2.2.2, fun _ => z.2.2.1, fun _ => by omega, Or.inl z.1⟩
    · omega
    · omega
    · exact ⟨z.2.1, z.2.2.2.1, fun _ => z.2.2.1, fun _ => by omega, Or.inr z.2.2.2.2⟩
    · omega
    · exact ⟨z.2.1, z.2.2.2.1, fun _ => by omega, fun _ => z.2.2.1, Or.inr (by omega)⟩
    · exact ⟨z.2.1, z.2.2.2.1, fun _ => by omega, fun _ => z.2.2.1, Or.inr z.2.2.2.2⟩
    · omega
  obtain ⟨o3, o4, o5, o6, o7⟩ := o2
  unfold ex at o3 o5
  unfold sm at o6
  obtain ⟨x, hx⟩ : ∃ x : Nat, A 1 e = (x : Int) := ⟨(A 1 e).toNat, by omega⟩
  obtain ⟨y, hy⟩ : ∃ y : Nat, A 2 e = (y : Int) := ⟨(A 2 e).toNat, by omega⟩
  rw [hx, Int.toNat_natCast] at p1 o3
  rw [hy, Int.toNat_natCast] at p2 o5 o6
  obtain ⟨q1, q2, q3⟩ := kid_two G he S.iv (x := x) (y := y) (by omega) (by omega) (by omega) (fun k k1 k2 k3 => by
    rcases kid_of G he k2 k3 with z | z | z | z
    · omega
    · omega
    · omega
    · omega)
  exact ⟨x, y, hx, hy, q1, q2, q3, o3.2, fun z => (o5 z).2, fun z => (o6 z).2, by omega, by omega⟩
theorem kids_3 (G : ∀ k, k < n → cl A b s 0 n D t (hh k) k) (he : e < n) (S : seg A lo e) (ho : A 0 e = 24 ∧ ¬ A 3 e = -1) : ∃ x y w : Nat, A 1 e = (x : Int) ∧ A 2 e = (y : Int) ∧ A 3 e = (w : Int) ∧ seg A lo x ∧ seg A (x + 1) y ∧ seg A (y + 1) w ∧ w + 1 = e ∧ (1 ≤ A 0 x ∧ A 0 x ≤ 16) ∧ (20 ≤ A 0 y ∧ A 0 y ≤ 27) ∧ (20 ≤ A 0 w ∧ A 0 w ≤ 27) ∧ A 8 x = e ∧ A 8 y = e ∧ A 8 w = e := by
  have o := (G e he).1
  have p1 := part_kid S (G e he).2.2.2.2.2.2.2.2.1
  have p2 := part_kid S ((G e he).2.2.2.2.2.2.2.2.2.1 (by omega))
  have p3 := part_kid S ((G e he).2.2.2.2.2.2.2.2.2.2.1 (by omega))
  have o2 : ex A (A 1 e) ∧ A 1 e < A 2 e ∧ sm A (A 2 e) ∧ sm A (A 3 e) ∧ A 2 e < A 3 e := by
    unfold opk at o
    rcases o with z | z | z | z | z | z | z | z | z | z | z | z
    · omega
    · omega
    · omega
    · omega
    · omega
    · omega
    · omega
    · omega
    · omega
    · rcases z.2.2.2.2 with v | v
      · omega
      · exact ⟨z.2.1, z.2.2.2.1, z.2.2.1, v.1, v.2⟩
    · omega
    · omega
  obtain ⟨o3, o4, o5, o6, o7⟩ := o2
  unfold ex at o3
  unfold sm at o5 o6
  obtain ⟨x, hx⟩ : ∃ x : Nat, A 1 e = (x : Int) := ⟨(A 1 e).toNat, by omega⟩
  obtain ⟨y, hy⟩ : ∃ y : Nat, A 2 e = (y : Int) := ⟨(A 2 e).toNat, by omega⟩
  obtain ⟨w, hw⟩ : ∃ w : Nat, A 3 e = (w : Int) := ⟨(A 3 e).toNat, by omega⟩
  rw [hx, Int.toNat_natCast] at p1 o3
  rw [hy, Int.toNat_natCast] at p2 o5
  rw [hw, Int.toNat_natCast] at p3 o6
  obtain ⟨q1, q2, q3, q4⟩ := kid_three G he S.iv (x := x) (y := y) (z := w) (by omega) (by omega) (by omega) (by omega) (by omega) (fun k k1 k2 k3 => by
    rcases kid_of G he k2 k3 with z | z | z | z
    · omega
    · omega
    · omega
    · omega)
  exact ⟨x, y, w, hx, hy, hw, q1, q2, q3, q4, o3.2, o5.2, o6.2, by omega, by omega, by omega⟩
/-- a root's piece -/
theorem seg_root (G : ∀ k, k < n → cl A b s 0 n D t (hh k) k) (he : e < n) : ∃ lo, seg A lo e := by
  obtain ⟨lo, l1, l2, l3⟩ := least_ex (P := fun lo => ∀ k, lo ≤ k → k < e → (k : Int) < A 8 k ∧ A 8 k ≤ e) e (fun k k1 k2 => by omega)
  refine ⟨lo, l1, l2, fun k k1 k2 => l3 k k1 fun j j1 j2 => ?_⟩
  have c := (G k (by omega)).2.2.2.2.2.2
  have c6 := (G k (by omega)).2.2.2.2.2.1
  by_cases w : j = k
  · rw [w]
    omega
  · by_cases w2 : (j : Int) < A 8 k
    · have z := c.1 j (by omega) w2
      have z6 := (G j (by omega)).2.2.2.2.2.1
      omega
    · exact l2 j (by omega) j2
end KIDS
