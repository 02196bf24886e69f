/-! the reference's parser: what a row of nodes keeps -/
section CL
variable (A : Nat → Nat → Int) (b s : Nat → Int)
def ex (k : Int) : Prop := 0 ≤ k ∧ 1 ≤ A 0 k.toNat ∧ A 0 k.toNat ≤ 16
def sm (k : Int) : Prop := 0 ≤ k ∧ 20 ≤ A 0 k.toNat ∧ A 0 k.toNat ≤ 27
/-- a node's parts, by its sort -/
def opk (o x y z : Int) : Prop :=
  (1 ≤ o ∧ o ≤ 7 ∨ o = 9 ∨ o = 16) ∧ x = -1 ∧ y = -1 ∧ z = -1 ∨
  o = 8 ∧ (x = -1 ∨ ex A x) ∧ y = -1 ∧ z = -1 ∨
  (o = 10 ∨ o = 11 ∨ o = 13 ∨ o = 14) ∧ ex A x ∧ y = -1 ∧ z = -1 ∨
  o = 12 ∧ ex A x ∧ (y = -1 ∨ ex A y ∧ x < y) ∧ z = -1 ∨
  o = 15 ∧ ex A x ∧ ex A y ∧ x < y ∨
  o = 20 ∧ (x = -1 ∨ sm A x) ∧ y = -1 ∧ z = -1 ∨
  o = 21 ∧ ex A x ∧ 0 ≤ y ∧ z = -1 ∨
  o = 22 ∧ ex A x ∧ ex A y ∧ x < y ∧ z = -1 ∨
  (o = 23 ∨ o = 27) ∧ ex A x ∧ y = -1 ∧ z = -1 ∨
  o = 24 ∧ ex A x ∧ sm A y ∧ x < y ∧ (z = -1 ∨ sm A z ∧ y < z) ∨
  o = 25 ∧ ex A x ∧ sm A y ∧ x < y ∧ z = -1 ∨
  o = 26 ∧ (x = -1 ∨ ex A x) ∧ y = -1 ∧ z = -1
/-- the token of a node's name -/
def nmk (T : Nat) (o w : Int) : Prop := w < T ∧ (o = 1 → 0 ≤ w ∧ s w.toNat = 2) ∧ (o = 7 ∨ o = 8 ∨ o = 9 ∨ o = 11 ∨ o = 12 → 0 ≤ w ∧ s w.toNat = 1) ∧ (o = 16 → 0 ≤ w ∧ s w.toNat = 5) ∧ (¬ (o = 1 ∨ o = 7 ∨ o = 8 ∨ o = 9 ∨ o = 11 ∨ o = 12 ∨ o = 16) → w = -1)
def part (lo n : Nat) (k : Int) : Prop := k = -1 ∨ (lo : Int) ≤ k ∧ k < n ∧ A 8 k.toNat = n
def cl (lo hi dhi T : Nat) (h : Int × Nat) (n : Nat) : Prop :=
  opk A (A 0 n) (A 1 n) (A 2 n) (A 3 n) ∧ nmk s T (A 0 n) (A 4 n) ∧
  ((h.2 : Int) ≤ A 5 n ∧ A 5 n ≤ A 6 n ∧ A 6 n < T ∧ (A 4 n = -1 ∨ A 5 n ≤ A 4 n ∧ A 4 n ≤ A 6 n) ∧ (A 0 n = 8 ∨ A 0 n = 12 → A 4 n + 2 ≤ A 6 n)) ∧ A 10 n = h.1 ∧
  (A 0 n = 21 → A 2 n < dhi ∧ b (A 2 n).toNat = 4 ∧ h.1 < A 2 n) ∧
  (A 8 n = -1 ∨ (n : Int) < A 8 n ∧ A 8 n < hi) ∧
  (∀ j, n < j → (j : Int) < A 8 n → 0 ≤ A 8 j ∧ A 8 j ≤ A 8 n) ∧
  (A 7 n = -1 ∨ (n : Int) < A 7 n ∧ A 7 n < hi ∧ A 8 (A 7 n).toNat = A 8 n ∧ (A 0 n ≤ 16 → A 0 (A 7 n).toNat ≤ 16) ∧ (20 ≤ A 0 n → 20 ≤ A 0 (A 7 n).toNat) ∧ (0 ≤ A 8 n → (A 0 (A 8 n).toNat = 8 ∨ A 0 (A 8 n).toNat = 12 ∨ A 0 (A 8 n).toNat = 20) ∧ (A 0 (A 8 n).toNat = 12 → ¬ A 1 (A 8 n).toNat = n)) ∧ A 6 n < A 5 (A 7 n).toNat) ∧
  part A lo n (A 1 n) ∧ (¬ A 0 n = 21 → part A lo n (A 2 n)) ∧ (¬ A 0 n = 15 → part A lo n (A 3 n)) ∧
  ∀ k, lo ≤ k → k < n → A 8 k = n → (k : Int) = A 1 n ∨ ¬ A 0 n = 21 ∧ (k : Int) = A 2 n ∨ ¬ A 0 n = 15 ∧ (k : Int) = A 3 n ∨ ∃ j, lo ≤ j ∧ j < k ∧ A 8 j = n ∧ A 7 j = k
/-- nodes lo .. hi - 1 are a row of trees -/
def FR (lo hi dhi T : Nat) (h : Int × Nat) : Prop := ∀ n, lo ≤ n → n < hi → cl A b s lo hi dhi T h n
end CL
section CLT
variable {A A' : Nat → Nat → Int} {b b' s : Nat → Int} {lo mid hi dhi dhi' T T' : Nat} {h : Int × Nat}
theorem FR.nil : FR A b s lo lo dhi T h := fun _ h1 h2 => by omega
theorem FR.parent (F : FR A b s lo hi dhi T h) {n : Nat} (h1 : lo ≤ n) (h2 : n < hi) : A 8 n = -1 ∨ (n : Int) < A 8 n ∧ A 8 n < hi := (F n h1 h2).2.2.2.2.2.1
theorem FR.app (F : FR A b s lo mid dhi T h) (F' : FR A b s mid hi dhi' T' h) (h1 : lo ≤ mid) (h2 : mid ≤ hi) (hd : dhi ≤ dhi') (hT : T ≤ T') : FR A b s lo hi dhi' T' h := by
  intro n n1 n2
  by_cases c : n < mid
  · obtain ⟨c1, c2, c3, c4, c5, c6, c7, c8, c9, c10, c11, c12⟩ := F n n1 c
    refine ⟨c1, ⟨by have := c2.1; omega, c2.2⟩, ⟨c3.1, c3.2.1, by omega, c3.2.2.2⟩, c4, fun z => ⟨by have := (c5 z).1; omega, (c5 z).2⟩, ?_, c7, ?_, c9, c10, c11, c12⟩
    · rcases c6 with z | z
      · exact Or.inl z
      · exact Or.inr ⟨z.1, by omega⟩
    · rcases c8 with z | z
      · exact Or.inl z
      · exact Or.inr ⟨z.1, by omega, z.2.2⟩
  · obtain ⟨c1, c2, c3, c4, c5, c6, c7, c8, c9, c10, c11, c12⟩ := F' n (by omega) n2
    have pm : ∀ k, part A mid n k → part A lo n k := fun k z => by
      rcases z with z | z
      · exact Or.inl z
      · exact Or.inr ⟨by omega, z.2⟩
    refine ⟨c1, c2, c3, c4, c5, c6, c7, c8, pm _ c9, fun z => pm _ (c10 z), fun z => pm _ (c11 z), fun k k1 k2 k3 => ?_⟩
    by_cases kc : k < mid
    · have := F.parent k1 kc
      omega
    · rcases c12 k (by omega) k2 k3 with z | z | z | ⟨j, z1, z2⟩
      · exact Or.inl z
      · exact Or.inr (Or.inl z)
      · exact Or.inr (Or.inr (Or.inl z))
      · exact Or.inr (Or.inr (Or.inr ⟨j, by omega, z2⟩))
theorem ex.eq {k : Int} (e : 0 ≤ k → A' 0 k.toNat = A 0 k.toNat) (z : ex A k) : ex A' k := by
  unfold ex at z ⊢
  rw [e z.1]
  exact z
theorem sm.eq {k : Int} (e : 0 ≤ k → A' 0 k.toNat = A 0 k.toNat) (z : sm A k) : sm A' k := by
  unfold sm at z ⊢
  rw [e z.1]
  exact z
theorem opk.eq {o x y z : Int} (ex1 : 0 ≤ x → A' 0 x.toNat = A 0 x.toNat) (ey : ¬ o = 21 → 0 ≤ y → A' 0 y.toNat = A 0 y.toNat) (ez : ¬ o = 15 → 0 ≤ z → A' 0 z.toNat = A 0 z.toNat) (q : opk A o x y z) : opk A' o x y z := by
  have X1 := fun z => ex.eq ex1 z
  have X2 := fun z => sm.eq ex1 z
  have Y1 := fun w z => ex.eq (ey w) z
  have Y2 := fun w z => sm.eq (ey w) z
  have Z2 := fun w z => sm.eq (ez w) z
  unfold opk at q ⊢
  rcases q with q | q | q | q | q | q | q | q | q | q | q | q
  · exact Or.inl q
  · exact Or.inr (Or.inl ⟨q.1, q.2.1.imp id X1, q.2.2⟩)
  · exact Or.inr (Or.inr (Or.inl ⟨q.1, X1 q.2.1, q.2.2⟩))
  · exact Or.inr (Or.inr (Or.inr (Or.inl ⟨q.1, X1 q.2.1, q.2.2.1.imp id (fun v => ⟨Y1 (by omega) v.1, v.2⟩), q.2.2.2⟩)))
  · exact Or.inr (Or.inr (Or.inr (Or.inr (Or.inl ⟨q.1, X1 q.2.1, Y1 (by omega) q.2.2.1, q.2.2.2⟩))))
  · exact Or.inr (Or.inr (Or.inr (Or.inr (Or.inr (Or.inl ⟨q.1, q.2.1.imp id X2, q.2.2⟩)))))
  · exact Or.inr (Or.inr (Or.inr (Or.inr (Or.inr (Or.inr (Or.inl ⟨q.1, X1 q.2.1, q.2.2⟩))))))
  · exact Or.inr (Or.inr (Or.inr (Or.inr (Or.inr (Or.inr (Or.inr (Or.inl ⟨q.1, X1 q.2.1, Y1 (by omega) q.2.2.1, q.2.2.2⟩)))))))
  · exact Or.inr (Or.inr (Or.inr (Or.inr (Or.inr (Or.inr (Or.inr (Or.inr (Or.inl ⟨q.1, X1 q.2.1, q.2.2⟩))))))))
  · exact Or.inr (Or.inr (Or.inr (Or.inr (Or.inr (Or.inr (Or.inr (Or.inr (Or.inr (Or.inl ⟨q.1, X1 q.2.1, Y2 (by omega) q.2.2.1, q.2.2.2.1, q.2.2.2.2.imp id (fun v => ⟨Z2 (by omega) v.1, v.2⟩)⟩)))))))))
  · exact Or.inr (Or.inr (Or.inr (Or.inr (Or.inr (Or.inr (Or.inr (Or.inr (Or.inr (Or.inr (Or.inl ⟨q.1, X1 q.2.1, Y2 (by omega) q.2.2.1, q.2.2.2⟩))))))))))
  · exact Or.inr (Or.inr (Or.inr (Or.inr (Or.inr (Or.inr (Or.inr (Or.inr (Or.inr (Or.inr (Or.inr ⟨q.1, q.2.1.imp id X1, q.2.2⟩))))))))))
/-- the same nodes elsewhere -/
theorem FR.eq (F : FR A b s lo hi dhi T h) (e : ∀ i j, i < 11 → lo ≤ j → j < hi → A' i j = A i j) (eb : ∀ j, j < dhi → b' j = b j) : FR A' b' s lo hi dhi T h := by
  intro n n1 n2
  obtain ⟨c1, c2, c3, c4, c5, c6, c7, c8, c9, c10, c11, c12⟩ := F n n1 n2
  have E := fun i (hi : i < 11) => e i n hi n1 n2
  have P : ∀ k, part A lo n k → 0 ≤ k → ∀ i, i < 11 → A' i k.toNat = A i k.toNat := fun k z z0 i hi => by
    rcases z with z | z
    · omega
    · exact e i _ hi (by omega) (by omega)
  have pm : ∀ k, part A lo n k → part A' lo n k := fun k z => by
    rcases z with z | z
    · exact Or.inl z
    · refine Or.inr ⟨z.1, z.2.1, ?_⟩
      rw [e 8 _ (by omega) (by omega) (by omega)]
      exact z.2.2
  unfold cl
  rw [E 0 (by omega), E 1 (by omega), E 2 (by omega), E 3 (by omega), E 4 (by omega), E 5 (by omega), E 6 (by omega), E 7 (by omega), E 8 (by omega), E 10 (by omega)]
  refine ⟨opk.eq (fun z => P _ c9 z 0 (by omega)) (fun w z => P _ (c10 w) z 0 (by omega)) (fun w z => P _ (c11 w) z 0 (by omega)) c1, c2, c3, c4, fun z => ⟨(c5 z).1, ?_⟩, c6, fun j j1 j2 => ?_, ?_, pm _ c9, fun z => pm _ (c10 z), fun z => pm _ (c11 z), fun k k1 k2 k3 => ?_⟩
  · rw [eb _ ?_]
    · exact (c5 z).2
    · have z1 := (c5 z).1
      have z2 : 0 ≤ A 2 n := by
        unfold opk at c1
        omega
      omega
  · rcases c6 with z | z
    · omega
    · rw [e 8 j (by omega) (by omega) (by omega)]
      exact c7 j j1 j2
  · rcases c8 with z | ⟨z1, z2, z3, z4, z5, z6, z7⟩
    · exact Or.inl z
    · refine Or.inr ⟨z1, z2, ?_, ?_, ?_, fun w => ?_, ?_⟩
      · rw [e 8 _ (by omega) (by omega) (by omega)]
        exact z3
      · rw [e 0 _ (by omega) (by omega) (by omega)]
        exact z4
      · rw [e 0 _ (by omega) (by omega) (by omega)]
        exact z5
      · rw [e 0 _ (by omega) (by omega) (by omega), e 1 _ (by omega) (by omega) (by omega)]
        exact z6 w
      · rw [e 5 _ (by omega) (by omega) (by omega)]
        exact z7
  · rw [e 8 k (by omega) k1 (by omega)] at k3
    rcases c12 k k1 k2 k3 with z | z | z | ⟨j, z1, z2, z3, z4⟩
    · exact Or.inl z
    · exact Or.inr (Or.inl z)
    · exact Or.inr (Or.inr (Or.inl z))
    · refine Or.inr (Or.inr (Or.inr ⟨j, z1, z2, ?_, ?_⟩))
      · rw [e 8 j (by omega) (by omega) (by omega)]
        exact z3
      · rw [e 7 j (by omega) (by omega) (by omega)]
        exact z4
/-- a node more, whose parts are all roots -/
theorem FR.node (F : FR A b s lo hi dhi T h) (l0 : lo ≤ hi) (hT : T ≤ T') (e : ∀ i j, i < 11 → ¬ i = 8 → lo ≤ j → j < hi → A' i j = A i j) (r1 : ∀ j, lo ≤ j → j < hi → A 8 j = -1 → A' 8 j = hi) (r2 : ∀ j, lo ≤ j → j < hi → ¬ A 8 j = -1 → A' 8 j = A 8 j)
    (k1 : opk A (A' 0 hi) (A' 1 hi) (A' 2 hi) (A' 3 hi)) (k2 : nmk s T' (A' 0 hi) (A' 4 hi)) (k3 : (h.2 : Int) ≤ A' 5 hi ∧ A' 5 hi ≤ A' 6 hi ∧ A' 6 hi < T' ∧ (A' 4 hi = -1 ∨ A' 5 hi ≤ A' 4 hi ∧ A' 4 hi ≤ A' 6 hi) ∧ (A' 0 hi = 8 ∨ A' 0 hi = 12 → A' 4 hi + 2 ≤ A' 6 hi)) (k4 : A' 10 hi = h.1) (k5 : A' 0 hi = 21 → A' 2 hi < dhi ∧ b (A' 2 hi).toNat = 4 ∧ h.1 < A' 2 hi) (k6 : A' 8 hi = -1) (k7 : A' 7 hi = -1)
    (q1 : A' 1 hi = -1 ∨ (lo : Int) ≤ A' 1 hi ∧ A' 1 hi < hi ∧ A 8 (A' 1 hi).toNat = -1) (q2 : ¬ A' 0 hi = 21 → A' 2 hi = -1 ∨ (lo : Int) ≤ A' 2 hi ∧ A' 2 hi < hi ∧ A 8 (A' 2 hi).toNat = -1) (q3 : ¬ A' 0 hi = 15 → A' 3 hi = -1 ∨ (lo : Int) ≤ A' 3 hi ∧ A' 3 hi < hi ∧ A 8 (A' 3 hi).toNat = -1)
    (q4 : ∀ k, lo ≤ k → k < hi → A 8 k = -1 → (k : Int) = A' 1 hi ∨ ¬ A' 0 hi = 21 ∧ (k : Int) = A' 2 hi ∨ ¬ A' 0 hi = 15 ∧ (k : Int) = A' 3 hi ∨ ∃ j, lo ≤ j ∧ j < k ∧ A 8 j = -1 ∧ A 7 j = k)
    (q5 : ∀ k, lo ≤ k → k < hi → A 8 k = -1 → A 7 k = -1 ∨ (A' 0 hi = 8 ∨ A' 0 hi = 12 ∨ A' 0 hi = 20) ∧ (A' 0 hi = 12 → ¬ A' 1 hi = k)) : FR A' b s lo (hi + 1) dhi T' h := by
  intro n n1 n2
  by_cases c : n = hi
  · subst c
    have pm : ∀ k : Int, (k = -1 ∨ (lo : Int) ≤ k ∧ k < n ∧ A 8 k.toNat = -1) → part A' lo n k := fun k z => by
      rcases z with z | ⟨z1, z2, z3⟩
      · exact Or.inl z
      · exact Or.inr ⟨z1, z2, r1 _ (by omega) (by omega) z3⟩
    have P : ∀ k : Int, (k = -1 ∨ (lo : Int) ≤ k ∧ k < n ∧ A 8 k.toNat = -1) → 0 ≤ k → A' 0 k.toNat = A 0 k.toNat := fun k z z0 => by
      rcases z with z | z
      · omega
      · exact e 0 _ (by omega) (by omega) (by omega) (by omega)
    refine ⟨opk.eq (P _ q1) (fun w => P _ (q2 w)) (fun w => P _ (q3 w)) k1, k2, k3, k4, k5, Or.inl k6, fun j j1 j2 => by omega, Or.inl k7, pm _ q1, fun w => pm _ (q2 w), fun w => pm _ (q3 w), fun k a1 a2 a3 => ?_⟩
    have a4 : A 8 k = -1 := by
      by_cases w : A 8 k = -1
      · exact w
      · rw [r2 k a1 a2 w] at a3
        have := F.parent a1 a2
        omega
    rcases q4 k a1 a2 a4 with z | z | z | ⟨j, z1, z2, z3, z4⟩
    · exact Or.inl z
    · exact Or.inr (Or.inl z)
    · exact Or.inr (Or.inr (Or.inl z))
    · refine Or.inr (Or.inr (Or.inr ⟨j, z1, z2, r1 j z1 (by omega) z3, ?_⟩))
      rw [e 7 j (by omega) (by omega) z1 (by omega)]
      exact z4
  · have n3 : n < hi := by omega
    obtain ⟨c1, c2, c3, c4, c5, c6, c7, c8, c9, c10, c11, c12⟩ := F n n1 n3
    have E := fun i (h1 : i < 11) (h2 : ¬ i = 8) => e i n h1 h2 n1 n3
    have P : ∀ k, part A lo n k → 0 ≤ k → A' 0 k.toNat = A 0 k.toNat := fun k z z0 => by
      rcases z with z | z
      · omega
      · exact e 0 _ (by omega) (by omega) (by omega) (by omega)
    have R2 : ∀ j, lo ≤ j → j < hi → 0 ≤ A 8 j → A' 8 j = A 8 j := fun j j1 j2 j3 => r2 j j1 j2 (by omega)
    have pm : ∀ k, part A lo n k → part A' lo n k := fun k z => by
      rcases z with z | ⟨z1, z2, z3⟩
      · exact Or.inl z
      · refine Or.inr ⟨z1, z2, ?_⟩
        rw [R2 _ (by omega) (by omega) (by omega)]
        exact z3
    have p8 : A 8 n = -1 ∧ A' 8 n = hi ∨ ((n : Int) < A 8 n ∧ A 8 n < hi) ∧ A' 8 n = A 8 n := by
      rcases c6 with z | z
      · exact Or.inl ⟨z, r1 n n1 n3 z⟩
      · exact Or.inr ⟨z, R2 n n1 n3 (by omega)⟩
    unfold cl
    rw [E 0 (by omega) (by omega), E 1 (by omega) (by omega), E 2 (by omega) (by omega), E 3 (by omega) (by omega), E 4 (by omega) (by omega), E 5 (by omega) (by omega), E 6 (by omega) (by omega), E 7 (by omega) (by omega), E 10 (by omega) (by omega)]
    refine ⟨opk.eq (P _ c9) (fun w => P _ (c10 w)) (fun w => P _ (c11 w)) c1, ⟨by have := c2.1; omega, c2.2⟩, ⟨c3.1, c3.2.1, by omega, c3.2.2.2⟩, c4, c5, by omega, fun j j1 j2 => ?_, ?_, pm _ c9, fun w => pm _ (c10 w), fun w => pm _ (c11 w), fun k a1 a2 a3 => ?_⟩
    · rcases p8 with ⟨z1, z2⟩ | ⟨z1, z2⟩
      · rw [z2] at j2 ⊢
        have jp := F.parent (n := j) (by omega) (by omega)
        rcases jp with w | w
        · rw [r1 j (by omega) (by omega) w]
          omega
        · rw [R2 j (by omega) (by omega) (by omega)]
          omega
      · rw [z2] at j2 ⊢
        have := c7 j j1 j2
        rw [R2 j (by omega) (by omega) (by omega)]
        exact this
    · rcases c8 with z | ⟨z1, z2, z3, z4, z5, z6, z7⟩
      · exact Or.inl z
      · refine Or.inr ⟨z1, by omega, ?_, ?_, ?_, fun w => ?_, ?_⟩
        · rcases p8 with ⟨y1, y2⟩ | ⟨y1, y2⟩
          · rw [y2]
            exact r1 _ (by omega) (by omega) (by omega)
          · rw [y2, R2 _ (by omega) (by omega) (by omega)]
            exact z3
        · rw [e 0 _ (by omega) (by omega) (by omega) (by omega)]
          exact z4
        · rw [e 0 _ (by omega) (by omega) (by omega) (by omega)]
          exact z5
        · rcases p8 with ⟨y1, y2⟩ | ⟨y1, y2⟩
          · rw [y2, Int.toNat_natCast]
            rcases q5 n n1 n3 y1 with v | v
            · omega
            · exact v
          · rw [y2, e 0 _ (by omega) (by omega) (by omega) (by omega), e 1 _ (by omega) (by omega) (by omega) (by omega)]
            exact z6 (by omega)
        · rw [e 5 _ (by omega) (by omega) (by omega) (by omega)]
          exact z7
    · have a4 : A 8 k = n := by
        by_cases w : A 8 k = -1
        · rw [r1 k a1 (by omega) w] at a3
          omega
        · rw [r2 k a1 (by omega) w] at a3
          exact a3
      rcases c12 k a1 a2 a4 with z | z | z | ⟨j, z1, z2, z3, z4⟩
      · exact Or.inl z
      · exact Or.inr (Or.inl z)
      · exact Or.inr (Or.inr (Or.inl z))
      · refine Or.inr (Or.inr (Or.inr ⟨j, z1, z2, ?_, ?_⟩))
        · rw [R2 j z1 (by omega) (by omega)]
          exact z3
        · rw [e 7 j (by omega) (by omega) z1 (by omega)]
          exact z4
/-- a root is hung behind a root -/
theorem FR.link (F : FR A b s lo hi dhi T h) {l r : Nat} (l1 : lo ≤ l) (l2 : l < r) (l3 : r < hi) (rl : A 8 l = -1) (rr : A 8 r = -1) (ko : A 0 l ≤ 16 ∧ A 0 r ≤ 16 ∨ 20 ≤ A 0 l ∧ 20 ≤ A 0 r) (lt : A 6 l < A 5 r) (nl : A 7 l = -1) (e7 : A' 7 l = r) (e : ∀ i j, i < 11 → ¬ (i = 7 ∧ j = l) → A' i j = A i j) : FR A' b s lo hi dhi T h := by
  intro n n1 n2
  obtain ⟨c1, c2, c3, c4, c5, c6, c7, c8, c9, c10, c11, c12⟩ := F n n1 n2
  have E := fun i (h1 : i < 11) (h2 : ¬ i = 7) j => e i j h1 (by omega)
  have pm : ∀ k, part A lo n k → part A' lo n k := fun k z => by
    rcases z with z | z
    · exact Or.inl z
    · refine Or.inr ⟨z.1, z.2.1, ?_⟩
      rw [E 8 (by omega) (by omega)]
      exact z.2.2
  unfold cl
  rw [E 0 (by omega) (by omega), E 1 (by omega) (by omega), E 2 (by omega) (by omega), E 3 (by omega) (by omega), E 4 (by omega) (by omega), E 5 (by omega) (by omega), E 6 (by omega) (by omega), E 8 (by omega) (by omega), E 10 (by omega) (by omega)]
  refine ⟨opk.eq (fun _ => E 0 (by omega) (by omega) _) (fun _ _ => E 0 (by omega) (by omega) _) (fun _ _ => E 0 (by omega) (by omega) _) c1, c2, c3, c4, c5, c6, fun j j1 j2 => ?_, ?_, pm _ c9, fun z => pm _ (c10 z), fun z => pm _ (c11 z), fun k k1 k2 k3 => ?_⟩
  · rw [E 8 (by omega) (by omega)]
    exact c7 j j1 j2
  · by_cases c : n = l
    · subst c
      rw [e7, Int.toNat_natCast, E 8 (by omega) (by omega), E 0 (by omega) (by omega), E 5 (by omega) (by omega) r, rl, rr]
      exact Or.inr ⟨by omega, by omega, rfl, by omega, by omega, by omega, lt⟩
    · rw [e 7 n (by omega) (by omega), E 8 (by omega) (by omega), E 0 (by omega) (by omega), E 0 (by omega) (by omega), E 1 (by omega) (by omega), E 5 (by omega) (by omega) (A 7 n).toNat]
      exact c8
  · rw [E 8 (by omega) (by omega)] at k3
    rcases c12 k k1 k2 k3 with z | z | z | ⟨j, z1, z2, z3, z4⟩
    · exact Or.inl z
    · exact Or.inr (Or.inl z)
    · exact Or.inr (Or.inr (Or.inl z))
    · refine Or.inr (Or.inr (Or.inr ⟨j, z1, z2, ?_, ?_⟩))
      · rw [E 8 (by omega) (by omega)]
        exact z3
      · rw [e 7 j (by omega) (fun w => by
          rw [w.2, nl] at z4
          omega)]
        exact z4
end CLT
