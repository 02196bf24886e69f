/-! a program that was read, as trees: pieces lo .. e with their root e last -/
def seg (A : Nat → Nat → Int) (lo e : Nat) : Prop := lo ≤ e ∧ (∀ k, lo ≤ k → k < e → (k : Int) < A 8 k ∧ A 8 k ≤ e) ∧ ∀ k, k < lo → ¬ ((lo : Int) ≤ A 8 k ∧ A 8 k ≤ e)
/-- what is left of the kids of e, from lo on -/
def IV (A : Nat → Nat → Int) (lo e : Nat) : Prop := lo ≤ e ∧ (∀ k, lo ≤ k → k < e → (k : Int) < A 8 k ∧ A 8 k ≤ e) ∧ ∀ k, k < lo → ¬ ((lo : Int) ≤ A 8 k ∧ A 8 k < e)
/-- kids of e, one behind another -/
def SG (A : Nat → Nat → Int) (e : Nat) : Nat → List Nat → Prop
  | lo, [] => lo = e
  | lo, c :: r => seg A lo c ∧ c < e ∧ A 8 c = e ∧ SG A e (c + 1) r
/-- a chain of nexts -/
def CHN (A : Nat → Nat → Int) : Int → List Nat → Prop
  | x, [] => x = -1
  | x, c :: r => x = c ∧ CHN A (A 7 c) r
theorem least_ex {P : Nat → Prop} : ∀ m, P m → ∃ c, c ≤ m ∧ P c ∧ ∀ k, k < c → ¬ P k := by
  intro m
  induction m with
  | zero => exact fun h => ⟨0, Nat.le_refl _, h, fun k z => by omega⟩
  | succ m ih =>
    intro h
    by_cases c : ∃ j, j ≤ m ∧ P j
    · obtain ⟨j, j1, j2⟩ := c
      have key : ∀ a j, j ≤ a → a ≤ m → P j → ∃ c, c ≤ m ∧ P c ∧ ∀ k, k < c → ¬ P k := by
        intro a
        induction a with
        | zero => exact fun j j1 _ j3 => ⟨j, by omega, j3, fun k z => by omega⟩
        | succ a iha =>
          intro j j1 j2 j3
          by_cases c : ∃ i, i ≤ a ∧ P i
          · obtain ⟨i, i1, i2⟩ := c
            exact iha i i1 (by omega) i2
          · exact ⟨j, by omega, j3, fun k k1 k2 => c ⟨k, by omega, k2⟩⟩
      obtain ⟨c, c1, c2, c3⟩ := key m j j1 (Nat.le_refl _) j2
      exact ⟨c, by omega, c2, c3⟩
    · exact ⟨m + 1, Nat.le_refl _, h, fun k k1 k2 => c ⟨k, by omega, k2⟩⟩
theorem seg.iv {A : Nat → Nat → Int} {lo e : Nat} (H : seg A lo e) : IV A lo e := ⟨H.1, H.2.1, fun k k1 k2 => H.2.2 k k1 ⟨k2.1, by omega⟩⟩
section TREE
variable {A : Nat → Nat → Int} {b s : Nat → Int} {n D t : Nat} {hh : Nat → Int × Nat}
theorem kid_least (G : ∀ k, k < n → cl A b s 0 n D t (hh k) k) {lo e : Nat} (he : e < n) (I : IV A lo e) (h : lo < e) : ∃ c, lo ≤ c ∧ c < e ∧ A 8 c = e ∧ (∀ k, lo ≤ k → k < c → ¬ A 8 k = e) ∧ seg A lo c ∧ IV A (c + 1) e := by
  obtain ⟨i1, i2, i3⟩ := I
  have l := i2 (e - 1) (by omega) (by omega)
  obtain ⟨c, c1, c2, c3⟩ := least_ex (P := fun k => lo ≤ k ∧ A 8 k = e) (e - 1) ⟨by omega, by omega⟩
  have S : seg A lo c := by
    refine ⟨c2.1, fun k k1 k2 => ?_, fun k k1 k2 => i3 k k1 ⟨k2.1, by omega⟩⟩
    have z := i2 k k1 (by omega)
    refine ⟨z.1, ?_⟩
    by_cases w : A 8 k ≤ c
    · exact w
    · have y := (G k (by omega)).2.2.2.2.2.2.1 c k2 (by omega)
      have := c3 k k2
      have : ¬ A 8 k = e := fun v => this ⟨k1, v⟩
      rw [c2.2] at y
      omega
  refine ⟨c, c2.1, by omega, c2.2, fun k k1 k2 v => c3 k k2 ⟨k1, v⟩, S, by omega, fun k k1 k2 => i2 k (by omega) k2, fun k k1 k2 => ?_⟩
  by_cases w : k < lo
  · exact i3 k w ⟨by omega, k2.2⟩
  · by_cases w2 : k = c
    · rw [w2, c2.2] at k2
      omega
    · have := S.2.1 k (by omega) (by omega)
      omega
theorem kid_none {lo e : Nat} (G : ∀ k, k < n → cl A b s 0 n D t (hh k) k) (he : e < n) (I : IV A lo e) (h : ∀ k, lo ≤ k → k < e → ¬ A 8 k = e) : lo = e := by
  by_cases c : lo < e
  · obtain ⟨c, c1, c2, c3, _⟩ := kid_least G he I c
    exact absurd c3 (h c c1 c2)
  · have := I.1
    omega
theorem kid_one {lo e x : Nat} (G : ∀ k, k < n → cl A b s 0 n D t (hh k) k) (he : e < n) (I : IV A lo e) (hx : lo ≤ x ∧ x < e ∧ A 8 x = e) (hk : ∀ k, lo ≤ k → k < e → A 8 k = e → k = x) : seg A lo x ∧ x + 1 = e := by
  obtain ⟨c, c1, c2, c3, c4, c5, c6⟩ := kid_least G he I (by omega)
  have e1 := hk c c1 c2 c3
  subst e1
  refine ⟨c5, kid_none G he c6 fun k k1 k2 k3 => ?_⟩
  have := hk k (by omega) k2 k3
  omega
theorem kid_two {lo e x y : Nat} (G : ∀ k, k < n → cl A b s 0 n D t (hh k) k) (he : e < n) (I : IV A lo e) (hx : lo ≤ x ∧ x < e ∧ A 8 x = e) (hy : y < e ∧ A 8 y = e) (xy : x < y) (hk : ∀ k, lo ≤ k → k < e → A 8 k = e → k = x ∨ k = y) : seg A lo x ∧ seg A (x + 1) y ∧ y + 1 = e := by
  obtain ⟨c, c1, c2, c3, c4, c5, c6⟩ := kid_least G he I (by omega)
  have e1 : c = x := by
    rcases hk c c1 c2 c3 with z | z
    · exact z
    · exact absurd hx.2.2 (c4 x hx.1 (by omega))
  subst e1
  exact ⟨c5, kid_one G he c6 ⟨by omega, hy.1, hy.2⟩ fun k k1 k2 k3 => by
    have := hk k (by omega) k2 k3
    omega⟩
theorem kid_three {lo e x y z : Nat} (G : ∀ k, k < n → cl A b s 0 n D t (hh k) k) (he : e < n) (I : IV A lo e) (hx : lo ≤ x ∧ x < e ∧ A 8 x = e) (hy : y < e ∧ A 8 y = e) (hz : z < e ∧ A 8 z = e) (xy : x < y) (yz : y < z) (hk : ∀ k, lo ≤ k → k < e → A 8 k = e → k = x ∨ k = y ∨ k = z) : seg A lo x ∧ seg A (x + 1) y ∧ seg A (y + 1) z ∧ z + 1 = e := by
  obtain ⟨c, c1, c2, c3, c4, c5, c6⟩ := kid_least G he I (by omega)
  have e1 : c = x := by
    rcases hk c c1 c2 c3 with z | z
    · exact z
    · exact absurd hx.2.2 (c4 x hx.1 (by omega))
  subst e1
  exact ⟨c5, kid_two G he c6 ⟨by omega, hy.1, hy.2⟩ hz yz fun k k1 k2 k3 => by
    have := hk k (by omega) k2 k3
    omega⟩
theorem kid_chain {e : Nat} (G : ∀ k, k < n → cl A b s 0 n D t (hh k) k) (he : e < n) : ∀ (m lo : Nat) (v : Int), e - lo ≤ m → IV A lo e → (v = -1 ∨ (lo : Int) ≤ v ∧ v < e ∧ A 8 v.toNat = e) → (∀ j : Nat, lo ≤ j → j < e → A 8 j = e → (j : Int) = v ∨ ∃ i, lo ≤ i ∧ i < j ∧ A 8 i = e ∧ A 7 i = j) → ∃ ks, CHN A v ks ∧ SG A e lo ks := by
  intro m
  induction m with
  | zero =>
    intro lo v h I hv hc
    have := I.1
    have e1 : lo = e := by omega
    exact ⟨[], by show v = -1; omega, e1⟩
  | succ m ih =>
    intro lo v h I hv hc
    by_cases c : lo < e
    · obtain ⟨c, c1, c2, c3, c4, c5, c6⟩ := kid_least G he I c
      have cv : (c : Int) = v := by
        rcases hc c c1 c2 c3 with z | ⟨i, z1, z2, z3, _⟩
        · exact z
        · exact absurd z3 (c4 i z1 z2)
      have c8 := (G c (by omega)).2.2.2.2.2.2.2.1
      obtain ⟨ks, k1, k2⟩ := ih (c + 1) (A 7 c) (by omega) c6 (by
        rcases c8 with z | ⟨z1, z2, z3, _⟩
        · exact Or.inl z
        · have := (G (A 7 c).toNat (by omega)).2.2.2.2.2.1
          rw [z3, c3] at this
          exact Or.inr ⟨by omega, by omega, by rw [z3, c3]⟩) (fun j j1 j2 j3 => by
        rcases hc j (by omega) j2 j3 with z | ⟨i, z1, z2, z3, z4⟩
        · omega
        · by_cases ci : i = c
          · exact Or.inl (by rw [← z4, ci])
          · refine Or.inr ⟨i, ?_, z2, z3, z4⟩
            have := c4 i z1
            by_cases w : i < c
            · exact absurd z3 (c4 i z1 w)
            · omega)
      exact ⟨c :: ks, ⟨cv.symm, k1⟩, c5, c2, c3, k2⟩
    · have := I.1
      have e1 : lo = e := by omega
      exact ⟨[], by show v = -1; omega, e1⟩
/-- kids are parts, or nexts -/
theorem kid_of {e k : Nat} (G : ∀ k, k < n → cl A b s 0 n D t (hh k) k) (he : e < n) (hk : k < e) (h : A 8 k = e) : (k : Int) = A 1 e ∨ ¬ A 0 e = 21 ∧ (k : Int) = A 2 e ∨ ¬ A 0 e = 15 ∧ (k : Int) = A 3 e ∨ (A 0 e = 8 ∨ A 0 e = 12 ∨ A 0 e = 20) ∧ ∃ j, j < k ∧ A 8 j = e ∧ A 7 j = k ∧ (A 0 e = 12 → ¬ A 1 e = j) := by
  rcases (G e he).2.2.2.2.2.2.2.2.2.2.2 k (Nat.zero_le _) hk h with z | z | z | ⟨j, z1, z2, z3, z4⟩
  · exact Or.inl z
  · exact Or.inr (Or.inl z)
  · exact Or.inr (Or.inr (Or.inl z))
  · rcases (G j (by omega)).2.2.2.2.2.2.2.1 with w | ⟨_, _, _, _, _, w, _⟩
    · omega
    · rw [z3, Int.toNat_natCast] at w
      have := w (by omega)
      exact Or.inr (Or.inr (Or.inr ⟨this.1, j, z2, z3, z4, this.2⟩))
/-- a part is a kid -/
theorem part_kid {lo e : Nat} {x : Int} (S : seg A lo e) (h : part A 0 e x) : x = -1 ∨ (lo : Int) ≤ x ∧ x < e ∧ A 8 x.toNat = e := by
  rcases h with z | ⟨z1, z2, z3⟩
  · exact Or.inl z
  · refine Or.inr ⟨?_, z2, z3⟩
    by_cases c : (lo : Int) ≤ x
    · exact c
    · have := S.1
      exact absurd ⟨by omega, by omega⟩ (S.2.2 x.toNat (by omega))
end TREE
