/-! arrays that grow: the model's own rows -/
def gl : List Nat := [22, 24, 31, 32, 33, 39, 43, 44, 45, 46, 47, 48, 63, 64, 65, 66, 67, 69, 70, 71, 77, 78]
/-- what is wanted of each at most -/
def gcap (j : Nat) : Nat := if j = 22 then 77000 else if j = 24 then 26000 else if j = 39 then 100000 else if 31 ≤ j ∧ j ≤ 33 then 62000 else if 43 ≤ j ∧ j ≤ 48 then 64 else if 69 ≤ j ∧ j ≤ 71 then 270000 else 2600
/-- the cells where such rows lie -/
def oka (b : Nat) : Prop := 477 ≤ b ∨ 173 ≤ b ∧ b ≤ 177 ∨ 183 ≤ b ∧ b ≤ 189 ∨ 447 ≤ b ∧ b ≤ 454 ∨ b = 457 ∨ b = 458
def ga (M : me_M) (j : Nat) : Nat := (me_p M 164 j).getD 0
def gL (M : me_M) (j : Nat) : Nat := (M.2.1 (ga M j)).2
def gi (M : me_M) (j i : Nat) : Int := me_i M (ga M j) i
def gsum (f : Nat → Nat) : List Nat → Nat
  | [] => 0
  | j :: r => f j + gsum f r
def lg : Nat → Nat → Nat
  | 0, _ => 0
  | f + 1, x => if x ≤ 1 then 0 else lg f (x / 2) + 1
theorem lg_le : ∀ f x, lg f x ≤ f
  | 0, _ => Nat.le_refl _
  | f + 1, x => by
    have := lg_le f (x / 2)
    rw [lg]
    split <;> omega
theorem lg_mo : ∀ f x y, x ≤ y → lg f x ≤ lg f y
  | 0, _, _, _ => Nat.le_refl _
  | f + 1, x, y, h => by
    have := lg_mo f (x / 2) (y / 2) (by omega)
    rw [lg, lg]
    split
    · exact Nat.zero_le _
    · rw [if_neg (by omega)]
      omega
theorem lg_sat : ∀ f x, x < 2 ^ f → lg (f + 1) x = lg f x
  | 0, x, h => by
    have h : x < 1 := h
    show (if x ≤ 1 then 0 else lg 0 (x / 2) + 1) = 0
    rw [if_pos (by omega)]
  | f + 1, x, h => by
    rw [Nat.pow_succ] at h
    have e := lg_sat f (x / 2) (by omega)
    show (if x ≤ 1 then 0 else lg (f + 1) (x / 2) + 1) = (if x ≤ 1 then 0 else lg f (x / 2) + 1)
    rw [e]
theorem lg_two {x y : Nat} (h0 : 1 ≤ x) (h : 2 * x ≤ y) (hx : x < 2 ^ 39) : lg 40 x + 1 ≤ lg 40 y := by
  have a := lg_mo 39 x (y / 2) (by omega)
  have b := lg_sat 39 x hx
  have c : lg 40 y = lg 39 (y / 2) + 1 := by
    rw [lg, if_neg (by omega)]
  have b : lg 40 x = lg 39 x := b
  omega
theorem gsum_eq {f g : Nat → Nat} : ∀ r : List Nat, (∀ j, j ∈ r → g j = f j) → gsum g r = gsum f r
  | [], _ => rfl
  | j :: r, h => by rw [gsum, gsum, h j List.mem_cons_self, gsum_eq r fun i i1 => h i (List.mem_cons_of_mem _ i1)]
theorem gsum_upd {f g : Nat → Nat} {j : Nat} : ∀ r : List Nat, r.Nodup → j ∈ r → (∀ i, i ∈ r → ¬ i = j → g i = f i) → gsum g r + f j = gsum f r + g j
  | [], _, h, _ => by cases h
  | i :: r, hn, h, e => by
    have hn' := List.nodup_cons.mp hn
    by_cases c : i = j
    · subst c
      rw [gsum, gsum, gsum_eq (f := f) (g := g) r fun k k1 => e k (List.mem_cons_of_mem _ k1) fun z => hn'.1 (z ▸ k1)]
      omega
    · have := gsum_upd (f := f) (g := g) (j := j) r hn'.2 (by
        rcases List.mem_cons.mp h with z | z
        · exact absurd z.symm c
        · exact z) (fun k k1 => e k (List.mem_cons_of_mem _ k1))
      rw [gsum, gsum, e i List.mem_cons_self c]
      omega
theorem gsum_le {f g : Nat → Nat} : ∀ r : List Nat, (∀ j, j ∈ r → f j ≤ g j) → gsum f r ≤ gsum g r
  | [], _ => Nat.le_refl _
  | j :: r, h => by
    have := gsum_le (f := f) (g := g) r fun i i1 => h i (List.mem_cons_of_mem _ i1)
    have := h j List.mem_cons_self
    rw [gsum, gsum]
    omega
theorem gl_nd : gl.Nodup := by decide
theorem gl_cap : gsum (fun j => 2 * gcap j) gl = 2435168 := by decide
theorem gl_lg : gsum (fun _ => 40) gl = 880 := by decide
/-- the rows stand, apart from one another -/
def GA (M : me_M) : Prop := (∀ j, j ∈ gl → me_p M 164 j = some (ga M j) ∧ (M.2.1 (ga M j)).1 = (if j = 67 then 4 else 0) ∧ (1 ≤ gL M j ∧ gL M j ≤ 2 * gcap j) ∧ oka (ga M j) ∧ ga M j < M.1) ∧ (∀ i j, i ∈ gl → j ∈ gl → ga M i = ga M j → i = j) ∧ 477 ≤ M.1 ∧ 6200000 ≤ M.2.2.2.2.2 + 2 * gsum (gL M) gl ∧ 1000 ≤ M.2.2.2.2.1 + gsum (fun j => lg 40 (gL M j)) gl
theorem GA.room {M : me_M} (G : GA M) : 1300000 ≤ M.2.2.2.2.2 ∧ 100 ≤ M.2.2.2.2.1 := by
  have a := gsum_le (f := gL M) (g := fun j => 2 * gcap j) gl fun j j1 => (G.1 j j1).2.2.1.2
  have b := gsum_le (f := fun j => lg 40 (gL M j)) (g := fun _ => 40) gl fun j _ => lg_le 40 _
  rw [gl_cap] at a
  rw [gl_lg] at b
  have := G.2.2.2
  omega
/-- since M: fixed cells changed at P, rows' cells at R; rows may have grown -/
def gx (P R : Nat → Nat → Prop) (M M' : me_M) : Prop := M.1 ≤ M'.1 ∧ (∀ b, b < M.1 → M'.2.1 b = M.2.1 b) ∧ (∀ b j, b < M.1 → ¬ oka b → ¬ P b j → M'.2.2.1 b j = M.2.2.1 b j) ∧ (∀ b j, b < M.1 → ¬ (b = 164 ∧ j ∈ gl) → M'.2.2.2.1 b j = M.2.2.2.1 b j) ∧ (∀ j, j ∈ gl → gL M j ≤ gL M' j ∧ ∀ i, i < gL M j → ¬ R j i → gi M' j i = gi M j i) ∧ GA M'
section GX
variable {P R P' R' : Nat → Nat → Prop} {M M1 M2 : me_M}
theorem gx.rf (G : GA M) : gx P R M M := ⟨Nat.le_refl _, fun _ _ => rfl, fun _ _ _ _ _ => rfl, fun _ _ _ _ => rfl, fun _ _ => ⟨Nat.le_refl _, fun _ _ _ => rfl⟩, G⟩
theorem gx.tr (h : gx P R M M1) (k : gx P R M1 M2) : gx P R M M2 := by
  obtain ⟨h1, h2, h3, h4, h5, h6⟩ := h
  obtain ⟨k1, k2, k3, k4, k5, k6⟩ := k
  refine ⟨by omega, fun b b1 => by rw [k2 b (by omega), h2 b b1], fun b j b1 b2 b3 => by rw [k3 b j (by omega) b2 b3, h3 b j b1 b2 b3], fun b j b1 b2 => by rw [k4 b j (by omega) b2, h4 b j b1 b2], fun j j1 => ⟨by have := (h5 j j1).1; have := (k5 j j1).1; omega, fun i i1 i2 => ?_⟩, k6⟩
  have := (h5 j j1).1
  rw [(k5 j j1).2 i (by omega) i2, (h5 j j1).2 i i1 i2]
theorem gx.mo (h : gx P R M M1) (hP : ∀ b j, P b j → P' b j) (hR : ∀ b j, R b j → R' b j) : gx P' R' M M1 := ⟨h.1, h.2.1, fun b j b1 b2 b3 => h.2.2.1 b j b1 b2 fun z => b3 (hP b j z), h.2.2.2.1, fun j j1 => ⟨(h.2.2.2.2.1 j j1).1, fun i i1 i2 => (h.2.2.2.2.1 j j1).2 i i1 fun z => i2 (hR j i z)⟩, h.2.2.2.2.2⟩
theorem gx.i (h : gx P R M M1) (G : GA M) {b j : Nat} (b1 : b < 477) (b2 : ¬ oka b) (n : ¬ P b j) : me_i M1 b j = me_i M b j := by
  unfold me_i
  rw [h.2.2.1 b j (by have := G.2.2.1; omega) b2 n]
theorem gx.g (h : gx P R M M1) {j i : Nat} (j1 : j ∈ gl) (i1 : i < gL M j) (n : ¬ R j i) : gi M1 j i = gi M j i := (h.2.2.2.2.1 j j1).2 i i1 n
/-- fixed cells changed only -/
theorem gx.of (G : GA M) (f : fr P M M1) (hP : ∀ b j, P b j → ¬ oka b) : gx P R M M1 := by
  obtain ⟨f1, f2, f3, f4⟩ := f
  have ea : ∀ j, ga M1 j = ga M j := fun j => by
    unfold ga me_p
    rw [f3]
  have el : ∀ j, gL M1 j = gL M j := fun j => by
    unfold gL
    rw [ea, f2]
  have es : gL M1 = gL M := funext el
  refine ⟨by omega, fun b _ => by rw [f2], fun b j _ _ n => f4 b j n, fun b j _ _ => by rw [f3], fun j j1 => ⟨by rw [el]; exact Nat.le_refl _, fun i i1 n => ?_⟩, ?_⟩
  · unfold gi me_i
    rw [ea, f4 _ _ fun z => hP _ _ z (G.1 j j1).2.2.2.1]
  · obtain ⟨g1, g2, g3, g4, g5⟩ := G
    refine ⟨fun j j1 => ?_, fun i j i1 j1 z => g2 i j i1 j1 (by rw [← ea, ← ea]; exact z), by omega, ?_, ?_⟩
    · obtain ⟨a1, a2, a3, a4, a5⟩ := g1 j j1
      refine ⟨?_, by rw [ea, f2]; exact a2, by rw [el]; exact a3, by rw [ea]; exact a4, by rw [ea, f1]; exact a5⟩
      rw [ea]
      unfold me_p
      rw [f3]
      exact a1
    · rw [f3, es]
      exact g4
    · rw [f3, es]
      exact g5
/-- one cell of a row -/
theorem gx.set (G : GA M) {j i : Nat} {x : Int32} (j1 : j ∈ gl) (hR : R j i) : gx P R M (me_sI M (ga M j) i x) := by
  have ea : ∀ k, ga (me_sI M (ga M j) i x) k = ga M k := fun k => rfl
  refine ⟨Nat.le_refl _, fun _ _ => rfl, fun b k b1 b2 b3 => ?_, fun _ _ _ _ => rfl, fun k k1 => ⟨Nat.le_refl _, fun a a1 a2 => ?_⟩, G⟩
  · show (if b = ga M j ∧ k = i then x else M.2.2.1 b k) = _
    rw [if_neg fun z : b = ga M j ∧ k = i => b2 (by rw [z.1]; exact (G.1 j j1).2.2.2.1)]
  · show me_i (me_sI M (ga M j) i x) (ga M k) a = me_i M (ga M k) a
    rw [me_i_sI, if_neg]
    intro z
    have := G.2.1 k j k1 j1 z.1
    subst this
    rw [z.2] at a2
    exact a2 hR
theorem gi_set {j i : Nat} {x : Int} (h : me_r x) : gi (me_sI M (ga M j) i (Int32.ofInt x)) j i = x := by
  show me_i (me_sI M (ga M j) i (Int32.ofInt x)) (ga M j) i = x
  rw [me_i_sI, if_pos ⟨rfl, rfl⟩, me_to h]
end GX
