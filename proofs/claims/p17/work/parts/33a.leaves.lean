/-! the reference's leaves: contracts -/
def rl_isL (x : Int) : Prop := 97 ≤ x ∧ x ≤ 122 ∨ 65 ≤ x ∧ x ≤ 90
def rl_isD (x : Int) : Prop := 48 ≤ x ∧ x ≤ 57
theorem c_289 {N : Nat} {X : Nat → Int32} {d : Nat} {x : Int} {M : me_M} (hx : me_r x) : me_W (mt_G N X) 289 d 0 [some (.inl x)] [] M (sx_qI (fun y M' => M' = M ∧ (y = 1 ∧ rl_isL x ∨ y = 0 ∧ ¬ rl_isL x)) nt_E) := by
  refine b289_0 ?_
  simp only [sx_qI, me_r, rl_isL] at hx ⊢
  (repeat' (first | apply And.intro | intro _)) <;> first | trivial | omega | grind
theorem c_290 {N : Nat} {X : Nat → Int32} {d : Nat} {x : Int} {M : me_M} (hx : me_r x) : me_W (mt_G N X) 290 d 0 [some (.inl x)] [] M (sx_qI (fun y M' => M' = M ∧ (y = 1 ∧ rl_isD x ∨ y = 0 ∧ ¬ rl_isD x)) nt_E) := by
  refine b290_0 ?_
  simp only [sx_qI, me_r, rl_isD] at hx ⊢
  (repeat' (first | apply And.intro | intro _)) <;> first | trivial | omega | grind
/-- the place of a token; a0: the program -/
theorem c_294 {N : Nat} {X : Nat → Int32} {d a0 : Nat} {x1 : Int} {M : me_M} (h0 : 0 ≤ x1) (h1 : x1 < 2408) : me_W (mt_G N X) 294 d 0 [some (.inr (.inl (some a0, 29, 0))), some (.inl x1)] [] M (sx_qI (fun y M' => M' = M ∧ y = 10000 * me_i M (a0 + 12) x1.toNat + me_i M (a0 + 10) x1.toNat) nt_E) := by
  refine b294_0 ?_
  simp only [sx_qI]
  (repeat' (first | apply And.intro | intro _)) <;> first | trivial | omega | exact me_i_r | grind
/-- a byte as a number, behind a byte's bounds -/
theorem me_and255 {x : Int} (h0 : -128 ≤ x) (h1 : x ≤ 127) : (Int32.ofInt x &&& Int32.ofInt 255).toInt = x % 256 := by
  have h : ∀ k : Fin 256, (Int32.ofInt ((k.val : Int) - 128) &&& Int32.ofInt 255).toInt = ((k.val : Int) - 128) % 256 := by decide +kernel
  have h2 := h ⟨(x + 128).toNat, by omega⟩
  have e : (((x + 128).toNat : Nat) : Int) - 128 = x := by omega
  simp only [e] at h2
  exact h2
/-- Tokens.at: the byte there, or -1 -/
theorem c_287 {N : Nat} {X : Nat → Int32} {d a0 l0 : Nat} {x1 x2 : Int} {M : me_M} (h0 : 0 ≤ x1) (h1 : me_r x1) (h2 : me_r x2) (h3 : x2 ≤ (l0 : Int)) : me_W (mt_G N X) 287 d 0 [some (.inr (.inl (some a0, 2, l0))), some (.inl x1), some (.inl x2)] [] M (sx_qI (fun y M' => M' = M ∧ -1 ≤ y ∧ y ≤ 255 ∧ (x1 < x2 → y = me_i M a0 x1.toNat % 256) ∧ (x2 ≤ x1 → y = -1)) nt_E) := by
  refine b287_0 ?_
  simp only [sx_qI]
  refine ⟨h1, h2, fun h => ⟨trivial, by omega, by omega, fun _ => by omega, fun _ => trivial⟩, fun h => ⟨h0, by omega, fun hb => ?_⟩⟩
  rw [me_and255 hb.1 hb.2]
  exact ⟨trivial, by omega, by omega, fun _ => rfl, fun _ => by omega⟩
/-- what sign c and the byte behind it are: a code, or -1 -/
def rl_sign (c n : Int) : Int := if c = 61 then (if n = 61 then 300 else c) else if c = 33 then (if n = 61 then 301 else c) else if c = 60 then (if n = 61 then 302 else c) else if c = 62 then (if n = 61 then 303 else c) else if c = 38 then (if n = 38 then 304 else -1) else if c = 124 then (if n = 124 then 305 else -1) else if c = 123 ∨ c = 125 ∨ c = 40 ∨ c = 41 ∨ c = 59 ∨ c = 44 ∨ c = 46 ∨ c = 43 ∨ c = 45 ∨ c = 42 ∨ c = 47 ∨ c = 37 then c else -1
theorem c_292 {N : Nat} {X : Nat → Int32} {d : Nat} {x0 x1 : Int} {M : me_M} (h0 : me_r x0) (h1 : me_r x1) : me_W (mt_G N X) 292 d 0 [some (.inl x0), some (.inl x1)] [] M (sx_qI (fun y M' => M' = M ∧ y = rl_sign x0 x1) nt_E) := by
  refine b292_0 ?_
  simp only [sx_qI, me_r] at h0 h1 ⊢
  (repeat' (first | apply And.intro | intro _)) <;> first | trivial | omega | (unfold rl_sign; repeat' split) <;> first | trivial | omega | grind
