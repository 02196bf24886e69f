/-! Math.max: instructions (30.sx.py) -/
def si_160 : List (Nat × Instr × Nat) := [(0, .iload_n 0, 1), (1, .iload_n 1, 1), (2, .if_icmp .lt 7, 3), (5, .iload_n 0, 1), (6, .goto 4, 3), (9, .iload_n 1, 1), (10, .ireturn, 1)]
set_option maxRecDepth 100000 in
theorem si_ok_160 : si_160.all (si_is 160) = true := by decide +kernel
/-! Math.max: blocks (blocks.py) -/
set_option maxRecDepth 100000 in
theorem b160_0 {N : Nat} {X : Nat → Int32} {d : Nat} {x0 x1 : Int} {M : me_M} {Q : me_Q} (h : me_r x0 ∧ me_r x1 ∧ (x0 < x1 → Q (.inr (some (.inl x1))) M) ∧ (x1 ≤ x0 → Q (.inr (some (.inl x0))) M)) : me_W (mt_G N X) 160 d 0 [some (.inl x0), some (.inl x1)] [] M Q := sx_ok (n := 7) (pv := 1) (cut := []) si_ok_160 h
/-! a slot grows; writeExp's write -/
theorem c_160 {N : Nat} {X : Nat → Int32} {d : Nat} {x0 x1 : Int} {M : me_M} (h0 : me_r x0) (h1 : me_r x1) : me_W (mt_G N X) 160 d 0 [some (.inl x0), some (.inl x1)] [] M (sx_qI (fun y M' => M' = M ∧ (y = x0 ∨ y = x1) ∧ x0 ≤ y ∧ x1 ≤ y) nt_E) :=
  b160_0 ⟨h0, h1, fun z => ⟨rfl, Or.inr rfl, by omega, by omega⟩, fun z => ⟨rfl, Or.inl rfl, by omega, by omega⟩⟩
theorem gcap_le (j : Nat) : gcap j ≤ 270000 := by
  unfold gcap
  repeat' split
  all_goals omega
section GROW
variable {P R : Nat → Nat → Prop} {M : me_M} {N : Nat} {X : Nat → Int32} {d : Nat}
theorem gp (G : GA M) {j : Nat} (j1 : j ∈ gl) : me_p M 164 j = some (ga M j) := (G.1 j j1).1
theorem gn (G : GA M) {j n : Nat} (j1 : j ∈ gl) (h : ∀ b, me_p M 164 j = some b → M.2.1 b = (0, n)) : n = gL M j := by
  have := h _ (gp G j1)
  unfold gL
  rw [this]
theorem sP_self {j : Nat} (h : me_p M 164 j = some (ga M j)) : me_sP M 164 j (some (ga M j)) = M := by
  have e : (fun b k => if b = 164 ∧ k = j then some (ga M j) else M.2.2.2.1 b k) = M.2.2.2.1 := by
    funext b k
    split
    · next z =>
      rw [z.1, z.2]
      exact h.symm
    · rfl
  show (M.1, M.2.1, M.2.2.1, (fun b k => if b = 164 ∧ k = j then some (ga M j) else M.2.2.2.1 b k), M.2.2.2.2) = M
  rw [e]
/-- a longer row for j -/
def gM (M : me_M) (j y : Nat) : me_M := me_sP (me_cp (me_nw M (0, y) y) (ga M j) M.1 0 0 (gL M j)) 164 j (some M.1)
theorem gM_ga {j y k : Nat} (h : 477 ≤ M.1) : ga (gM M j y) k = if k = j then M.1 else ga M k := by
  show (if 164 = 164 ∧ k = j then some M.1 else if 164 = M.1 then none else M.2.2.2.1 164 k).getD 0 = _
  by_cases c : k = j
  · rw [if_pos ⟨rfl, c⟩, if_pos c]
    rfl
  · rw [if_neg fun z => c z.2, if_neg (by omega), if_neg c]
    rfl
theorem gM_p {j y k : Nat} (h : 477 ≤ M.1) : me_p (gM M j y) 164 k = if k = j then some M.1 else me_p M 164 k := by
  show (if 164 = 164 ∧ k = j then some M.1 else if 164 = M.1 then none else M.2.2.2.1 164 k) = _
  by_cases c : k = j
  · rw [if_pos ⟨rfl, c⟩, if_pos c]
  · rw [if_neg fun z => c z.2, if_neg (by omega), if_neg c]
    rfl
theorem gM_k {j y b : Nat} : (gM M j y).2.1 b = if b = M.1 then (0, y) else M.2.1 b := rfl
theorem gM_i {j y b i : Nat} (h : b < M.1) : me_i (gM M j y) b i = me_i M b i := by
  show (if b = M.1 then va_cpy _ _ 0 0 (gL M j) i else if b = M.1 then 0 else M.2.2.1 b i).toInt = _
  rw [if_neg (by omega), if_neg (by omega)]
  rfl
theorem gM_c {j y i : Nat} (ha : ga M j < M.1) (h : i < gL M j) : me_i (gM M j y) M.1 i = me_i M (ga M j) i := by
  show (if M.1 = M.1 then va_cpy (fun k => if ga M j = M.1 then 0 else M.2.2.1 (ga M j) k) _ 0 0 (gL M j) i else _).toInt = _
  rw [if_pos rfl, pk_cpy_in (Nat.zero_le _) (by omega)]
  show (if ga M j = M.1 then 0 else M.2.2.1 (ga M j) (0 + (i - 0))).toInt = _
  rw [if_neg (by omega), Nat.zero_add, Nat.sub_zero]
  rfl
theorem gx.gr {j y : Nat} (G : GA M) (j1 : j ∈ gl) (j67 : ¬ j = 67) (h1 : 2 * gL M j ≤ y) (h2 : y ≤ 2 * gcap j) : gx P R M (gM M j y) ∧ gL (gM M j y) j = y := by
  obtain ⟨rm1, rm2⟩ := G.room
  obtain ⟨g1, g2, g3, g4, g5⟩ := G
  have gc := gcap_le j
  obtain ⟨aj, bj, cj, dj, ej⟩ := g1 j j1
  have el : ∀ k, k ∈ gl → gL (gM M j y) k = if k = j then y else gL M k := fun k k1 => by
    have := (g1 k k1).2.2.2.2
    unfold gL
    rw [gM_ga g3, gM_k]
    by_cases c : k = j
    · rw [if_pos c, if_pos rfl, if_pos c]
    · rw [if_neg c, if_neg (by omega), if_neg c]
  have elj : gL (gM M j y) j = y := by rw [el j j1, if_pos rfl]
  have eln : ∀ k, k ∈ gl → ¬ k = j → gL (gM M j y) k = gL M k := fun k k1 k2 => by rw [el k k1, if_neg k2]
  have s1 := gsum_upd (f := gL M) (g := gL (gM M j y)) gl gl_nd j1 eln
  have s2 := gsum_upd (f := fun k => lg 40 (gL M k)) (g := fun k => lg 40 (gL (gM M j y) k)) gl gl_nd j1 fun k k1 k2 => by
    show lg 40 (gL (gM M j y) k) = lg 40 (gL M k)
    rw [eln k k1 k2]
  have l2 := lg_two (x := gL M j) (y := y) cj.1 h1 (by omega)
  rw [elj] at s1 s2
  refine ⟨⟨Nat.le_succ _, fun b b1 => by rw [gM_k, if_neg (by omega)], fun b k b1 b2 b3 => ?_, fun b k b1 b2 => ?_, fun k k1 => ⟨?_, fun i i1 _ => ?_⟩, fun k k1 => ?_, fun i k i1 k1 z => ?_, by show 477 ≤ M.1 + 1; omega, ?_, ?_⟩, elj⟩
  · show (if b = M.1 then va_cpy _ _ 0 0 (gL M j) k else if b = M.1 then 0 else M.2.2.1 b k) = _
    rw [if_neg (by omega), if_neg (by omega)]
  · show (if b = 164 ∧ k = j then some M.1 else if b = M.1 then none else M.2.2.2.1 b k) = _
    rw [if_neg fun z : b = 164 ∧ k = j => b2 ⟨z.1, by rw [z.2]; exact j1⟩, if_neg (by omega)]
  · rw [el k k1]
    split
    · next z =>
      rw [z]
      omega
    · exact Nat.le_refl _
  · unfold gi
    rw [gM_ga g3]
    by_cases c : k = j
    · subst c
      rw [if_pos rfl, gM_c ej i1]
    · rw [if_neg c, gM_i (g1 k k1).2.2.2.2]
  · rw [gM_p g3, gM_ga g3, gM_k, el k k1]
    by_cases c : k = j
    · subst c
      rw [if_pos rfl, if_pos rfl, if_pos rfl, if_pos rfl, if_neg j67]
      refine ⟨rfl, rfl, ⟨by omega, h2⟩, Or.inl g3, Nat.lt_succ_self _⟩
    · obtain ⟨h1, h2, h3, h4, h5⟩ := g1 k k1
      rw [if_neg c, if_neg c, if_neg (by omega), if_neg c]
      exact ⟨h1, h2, h3, h4, Nat.lt_succ_of_lt h5⟩
  · have e1 := (g1 i i1).2.2.2.2
    have e2 := (g1 k k1).2.2.2.2
    rw [gM_ga g3, gM_ga g3] at z
    by_cases c : i = j
    · by_cases c2 : k = j
      · omega
      · rw [if_pos c, if_neg c2] at z
        omega
    · by_cases c2 : k = j
      · rw [if_neg c, if_pos c2] at z
        omega
      · rw [if_neg c, if_neg c2] at z
        exact g2 i k i1 k1 z
  · show 6200000 ≤ M.2.2.2.2.2 - y + 2 * gsum (gL (gM M j y)) gl
    omega
  · show 1000 ≤ M.2.2.2.2.1 - 1 + gsum (fun k => lg 40 (gL (gM M j y) k)) gl
    omega
theorem c_400 {j : Nat} {x1 : Int} (G : GA M) (j1 : j ∈ gl) (j67 : ¬ j = 67) (hx : x1 ≤ gcap j) (h0 : 0 ≤ x1) (hd : 2 ≤ d) : me_W (mt_G N X) 400 d 0 [some (.inr (.inl (some (ga M j), 0, gL M j))), some (.inl x1), none] [] M (sx_qP (fun o w M1 => w.1 = 0 ∧ gx P R M (me_sP M1 164 j o) ∧ x1 ≤ gL (me_sP M1 164 j o) j) nt_E) := by
  obtain ⟨rm1, rm2⟩ := G.room
  obtain ⟨aj, bj, cj, dj, ej⟩ := G.1 j j1
  have gc := gcap_le j
  refine b400_0 ⟨⟨by omega, by omega⟩, ⟨by omega, by omega⟩, fun z => ca_I (by omega) (c_160 ⟨by omega, by omega⟩ ⟨by omega, by omega⟩) (fun y M1 _ q => ?_) nt_E_no, fun z => ?_⟩
  · obtain ⟨rfl, q1, q2, q3⟩ := q
    have h2 : 2 * gL M1 j ≤ y.toNat := by omega
    have h3 : y.toNat ≤ 2 * gcap j := by omega
    obtain ⟨k1, k2⟩ := gx.gr (P := P) (R := R) (y := y.toNat) G j1 j67 h2 h3
    refine ⟨by omega, by omega, by omega, by omega, by omega, by omega, by omega, by omega, by omega, by omega, rfl, ?_⟩
    have e : ((gL M1 j : Nat) : Int).toNat = gL M1 j := by omega
    show gx P R M1 (me_sP (me_cp (me_nw M1 (0, y.toNat) y.toNat) (ga M1 j) M1.1 0 0 ((gL M1 j : Nat) : Int).toNat) 164 j (some M1.1)) ∧ x1 ≤ gL (me_sP (me_cp (me_nw M1 (0, y.toNat) y.toNat) (ga M1 j) M1.1 0 0 ((gL M1 j : Nat) : Int).toNat) 164 j (some M1.1)) j
    rw [e]
    refine ⟨k1, ?_⟩
    have k2 : gL (me_sP (me_cp (me_nw M1 (0, y.toNat) y.toNat) (ga M1 j) M1.1 0 0 (gL M1 j)) 164 j (some M1.1)) j = y.toNat := k2
    rw [k2]
    omega
  · refine ⟨rfl, ?_⟩
    rw [sP_self aj]
    exact ⟨gx.rf G, z⟩
end GROW
