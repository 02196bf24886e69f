/-! the reference's parser: its state while exps are read -/
/-- what is told: 0 sort 1 name 2 type 3 owner 4 static 5 body 6 begin 7 end 8 told type 9 params -/
def tA (p : Nat) (M : me_M) (i j : Nat) : Int := me_i M (p + 25 + i) j
/-- where reading exps changes ints -/
def rE (p n0 : Nat) : Nat → Nat → Prop := fun b j => fF b j ∨ b = p ∧ (j = 4 ∨ j = 35 ∨ j = 37 ∨ j = 43 ∨ j = 45 ∨ j = 46) ∨ p + 14 ≤ b ∧ b ≤ p + 24 ∧ n0 ≤ j ∨ b = p + 40
theorem rE_mo {p n0 n1 : Nat} (h : n0 ≤ n1) : ∀ b j, rE p n1 b j → rE p n0 b j := fun b j z => by
  unfold rE at z ⊢
  rcases z with z | z | z | z
  · exact Or.inl z
  · exact Or.inr (Or.inl z)
  · exact Or.inr (Or.inr (Or.inl ⟨z.1, z.2.1, by omega⟩))
  · exact Or.inr (Or.inr (Or.inr z))
theorem rE_F {p n0 : Nat} : ∀ b j, fF b j → rE p n0 b j := fun _ _ z => Or.inl z
/-- before a reading -/
def pr (p : Nat) (s c : Nat → Int) (lim e0 : Nat) (h : Int × Nat) (M : me_M) (t n dp D : Nat) : Prop := pk p s c lim M ∧ me_i M p 35 = (t : Int) ∧ t ≤ e0 ∧ me_i M p 37 = (dp : Int) ∧ dp ≤ 21 ∧ me_i M p 4 = (n : Int) ∧ n ≤ t ∧ (me_i M p 38 = h.1 ∧ h.2 ≤ t) ∧ me_i M p 16 = (D : Int) ∧ ((20 < dp → s t = 4 ∧ (c t = 125 ∨ c t = 41)) ∧ h.1 < D)
/-- the names of the nodes lie in t0 .. t - 1, wait nowhere else, and are distinct -/
def NI (A : Nat → Nat → Int) (n0 n t0 t : Nat) (w : Nat → Prop) : Prop := (∀ m, n0 ≤ m → m < n → A 4 m = -1 ∨ (t0 : Int) ≤ A 4 m ∧ A 4 m < t ∧ ¬ w (A 4 m).toNat) ∧ ∀ m m', n0 ≤ m → m < m' → m' < n → A 4 m = A 4 m' → A 4 m = -1
theorem NI.nil {A : Nat → Nat → Int} {n0 t0 t : Nat} {w : Nat → Prop} : NI A n0 n0 t0 t w := ⟨fun m m1 m2 => by omega, fun m m' m1 m2 m3 => by omega⟩
theorem NI.eq {A A' : Nat → Nat → Int} {n0 n t0 t : Nat} {w : Nat → Prop} (H : NI A n0 n t0 t w) (e : ∀ m, n0 ≤ m → m < n → A' 4 m = A 4 m) : NI A' n0 n t0 t w := ⟨fun m m1 m2 => by
  rw [e m m1 m2]
  exact H.1 m m1 m2, fun m m' m1 m2 m3 => by
  rw [e m m1 (by omega), e m' (by omega) m3]
  exact H.2 m m' m1 m2 m3⟩
theorem NI.mo {A : Nat → Nat → Int} {n0 n t0 t t' : Nat} {w w' : Nat → Prop} (H : NI A n0 n t0 t w) (ht : t ≤ t') (hw : ∀ k, t0 ≤ k → k < t → w' k → w k) : NI A n0 n t0 t' w' := ⟨fun m m1 m2 => by
  rcases H.1 m m1 m2 with z | ⟨z1, z2, z3⟩
  · exact Or.inl z
  · exact Or.inr ⟨z1, by omega, fun v => z3 (hw _ (by omega) (by omega) v)⟩, H.2⟩
theorem NI.app {A : Nat → Nat → Int} {n0 n n1 t0 t t1 : Nat} {w w' w2 : Nat → Prop} (H : NI A n0 n t0 t w) (R : NI A n n1 t t1 w') (h0 : t0 ≤ t) (h1 : t ≤ t1) (hf : ∀ k, t0 ≤ k → k < t → w2 k → w k) (hg : ∀ k, t ≤ k → k < t1 → w2 k → w' k) : NI A n0 n1 t0 t1 w2 := by
  refine ⟨fun m m1 m2 => ?_, fun m m' m1 m2 m3 e => ?_⟩
  · by_cases c : m < n
    · rcases H.1 m m1 c with z | ⟨z1, z2, z3⟩
      · exact Or.inl z
      · exact Or.inr ⟨z1, by omega, fun v => z3 (hf _ (by omega) (by omega) v)⟩
    · rcases R.1 m (by omega) m2 with z | ⟨z1, z2, z3⟩
      · exact Or.inl z
      · exact Or.inr ⟨by omega, z2, fun v => z3 (hg _ (by omega) (by omega) v)⟩
  · by_cases c : m' < n
    · exact H.2 m m' m1 m2 c e
    · by_cases c2 : m < n
      · rcases H.1 m m1 c2 with z | z
        · exact z
        · rcases R.1 m' (by omega) m3 with y | y
          · rw [e]
            exact y
          · omega
      · exact R.2 m m' (by omega) m2 m3 e
theorem NI.lo {A : Nat → Nat → Int} {n0 n t0 t0' t : Nat} {w : Nat → Prop} (H : NI A n0 n t0 t w) (h : t0' ≤ t0) : NI A n0 n t0' t w := ⟨fun m m1 m2 => by
  rcases H.1 m m1 m2 with z | z
  · exact Or.inl z
  · exact Or.inr ⟨by omega, z.2⟩, H.2⟩
/-- since M0, where n0 nodes were and t0 was the token: now t, n; w: names that are read and have no node yet -/
def pe (p : Nat) (s : Nat → Int) (e0 : Nat) (h : Int × Nat) (D dp : Nat) (M0 : me_M) (n0 t0 : Nat) (w : Nat → Prop) (M : me_M) (t n : Nat) : Prop :=
  fr (rE p n0) M0 M ∧ me_i M p 35 = (t : Int) ∧ me_i M p 37 = (dp : Int) ∧ me_i M p 4 = (n : Int) ∧ (t0 ≤ t ∧ t ≤ e0) ∧ n0 ≤ n ∧ n + t0 ≤ n0 + t ∧ FR (nA p M) (tA p M 0) s n0 n D t h ∧ (∀ k, t0 ≤ k → k < t → s k = 1 → w k ∨ ∃ m, n0 ≤ m ∧ m < n ∧ nA p M 4 m = k) ∧ NI (nA p M) n0 n t0 t w
/-- the last node is the only root -/
def rt (A : Nat → Nat → Int) (n0 n t0 t : Nat) : Prop := n0 < n ∧ (∀ m, n0 ≤ m → m < n → A 8 m = -1 → m + 1 = n) ∧ A 8 (n - 1) = -1 ∧ A 7 (n - 1) = -1 ∧ A 5 (n - 1) = t0 ∧ A 6 (n - 1) = (t : Int) - 1
section PE
variable {p e0 D n0 t0 t n t1 n1 lim dp : Nat} {s c : Nat → Int} {h : Int × Nat} {M0 M M1 : me_M} {w w' : Nat → Prop}
theorem rE_8 (j : Nat) : ¬ rE p n0 (p + 8) j ∨ p ≤ 164 := by
  unfold rE fF
  omega
theorem pk_e (k : pk p s c lim M0) (hp : 164 < p) (f : fr (rE p n0) M0 M) : pk p s c lim M := by
  refine k.fr f (fun j => ?_) (fun j => ?_) ?_ ?_ <;> unfold rE fF <;> omega
theorem pr.st (P : pr p s c lim e0 h M0 t0 n0 dp D) : pe p s e0 h D dp M0 n0 t0 w M0 t0 n0 := ⟨fr.rf, P.2.1, P.2.2.2.1, P.2.2.2.2.2.1, ⟨Nat.le_refl _, P.2.2.1⟩, Nat.le_refl _, by omega, FR.nil, fun k k1 k2 => by omega, NI.nil⟩
theorem pe.pr {dp' : Nat} (Q : pe p s e0 h D dp M0 n0 t0 w M t n) (hp : 164 < p) (P : pr p s c lim e0 h M0 t0 n0 dp' D) (hd1 : dp ≤ 21) (hd : 20 < dp → s t = 4 ∧ (c t = 125 ∨ c t = 41)) : pr p s c lim e0 h M t n dp D := by
  obtain ⟨f, q1, q2, q3, q4, q5, q6, _⟩ := Q
  obtain ⟨k, _, _, _, _, _, p6, p7, p8, p9⟩ := P
  refine ⟨pk_e k hp f, q1, q4.2, q2, hd1, q3, by omega, ?_, ?_, hd, p9.2⟩
  · exact ⟨by rw [f.i (by unfold rE fF; omega), p7.1], by omega⟩
  · rw [f.i (by unfold rE fF; omega), p8]
theorem pe.pass (Q : pe p s e0 h D dp M0 n0 t0 w M t n) (hp : 164 < p) (ht : t < 2147483646) (he : t < e0) (hw : s t = 1 → w t) : pe p s e0 h D dp M0 n0 t0 w (pT M p t) (t + 1) n := by
  obtain ⟨f, q1, q2, q3, q4, q5, q6, q7, q8, q9⟩ := Q
  have f1 : fr (fun b j => b = p ∧ j = 35) M (pT M p t) := fr_sI ⟨rfl, rfl⟩
  have fA : ∀ i j, nA p (pT M p t) i j = nA p M i j := fun i j => f1.i (by omega)
  have fB : ∀ i j, tA p (pT M p t) i j = tA p M i j := fun i j => f1.i (by omega)
  refine ⟨f.tr (f1.mo fun b j z => Or.inr (Or.inl ⟨z.1, Or.inr (Or.inl z.2)⟩)), ?_, ?_, ?_, by omega, q5, by omega, ?_, fun k k1 k2 k3 => ?_, (q9.eq fun m _ _ => fA 4 m).mo (by omega) fun _ _ _ z => z⟩
  · show me_i (me_sI _ _ _ _) _ _ = _
    rw [me_i_sI, if_pos ⟨rfl, rfl⟩, me_to ⟨by omega, by omega⟩]
    omega
  · rw [f1.i (by omega), q2]
  · rw [f1.i (by omega), q3]
  · have F := q7.eq (A' := nA p (pT M p t)) (b' := tA p (pT M p t) 0) (fun i j _ _ _ => fA i j) fun j _ => fB 0 j
    intro m m1 m2
    obtain ⟨c1, c2, c3, c4⟩ := F m m1 m2
    exact ⟨c1, ⟨by have := c2.1; omega, c2.2⟩, ⟨c3.1, c3.2.1, by omega, c3.2.2.2⟩, c4⟩
  · by_cases e : k = t
    · subst e
      exact Or.inl (hw k3)
    · rcases q8 k k1 (by omega) k3 with z | ⟨m, z1, z2, z3⟩
      · exact Or.inl z
      · exact Or.inr ⟨m, z1, z2, by rw [fA]; exact z3⟩
theorem pe.deep {dp' : Nat} (Q : pe p s e0 h D dp M0 n0 t0 w M t n) (hp : 164 < p) (hd : dp' < 1000) : pe p s e0 h D dp' M0 n0 t0 w (me_sI M p 37 (Int32.ofInt (dp' : Int))) t n := by
  obtain ⟨f, q1, q2, q3, q4, q5, q6, q7, q8, q9⟩ := Q
  have f1 : fr (fun b j => b = p ∧ j = 37) M (me_sI M p 37 (Int32.ofInt (dp' : Int))) := fr_sI ⟨rfl, rfl⟩
  have fA : ∀ i j, nA p (me_sI M p 37 (Int32.ofInt (dp' : Int))) i j = nA p M i j := fun i j => f1.i (by omega)
  have fB : ∀ i j, tA p (me_sI M p 37 (Int32.ofInt (dp' : Int))) i j = tA p M i j := fun i j => f1.i (by omega)
  refine ⟨f.tr (f1.mo fun b j z => Or.inr (Or.inl ⟨z.1, Or.inr (Or.inr (Or.inl z.2))⟩)), ?_, ?_, ?_, q4, q5, q6, q7.eq (fun i j _ _ _ => fA i j) (fun j _ => fB 0 j), fun k k1 k2 k3 => ?_, q9.eq fun m _ _ => fA 4 m⟩
  · rw [f1.i (by omega), q1]
  · rw [me_i_sI, if_pos ⟨rfl, rfl⟩, me_to ⟨by omega, by omega⟩]
  · rw [f1.i (by omega), q3]
  · rcases q8 k k1 k2 k3 with z | ⟨m, z1, z2, z3⟩
    · exact Or.inl z
    · exact Or.inr ⟨m, z1, z2, by rw [fA]; exact z3⟩
/-- a reading behind a reading -/
theorem pe.seq {dp' : Nat} (hp : 164 < p) (Q : pe p s e0 h D dp M0 n0 t0 w M t n) (R : pe p s e0 h D dp' M n t w' M1 t1 n1) (hw : ∀ k, w' k → w k) (hf : ∀ k, t ≤ k → ¬ w k) : pe p s e0 h D dp' M0 n0 t0 w M1 t1 n1 := by
  obtain ⟨f, q1, q2, q3, q4, q5, q6, q7, q8, q9⟩ := Q
  obtain ⟨g, r1, r2, r3, r4, r5, r6, r7, r8, r9⟩ := R
  have fA : ∀ i j, i < 11 → j < n → nA p M1 i j = nA p M i j := fun i j _ _ => g.i (by unfold rE fF; omega)
  have fB : ∀ i j, i < 10 → tA p M1 i j = tA p M i j := fun i j _ => g.i (by unfold rE fF; omega)
  refine ⟨f.tr (g.mo (rE_mo q5)), r1, r2, r3, by omega, by omega, by omega, ?_, fun k k1 k2 k3 => ?_, (q9.eq fun m _ m2 => fA 4 m (by omega) m2).app r9 (by omega) (by omega) (fun _ _ _ z => z) fun k k1 _ z => absurd z (hf k k1)⟩
  · exact (q7.eq (fun i j i1 _ j2 => fA i j i1 j2) fun j _ => fB 0 j (by omega)).app r7 q5 r5 (Nat.le_refl _) (by omega)
  · by_cases e : k < t
    · rcases q8 k k1 e k3 with z | ⟨m, z1, z2, z3⟩
      · exact Or.inl z
      · exact Or.inr ⟨m, z1, by omega, by rw [fA 4 m (by omega) z2]; exact z3⟩
    · rcases r8 k (by omega) k2 k3 with z | ⟨m, z1, z2, z3⟩
      · exact Or.inl (hw k z)
      · exact Or.inr ⟨m, by omega, z2, z3⟩
theorem pe.keep (hp : 164 < p) (R : pe p s e0 h D dp M n t w' M1 t1 n1) {i j : Nat} (hi : i < 11) (hj : j < n) : nA p M1 i j = nA p M i j := R.1.i (by unfold rE fF; omega)
theorem pe.wk (Q : pe p s e0 h D dp M0 n0 t0 w M t n) (hw : ∀ k, w k → w' k) (hn : ∀ k, t0 ≤ k → k < t → w' k → w k) : pe p s e0 h D dp M0 n0 t0 w' M t n := ⟨Q.1, Q.2.1, Q.2.2.1, Q.2.2.2.1, Q.2.2.2.2.1, Q.2.2.2.2.2.1, Q.2.2.2.2.2.2.1, Q.2.2.2.2.2.2.2.1, fun k k1 k2 k3 => (Q.2.2.2.2.2.2.2.2.1 k k1 k2 k3).imp (hw k) id, Q.2.2.2.2.2.2.2.2.2.mo (Nat.le_refl _) hn⟩
end PE
/-- the roots there are -/
def RL (A : Nat → Nat → Int) (n0 n : Nat) (L : List Nat) : Prop := (∀ k, n0 ≤ k → k < n → A 8 k = -1 → k ∈ L) ∧ ∀ k, k ∈ L → n0 ≤ k ∧ k < n ∧ A 8 k = -1 ∧ A 7 k = -1
section RLT
variable {p e0 D dp dp' n0 t0 t n t1 n1 : Nat} {s : Nat → Int} {h : Int × Nat} {M0 M M1 : me_M} {w w' : Nat → Prop} {A A' : Nat → Nat → Int} {L L' : List Nat}
theorem RL.nil : RL A n0 n0 [] := ⟨fun _ _ _ => by omega, fun k z => by cases z⟩
theorem RL.eq (R : RL A n0 n L) (e : ∀ i j, i < 11 → j < n → A' i j = A i j) : RL A' n0 n L := ⟨fun k k1 k2 k3 => R.1 k k1 k2 (by rw [← e 8 k (by omega) k2]; exact k3), fun k z => by
  obtain ⟨z1, z2, z3, z4⟩ := R.2 k z
  exact ⟨z1, z2, by rw [e 8 k (by omega) z2]; exact z3, by rw [e 7 k (by omega) z2]; exact z4⟩⟩
theorem RL.eq' (R : RL A n0 n L) (e : ∀ i j, i < 11 → n0 ≤ j → j < n → A' i j = A i j) : RL A' n0 n L := ⟨fun k k1 k2 k3 => R.1 k k1 k2 (by rw [← e 8 k (by omega) k1 k2]; exact k3), fun k z => by
  obtain ⟨z1, z2, z3, z4⟩ := R.2 k z
  exact ⟨z1, z2, by rw [e 8 k (by omega) z1 z2]; exact z3, by rw [e 7 k (by omega) z1 z2]; exact z4⟩⟩
theorem RL.seq (R : RL A n0 n L) (R' : RL A n n1 L') (h0 : n0 ≤ n) (h1 : n ≤ n1) : RL A n0 n1 (L ++ L') := ⟨fun k k1 k2 k3 => by
  by_cases c : k < n
  · exact List.mem_append_left _ (R.1 k k1 c k3)
  · exact List.mem_append_right _ (R'.1 k (by omega) k2 k3), fun k z => by
  rcases List.mem_append.mp z with z | z
  · have := R.2 k z
    exact ⟨this.1, by omega, this.2.2⟩
  · have := R'.2 k z
    exact ⟨by omega, this.2⟩⟩
theorem pT_A (p t : Nat) (M : me_M) (i j : Nat) : nA p (pT M p t) i j = nA p M i j := by
  have f1 : fr (fun b j => b = p ∧ j = 35) M (pT M p t) := fr_sI ⟨rfl, rfl⟩
  exact f1.i (by omega)
theorem dp_A (p : Nat) (M : me_M) (x : Int32) (i j : Nat) : nA p (me_sI M p 37 x) i j = nA p M i j := by
  have f1 : fr (fun b j => b = p ∧ j = 37) M (me_sI M p 37 x) := fr_sI ⟨rfl, rfl⟩
  exact f1.i (by omega)
end RLT
section PN
variable {N : Nat} {X : Nat → Int32} {d p e0 D n0 t0 t n dp : Nat} {s : Nat → Int} {h : Int × Nat} {M0 M : me_M} {w w' : Nat → Prop} {x1 x2 x3 x4 x5 : Int}
/-- a node whose parts are all roots there are -/
theorem pe_node (hd : 1 ≤ d) (hp : 164 < p) (Q : pe p s e0 h D dp M0 n0 t0 w M t n) (h8 : n < 4816) (ht : t < 2408) (t1 : t0 < t) (hn : n + t0 < n0 + t) (hm : me_i M p 38 = h.1 ∧ h.2 ≤ t0) (r1 : me_r x1) (r2 : me_r x2) (r3 : me_r x3) (r4 : me_r x4) (r5 : me_r x5)
    (k1 : opk (nA p M) x1 x2 x3 x4) (k2 : nmk s t x1 x5) (k5 : x1 = 21 → x3 < D ∧ tA p M 0 x3.toNat = 4 ∧ h.1 < x3)
    (q1 : x2 = -1 ∨ (n0 : Int) ≤ x2 ∧ x2 < n ∧ nA p M 8 x2.toNat = -1) (q2 : ¬ x1 = 21 → x3 = -1 ∨ (n0 : Int) ≤ x3 ∧ x3 < n ∧ nA p M 8 x3.toNat = -1) (q3 : ¬ x1 = 15 → x4 = -1 ∨ (n0 : Int) ≤ x4 ∧ x4 < n ∧ nA p M 8 x4.toNat = -1)
    (q4 : ∀ k, n0 ≤ k → k < n → nA p M 8 k = -1 → (k : Int) = x2 ∨ ¬ x1 = 21 ∧ (k : Int) = x3 ∨ ¬ x1 = 15 ∧ (k : Int) = x4 ∨ ∃ j, n0 ≤ j ∧ j < k ∧ nA p M 8 j = -1 ∧ nA p M 7 j = k)
    (q5 : ∀ k, n0 ≤ k → k < n → nA p M 8 k = -1 → nA p M 7 k = -1 ∨ (x1 = 8 ∨ x1 = 12 ∨ x1 = 20) ∧ (x1 = 12 → ¬ x2 = k)) (hw : ∀ k, w k → w' k ∨ x5 = (k : Int)) (hnx : x5 = -1 ∨ (t0 : Int) ≤ x5 ∧ ¬ w' x5.toNat ∧ ∀ m, n0 ≤ m → m < n → ¬ nA p M 4 m = x5) (hw2 : ∀ k, w' k → w k) (kc : x1 = 8 ∨ x1 = 12 → x5 + 3 ≤ t) :
    me_W (mt_G N X) 317 d 0 [some (.inr (.inl (some p, 29, 0))), some (.inl x1), some (.inl x2), some (.inl x3), some (.inl x4), some (.inl x5), some (.inl (t0 : Int)), none] [] M (sx_qI (fun y M' => y = (n : Int) ∧ pe p s e0 h D dp M0 n0 t0 w' M' t (n + 1) ∧ rt (nA p M') n0 (n + 1) t0 t ∧ nA p M' 0 n = x1 ∧ nA p M' 2 n = x3 ∧ fr (rE p n0) M M' ∧ ∀ i j, i < 11 → ¬ i = 8 → j < n → nA p M' i j = nA p M i j) nt_E) := by
  obtain ⟨f, e1, e2, e3, e4, e5, e6, e7, e8, e9⟩ := Q
  have hx : ∀ j, (if j = n then -1 else nA p M 7 j) = (fun j => if j = n then -1 else nA p M 7 j) j := fun _ => rfl
  generalize (fun j => if j = n then -1 else nA p M 7 j) = nx at hx
  have hroot : ∀ j, (n0 ≤ j ∧ j < n ∧ nA p M 8 j = -1) → 0 ≤ nx j → (n0 ≤ (nx j).toNat ∧ (nx j).toNat < n ∧ nA p M 8 (nx j).toNat = -1) := fun j ⟨j1, j2, j3⟩ j4 => by
    rw [← hx j, if_neg (by omega)] at j4 ⊢
    obtain ⟨_, _, _, _, _, _, _, c8, _⟩ := e7 j j1 j2
    rcases c8 with z | z
    · omega
    · refine ⟨by omega, by omega, ?_⟩
      rw [z.2.2.1, j3]
  have hst : ∀ (x : Int) (j : Nat), (x = -1 ∨ (n0 : Int) ≤ x ∧ x < n ∧ nA p M 8 x.toNat = -1) → rc nx x j → (n0 ≤ j ∧ j < n ∧ nA p M 8 j = -1) := fun x j z ⟨m, hm⟩ => rc_ind hroot m x (fun x0 => by
    rcases z with z | z
    · omega
    · exact ⟨by omega, by omega, z.2.2⟩) j hm
  have yz : ¬ (x1 = 8 ∨ x1 = 9 ∨ x1 = 11 ∨ x1 = 21) → ¬ x1 = 21 := by omega
  have how : ∀ j, ow nx x1 x2 x3 x4 j → (n0 ≤ j ∧ j < n ∧ nA p M 8 j = -1) := fun j z => by
    rcases z with z | z | z
    · exact hst _ j q1 z
    · exact hst _ j (q2 (yz z.1)) z.2
    · exact hst _ j (q3 z.1) z.2
  have hyn : (x1 = 8 ∨ x1 = 9 ∨ x1 = 11) → x3 = -1 := fun z => by
    unfold opk at k1
    omega
  have hall : ∀ (b j : Nat), j < b → n0 ≤ j → j < n → nA p M 8 j = -1 → ow nx x1 x2 x3 x4 j := by
    intro b
    induction b with
    | zero => intro j z; omega
    | succ b ih =>
      intro j _ j1 j2 j3
      rcases q4 j j1 j2 j3 with z | z | z | ⟨i, z1, z2, z3, z4⟩
      · exact Or.inl (z ▸ rc_self)
      · exact Or.inr (Or.inl ⟨by omega, z.2 ▸ rc_self⟩)
      · exact Or.inr (Or.inr ⟨z.1, z.2 ▸ rc_self⟩)
      · have st : nx i = j := by rw [← hx i, if_neg (by omega), z4]
        rcases ih i (by omega) z1 (by omega) z3 with v | v | v
        · exact Or.inl (rc_step v st)
        · exact Or.inr (Or.inl ⟨v.1, rc_step v.2 st⟩)
        · exact Or.inr (Or.inr ⟨v.1, rc_step v.2 st⟩)
  refine nd_317 hd e3 h8 e1 r1 r2 r3 r4 r5 ⟨by omega, by omega⟩ ⟨by omega, by omega⟩ nx hx (fun j z => ?_) fun M' g => ?_
  · have hj := how j z
    refine ⟨hj.2.1, ?_⟩
    rw [← hx j, if_neg (by omega)]
    obtain ⟨_, _, _, _, _, _, _, c8, _⟩ := e7 j hj.1 hj.2.1
    omega
  obtain ⟨g1, g2, g3, g4, g5⟩ := g
  have fE : fr (rE p n0) M M' := ⟨g1.1, g1.2.1, g1.2.2.1, fun b j nb => by
    by_cases c : b = p + 22 ∧ j < n
    · obtain ⟨rfl, c⟩ := c
      have := g5 j (by omega) fun z => nb (Or.inr (Or.inr (Or.inl ⟨by omega, by omega, (how j z).1⟩)))
      exact Int32.toInt_inj.mp this
    · refine g1.2.2.2 b j fun z => nb ?_
      rcases z with z | z | z
      · exact Or.inr (Or.inl ⟨z.1, Or.inl z.2⟩)
      · exact Or.inr (Or.inr (Or.inl ⟨z.1, z.2.1, by omega⟩))
      · exact absurd z c⟩
  have eN : ∀ i j, i < 11 → ¬ i = 8 → j < n → nA p M' i j = nA p M i j := fun i j i1 i2 j1 => g1.i (by omega)
  have v : ∀ i, i < 11 → nA p M' i n = nv x1 x2 x3 x4 x5 t0 ((t : Int) - 1) (me_i M p 38) i := g3
  have v0 : nA p M' 0 n = x1 := v 0 (by omega)
  have v1 : nA p M' 1 n = x2 := v 1 (by omega)
  have v2 : nA p M' 2 n = x3 := v 2 (by omega)
  have v3 : nA p M' 3 n = x4 := v 3 (by omega)
  have v4 : nA p M' 4 n = x5 := v 4 (by omega)
  have v5 : nA p M' 5 n = t0 := v 5 (by omega)
  have v6 : nA p M' 6 n = (t : Int) - 1 := v 6 (by omega)
  have v7 : nA p M' 7 n = -1 := v 7 (by omega)
  have v8 : nA p M' 8 n = -1 := v 8 (by omega)
  have hm2 := hm.2
  have v10 : nA p M' 10 n = h.1 := (v 10 (by omega)).trans hm.1
  have R1 : ∀ j, n0 ≤ j → j < n → nA p M 8 j = -1 → nA p M' 8 j = n := fun j j1 j2 j3 => g4 j (hall (j + 1) j (by omega) j1 j2 j3)
  have R2 : ∀ j, n0 ≤ j → j < n → ¬ nA p M 8 j = -1 → nA p M' 8 j = nA p M 8 j := fun j j1 j2 j3 => g5 j (by omega) fun z => j3 (how j z).2.2
  refine ⟨rfl, ⟨f.tr fE, by rw [g1.i (by omega), e1], by rw [g1.i (by omega), e2], g2, e4, by omega, by omega, ?_, fun k a1 a2 a3 => ?_, ⟨fun m m1 m2 => ?_, fun m m' m1 m2 m3 em => ?_⟩⟩, ⟨by omega, fun m m1 m2 m3 => ?_, v8, v7, v5, v6⟩, v0, v2, fE, eN⟩
  · have F := e7.node (A' := nA p M') (T' := t) e5 (Nat.le_refl _) (fun i j i1 i2 _ j2 => eN i j i1 i2 j2) R1 R2
    rw [v0, v1, v2, v3, v4, v5, v6, v7, v8, v10] at F
    exact (F k1 k2 ⟨by omega, by omega, by omega, (by
      rcases hnx with z | z
      · exact Or.inl z
      · exact Or.inr ⟨z.1, by have := k2.1; omega⟩), fun z => by have := kc z; omega⟩ rfl k5 rfl rfl q1 q2 q3 q4 q5).eq (fun _ _ _ _ _ => rfl) fun j _ => g1.i (by omega)
  · rcases e8 k a1 a2 a3 with z | ⟨m, z1, z2, z3⟩
    · rcases hw k z with z | z
      · exact Or.inl z
      · exact Or.inr ⟨n, e5, by omega, by rw [v4, z]⟩
    · exact Or.inr ⟨m, z1, by omega, by rw [eN 4 m (by omega) (by omega) z2]; exact z3⟩
  · by_cases c : m = n
    · rw [c, v4]
      rcases hnx with z | z
      · exact Or.inl z
      · exact Or.inr ⟨z.1, k2.1, z.2.1⟩
    · rw [eN 4 m (by omega) (by omega) (by omega)]
      rcases e9.1 m m1 (by omega) with z | z
      · exact Or.inl z
      · exact Or.inr ⟨z.1, z.2.1, fun y => z.2.2 (hw2 _ y)⟩
  · rw [eN 4 m (by omega) (by omega) (by omega)] at em ⊢
    by_cases c : m' = n
    · rw [c, v4] at em
      rcases hnx with z | z
      · rw [em, z]
      · exact absurd em (z.2.2 m m1 (by omega))
    · rw [eN 4 m' (by omega) (by omega) (by omega)] at em
      exact e9.2 m m' m1 m2 (by omega) em
  · by_cases c : m = n
    · omega
    · by_cases c2 : nA p M 8 m = -1
      · rw [R1 m m1 (by omega) c2] at m3
        omega
      · rw [R2 m m1 (by omega) c2] at m3
        exact absurd m3 c2
/-- a node, from a list of the roots -/
theorem pe_nodeL {L : List Nat} (hd : 1 ≤ d) (hp : 164 < p) (Q : pe p s e0 h D dp M0 n0 t0 w M t n) (R : RL (nA p M) n0 n L) (h8 : n < 4816) (ht : t < 2408) (t1 : t0 < t) (hn : n + t0 < n0 + t) (hm : me_i M p 38 = h.1 ∧ h.2 ≤ t0) (r1 : me_r x1) (r4 : me_r x4)
    (k1 : opk (nA p M) x1 x2 x3 x4) (k2 : nmk s t x1 x5) (r3 : me_r x3) (k5 : x1 = 21 → x3 < D ∧ tA p M 0 x3.toNat = 4 ∧ h.1 < x3)
    (q1 : x2 = -1 ∨ 0 ≤ x2 ∧ x2.toNat ∈ L) (q2 : ¬ x1 = 21 → x3 = -1 ∨ 0 ≤ x3 ∧ x3.toNat ∈ L) (q3 : ¬ x1 = 15 → x4 = -1 ∨ 0 ≤ x4 ∧ x4.toNat ∈ L)
    (q4 : ∀ k, k ∈ L → (k : Int) = x2 ∨ ¬ x1 = 21 ∧ (k : Int) = x3 ∨ ¬ x1 = 15 ∧ (k : Int) = x4) (hw : ∀ k, w k → w' k ∨ x5 = (k : Int)) (hnx : x5 = -1 ∨ (t0 : Int) ≤ x5 ∧ ¬ w' x5.toNat ∧ ∀ m, n0 ≤ m → m < n → ¬ nA p M 4 m = x5) (hw2 : ∀ k, w' k → w k) (kc : x1 = 8 ∨ x1 = 12 → x5 + 3 ≤ t) :
    me_W (mt_G N X) 317 d 0 [some (.inr (.inl (some p, 29, 0))), some (.inl x1), some (.inl x2), some (.inl x3), some (.inl x4), some (.inl x5), some (.inl (t0 : Int)), none] [] M (sx_qI (fun y M' => y = (n : Int) ∧ pe p s e0 h D dp M0 n0 t0 w' M' t (n + 1) ∧ RL (nA p M') n0 (n + 1) [n] ∧ nA p M' 0 n = x1 ∧ nA p M' 2 n = x3 ∧ nA p M' 5 n = t0 ∧ nA p M' 6 n = (t : Int) - 1 ∧ fr (rE p n0) M M' ∧ ∀ i j, i < 11 → ¬ i = 8 → j < n → nA p M' i j = nA p M i j) nt_E) := by
  have cv : ∀ x : Int, (x = -1 ∨ 0 ≤ x ∧ x.toNat ∈ L) → x = -1 ∨ (n0 : Int) ≤ x ∧ x < n ∧ nA p M 8 x.toNat = -1 := fun x z => by
    rcases z with z | z
    · exact Or.inl z
    · obtain ⟨v1, v2, v3, _⟩ := R.2 _ z.2
      exact Or.inr ⟨by omega, by omega, v3⟩
  have rr : ∀ x : Int, (x = -1 ∨ (n0 : Int) ≤ x ∧ x < n ∧ nA p M 8 x.toNat = -1) → me_r x := fun x z => by
    rcases z with z | z
    · exact ⟨by omega, by omega⟩
    · exact ⟨by omega, by omega⟩
  have r5 : me_r x5 := by
    unfold nmk at k2
    by_cases c : x1 = 1 ∨ x1 = 7 ∨ x1 = 8 ∨ x1 = 9 ∨ x1 = 11 ∨ x1 = 12 ∨ x1 = 16
    · have : 0 ≤ x5 := by omega
      exact ⟨by omega, by omega⟩
    · have : x5 = -1 := by omega
      exact ⟨by omega, by omega⟩
  refine (pe_node (w' := w') hd hp Q h8 ht t1 hn hm r1 (rr _ (cv _ q1)) r3 r4 r5 k1 k2 k5 (cv _ q1) (fun z => cv _ (q2 z)) (fun z => cv _ (q3 z)) (fun k a1 a2 a3 => ?_) (fun k a1 a2 a3 => Or.inl (R.2 k (R.1 k a1 a2 a3)).2.2.2) hw hnx hw2 kc).mono fun o M' _ g => ?_
  · rcases q4 k (R.1 k a1 a2 a3) with z | z | z
    · exact Or.inl z
    · exact Or.inr (Or.inl z)
    · exact Or.inr (Or.inr (Or.inl z))
  · rcases o with a | _ | x | ⟨q, u⟩ | j <;> first | exact g.elim | skip
    obtain ⟨g1, g2, g3, g4, g5, g6⟩ := g
    refine ⟨g1, g2, ⟨fun k a1 a2 a3 => ?_, fun k z => ?_⟩, g4, g5, g3.2.2.2.2.1, g3.2.2.2.2.2, g6⟩
    · have := g3.2.1 k a1 a2 a3
      rw [show k = n by omega]
      exact List.mem_singleton.mpr rfl
    · rw [List.mem_singleton.mp z]
      exact ⟨by have := g3.1; omega, by omega, g3.2.2.1, g3.2.2.2.1⟩
end PN
