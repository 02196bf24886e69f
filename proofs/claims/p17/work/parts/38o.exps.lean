/-! the reference's judge: exps, what holds of a node that is well typed -/
/-- what is known at a piece lo .. e: a param of h, or a local that a block tells before -/
def SC (A B : Nat → Nat → Int) (h lo e q : Nat) : Prop := B 3 q = (h : Int) ∧ (B 0 q = 3 ∨ B 0 q = 4 ∧ ∃ l, l < lo ∧ (e : Int) < A 8 l ∧ A 0 l = 21 ∧ A 2 l = (q : Int) ∧ A 0 (A 8 l).toNat = 20)
theorem SC.mo {A B : Nat → Nat → Int} {h lo e lo' e' q : Nat} (H : SC A B h lo e q) (h1 : lo ≤ lo') (h2 : e' ≤ e) : SC A B h lo' e' q := by
  obtain ⟨a, b⟩ := H
  refine ⟨a, b.imp id fun ⟨b1, l, l1, l2, l3⟩ => ⟨b1, l, by omega, by omega, l3⟩⟩
/-- q is a member of class c, or of one above -/
def ME8 (B : Nat → Nat → Int) (nx cn : Nat → Int) (m : Nat) (c : Int) (q : Nat) : Prop := ∃ i o : Nat, B 3 q = (o : Int) ∧ o < m ∧ cn o = (i : Int) ∧ up nx c i
/-- the arguments of k, from x on, fit the params of q -/
def AG (A B : Nat → Nat → Int) (nx T : Nat → Int) (k : Nat) (x : Int) (q : Nat) : Prop := ∃ ks, CHN A x ks ∧ (∀ a, a ∈ ks → A 8 a = k ∧ a < k) ∧ (ks.length : Int) = B 9 q ∧ AF nx T (B 8) (q + 1) ks
def WT (A B : Nat → Nat → Int) (nx cn : Nat → Int) (h hc m : Nat) (T mn : Nat → Int) (k : Nat) (y : Int) : Prop :=
  ((A 0 k = 1 ∨ A 0 k = 2 ∨ A 0 k = 3 ∨ A 0 k = 6) → y = 0 ∨ y = 1) ∧
  (A 0 k = 4 → y = 2) ∧
  (A 0 k = 5 → B 4 h = 0 ∧ y = 10 + hc) ∧
  (A 0 k = 7 → ∃ q : Nat, mn (A 4 k).toNat = (q : Int) ∧ q < m ∧ (B 0 q = 0 ∧ y = -5 ∧ 0 ≤ A 8 k ∧ (A 0 (A 8 k).toNat = 11 ∨ A 0 (A 8 k).toNat = 12) ∧ A 1 (A 8 k).toNat = k ∨ y = B 8 q ∧ (B 0 q = 1 ∧ (B 4 h = 0 ∨ B 4 q = 1) ∧ ME8 B nx cn m hc q ∨ SC A B h k k q))) ∧
  (A 0 k = 8 → ∃ q : Nat, mn (A 4 k).toNat = (q : Int) ∧ q < m ∧ B 0 q = 2 ∧ y = B 8 q ∧ (B 4 h = 0 ∨ B 4 q = 1) ∧ ME8 B nx cn m hc q ∧ AG A B nx T k (A 1 k) q) ∧
  (A 0 k = 9 → ∃ q i : Nat, mn (A 4 k).toNat = (q : Int) ∧ q < m ∧ B 0 q = 0 ∧ cn q = (i : Int) ∧ y = 10 + i) ∧
  (A 0 k = 10 → y = T (A 1 k).toNat) ∧
  (A 0 k = 11 → ∃ q : Nat, mn (A 4 k).toNat = (q : Int) ∧ q < m ∧ B 0 q = 1 ∧ y = B 8 q ∧ (T (A 1 k).toNat = -5 ∧ B 4 q = 1 ∨ B 4 q = 0 ∧ 10 ≤ T (A 1 k).toNat ∧ ME8 B nx cn m (T (A 1 k).toNat - 10) q)) ∧
  (A 0 k = 12 → ∃ q : Nat, mn (A 4 k).toNat = (q : Int) ∧ q < m ∧ B 0 q = 2 ∧ y = B 8 q ∧ (T (A 1 k).toNat = -5 ∧ B 4 q = 1 ∨ B 4 q = 0 ∧ 10 ≤ T (A 1 k).toNat ∧ ME8 B nx cn m (T (A 1 k).toNat - 10) q) ∧ AG A B nx T k (A 2 k) q) ∧
  (A 0 k = 13 ∨ A 0 k = 14 ∨ A 0 k = 15 → y = 0 ∨ y = 1)
theorem AF.eq {nx T T' b8 : Nat → Int} : ∀ {ks : List Nat} {q : Nat}, (∀ a, a ∈ ks → T' a = T a) → AF nx T b8 q ks → AF nx T' b8 q ks
  | [], _, _, _ => trivial
  | a :: r, q, e, h => ⟨by rw [e a List.mem_cons_self]; exact h.1, AF.eq (fun b b1 => e b (List.mem_cons_of_mem _ b1)) h.2⟩
section WTE
variable {A B : Nat → Nat → Int} {nx cn s : Nat → Int} {h hc m n D t k : Nat} {T T' mn mn' : Nat → Int} {y : Int} {hh : Nat → Int × Nat}
theorem AG.eq {x : Int} {q : Nat} (H : AG A B nx T k x q) (e : ∀ j : Nat, j < k → A 8 j = k → T' j = T j) : AG A B nx T' k x q := by
  obtain ⟨ks, h1, h2, h3, h4⟩ := H
  exact ⟨ks, h1, h2, h3, h4.eq fun a a1 => e a (h2 a a1).2 (h2 a a1).1⟩
/-- well typed stays well typed -/
theorem WT.eq {b : Nat → Int} (G : ∀ k, k < n → cl A b s 0 n D t (hh k) k) (hk : k < n) (H : WT A B nx cn h hc m T mn k y) (e : ∀ j : Nat, j < k → A 8 j = k → T' j = T j) (em : 0 ≤ A 4 k → mn' (A 4 k).toNat = mn (A 4 k).toNat) : WT A B nx cn h hc m T' mn' k y := by
  obtain ⟨h1, h2, h3, h4, h5, h6, h7, h8, h9, h10⟩ := H
  have G1 := G k hk
  obtain ⟨o, ⟨_, _, nm, _⟩, _, _, _, _, _, _, p1, _⟩ := G1
  have x1 : A 0 k = 10 ∨ A 0 k = 11 ∨ A 0 k = 12 → T' (A 1 k).toNat = T (A 1 k).toNat := fun z => by
    refine e _ ?_ ?_
    · rcases p1 with v | v
      · exfalso
        unfold opk ex at o
        omega
      · omega
    · rcases p1 with v | v
      · exfalso
        unfold opk ex at o
        omega
      · exact v.2.2
  refine ⟨h1, h2, h3, fun z => ?_, fun z => ?_, fun z => ?_, fun z => ?_, fun z => ?_, fun z => ?_, h10⟩
  · rw [em (by omega)]
    exact h4 z
  · rw [em (by omega)]
    obtain ⟨q, q1, q2, q3, q4, q5, q6, q7⟩ := h5 z
    exact ⟨q, q1, q2, q3, q4, q5, q6, q7.eq e⟩
  · rw [em (by omega)]
    exact h6 z
  · rw [x1 (by omega)]
    exact h7 z
  · rw [em (by omega), x1 (by omega)]
    exact h8 z
  · rw [em (by omega), x1 (by omega)]
    obtain ⟨q, q1, q2, q3, q4, q5, q6⟩ := h9 z
    exact ⟨q, q1, q2, q3, q4, q5, q6.eq e⟩
end WTE
/-- where judging the exp lo .. e changes ints -/
def rX (p : Nat) (A : Nat → Nat → Int) (lo e : Nat) : Nat → Nat → Prop := fun b j => b = p ∧ (j = 33 ∨ j = 34) ∨ b = p + 23 ∧ lo ≤ j ∧ j ≤ e ∨ b = p + 38 ∧ (∃ k, lo ≤ k ∧ k ≤ e ∧ A 4 k = (j : Int)) ∨ b = p + 42 ∨ b = p + 43
theorem rX_J {p : Nat} {A : Nat → Nat → Int} {lo e : Nat} : ∀ b j, rX p A lo e b j → rJ p b j := fun b j z => by
  unfold rJ
  rcases z with z | z | z | z | z <;> omega
theorem rX_mo {p : Nat} {A : Nat → Nat → Int} {lo e lo' e' : Nat} (h1 : lo ≤ lo') (h2 : e' ≤ e) : ∀ b j, rX p A lo' e' b j → rX p A lo e b j := fun b j z => by
  rcases z with z | z | ⟨z1, k, z2, z3, z4⟩ | z | z
  · exact Or.inl z
  · exact Or.inr (Or.inl ⟨z.1, by omega, by omega⟩)
  · exact Or.inr (Or.inr (Or.inl ⟨z1, k, by omega, by omega, z4⟩))
  · exact Or.inr (Or.inr (Or.inr (Or.inl z)))
  · exact Or.inr (Or.inr (Or.inr (Or.inr z)))
theorem rX_e {p : Nat} {A : Nat → Nat → Int} {lo e : Nat} : ∀ b j, (b = p ∧ (j = 33 ∨ j = 34)) → rX p A lo e b j := fun b j z => Or.inl z
/-- the member h of class hc is being judged -/
def EB (p C n m cl : Nat) (Φ : Nat → Nat) (Mb : me_M) (h hc : Nat) : Prop := JS p C n m cl Φ Mb ∧ h < m ∧ hc < cl
/-- at a piece lo .. e -/
def ES (p : Nat) (Mb : me_M) (h hc m kn lo e : Nat) (M : me_M) : Prop := fr (rJ p) Mb M ∧ (me_i M p 49 = (hc : Int) ∧ me_i M p 50 = tA p Mb 4 h ∧ me_i M p 51 = (h : Int)) ∧ (0 ≤ me_i M p 33 ∧ me_i M p 33 ≤ 14) ∧ KN p M m kn ∧ ∀ i q : Nat, i < kn → me_i M (p + 41) i = (q : Int) → SC (nA p Mb) (tA p Mb) h lo e q
/-- behind the exp lo .. e -/
def wt (p : Nat) (Mb : me_M) (h hc m : Nat) (M : me_M) (k : Nat) (y : Int) : Prop := WT (nA p Mb) (tA p Mb) (sp p Mb) (fun q => me_i Mb (p + 37) q) h hc m (nA p M 9) (fun j => me_i M (p + 38) j) k y
section ES
variable {p C n m cl h hc kn lo e lo' e' : Nat} {Φ : Nat → Nat} {Mb M M' : me_M}
theorem ES.js (E : EB p C n m cl Φ Mb h hc) (S : ES p Mb h hc m kn lo e M) : JS p C n m cl Φ M := E.1.fr S.1
theorem ES.A (S : ES p Mb h hc m kn lo e M) (i j : Nat) (hi : i < 11) (h9 : ¬ i = 9) : nA p M i j = nA p Mb i j := S.1.i (by unfold rJ; omega)
theorem ES.B (S : ES p Mb h hc m kn lo e M) (i j : Nat) (hi : i < 10) : tA p M i j = tA p Mb i j := S.1.i (by unfold rJ; omega)
theorem ES.sp (S : ES p Mb h hc m kn lo e M) : sp p M = sp p Mb := sp_fr S.1
theorem ES.sub (S : ES p Mb h hc m kn lo e M) (h1 : lo ≤ lo') (h2 : e' ≤ e) : ES p Mb h hc m kn lo' e' M := ⟨S.1, S.2.1, S.2.2.1, S.2.2.2.1, fun i q i1 i2 => (S.2.2.2.2 i q i1 i2).mo h1 h2⟩
theorem ES.fr {P : Nat → Nat → Prop} (S : ES p Mb h hc m kn lo e M) (f : fr P M M') (hP : ∀ b j, P b j → b = p ∧ (j = 33 ∨ j = 34) ∨ b = p + 23 ∨ b = p + 38 ∨ b = p + 42 ∨ b = p + 43) (he : 0 ≤ me_i M' p 33 ∧ me_i M' p 33 ≤ 14) : ES p Mb h hc m kn lo e M' := by
  have g := f.mo hP
  refine ⟨S.1.tr (g.mo fun b j z => by unfold rJ; omega), ⟨by rw [g.i (by omega)]; exact S.2.1.1, by rw [g.i (by omega)]; exact S.2.1.2.1, by rw [g.i (by omega)]; exact S.2.1.2.2⟩, he, S.2.2.2.1.fr g (by omega) (fun j _ => by omega) (fun j => by omega), fun i q i1 i2 => S.2.2.2.2 i q i1 (by rw [← g.i (by omega)]; exact i2)⟩
theorem rX_p {p : Nat} {A : Nat → Nat → Int} {lo e : Nat} : ∀ b j, rX p A lo e b j → b = p ∧ (j = 33 ∨ j = 34) ∨ b = p + 23 ∨ b = p + 38 ∨ b = p + 42 ∨ b = p + 43 := fun b j z => by
  rcases z with z | z | z | z | z <;> omega
/-- nodes lo .. hi - 1 are well typed -/
def WR (p : Nat) (Mb : me_M) (h hc m : Nat) (M : me_M) (lo hi : Nat) : Prop := ∀ k, lo ≤ k → k < hi → wt p Mb h hc m M k (nA p M 9 k)
/-- behind an exp: its type y, and all below it well typed when there is no error -/
def EP (p : Nat) (Mb : me_M) (m cl h hc lo e : Nat) (M : me_M) (y : Int) (M' : me_M) : Prop := fr (rX p (nA p Mb) lo e) M M' ∧ (0 ≤ me_i M' p 33 ∧ me_i M' p 33 ≤ 14) ∧ ty_x cl y ∧ nA p M' 9 e = y ∧ (me_i M' p 33 = 0 → me_i M p 33 = 0 ∧ ¬ y = -5 ∧ WR p Mb h hc m M' lo (e + 1))
end ES
