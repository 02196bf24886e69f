/-! the reference's parser: a program that was read -/
/-- what member d's class is -/
def oc (B : Nat → Nat → Int) (d : Nat) : Prop := 0 ≤ B 3 d ∧ B 3 d < d ∧ B 0 (B 3 d).toNat = 0 ∧ ∀ j : Nat, B 3 d < (j : Int) → j ≤ d → ¬ B 0 j = 0
/-- what a param's or local's method is -/
def om (B : Nat → Nat → Int) (d : Nat) : Prop := 0 ≤ B 3 d ∧ B 3 d < d ∧ B 0 (B 3 d).toNat = 2 ∧ ∀ j : Nat, B 3 d < (j : Int) → j ≤ d → 3 ≤ B 0 j
/-- what is told at d -/
def td (A B : Nat → Nat → Int) (s c : Nat → Int) (Φ : Nat → Nat) (n D t d : Nat) : Prop :=
  ((Φ (B 7 d).toNat : Int) ≤ B 6 d ∧ B 6 d ≤ B 1 d ∧ B 1 d ≤ B 7 d ∧ B 7 d < t ∧ s (B 1 d).toNat = 1) ∧ (B 4 d = 0 ∨ B 4 d = 1) ∧
  (B 0 d = 0 ∧ (B 2 d = -1 ∨ 0 ≤ B 2 d ∧ B 2 d ≤ B 7 d ∧ s (B 2 d).toNat = 1) ∧ B 3 d = -1 ∧ B 4 d = 0 ∧ B 5 d = -1 ∧ B 9 d = 0 ∨
  B 0 d = 1 ∧ (0 ≤ B 2 d ∧ B 2 d < B 1 d ∧ g_ty s c (B 2 d).toNat) ∧ oc B d ∧ (B 5 d = -1 ∨ 0 ≤ B 5 d ∧ B 5 d < n ∧ A 8 (B 5 d).toNat = -1 ∧ ex A (B 5 d) ∧ A 10 (B 5 d).toNat = d) ∧ B 9 d = 0 ∨
  B 0 d = 2 ∧ (0 ≤ B 2 d ∧ B 2 d < B 1 d ∧ (g_ty s c (B 2 d).toNat ∨ s (B 2 d).toNat = 3 ∧ c (B 2 d).toNat = 5)) ∧ oc B d ∧ (0 ≤ B 5 d ∧ B 5 d < n ∧ A 8 (B 5 d).toNat = -1 ∧ A 0 (B 5 d).toNat = 20 ∧ A 10 (B 5 d).toNat = d) ∧ (0 ≤ B 9 d ∧ B 9 d ≤ 8 ∧ d + B 9 d < D ∧ B 1 d + 2 ≤ B 7 d ∧ ∀ i : Nat, (i : Int) < B 9 d → B 0 (d + 1 + i) = 3 ∧ B 3 (d + 1 + i) = d ∧ B 1 (d + 1 + i) < B 7 d) ∨
  B 0 d = 3 ∧ (0 ≤ B 2 d ∧ B 2 d < B 1 d ∧ g_ty s c (B 2 d).toNat) ∧ om B d ∧ d ≤ B 3 d + B 9 (B 3 d).toNat ∧ B 4 d = 0 ∧ B 5 d = -1 ∧ B 9 d = 0 ∨
  B 0 d = 4 ∧ (0 ≤ B 2 d ∧ B 2 d < B 1 d ∧ g_ty s c (B 2 d).toNat) ∧ om B d ∧ B 4 d = 0 ∧ (0 ≤ B 5 d ∧ B 5 d < n ∧ A 0 (B 5 d).toNat = 21 ∧ A 2 (B 5 d).toNat = d ∧ A 10 (B 5 d).toNat = B 3 d) ∧ B 9 d = 0)
/-- how many members are told -/
def mcn (B : Nat → Nat → Int) : Nat → Nat
  | 0 => 0
  | D + 1 => mcn B D + if B 0 D = 1 ∨ B 0 D = 2 then 1 else 0
theorem mcn_eq {B B' : Nat → Nat → Int} : ∀ (D : Nat), (∀ j, j < D → B' 0 j = B 0 j) → mcn B' D = mcn B D
  | 0, _ => rfl
  | D + 1, e => by rw [mcn, mcn, mcn_eq D fun j j1 => e j (by omega), e D (by omega)]
theorem mcn_no {B : Nat → Nat → Int} {m : Nat} : ∀ (D : Nat), m ≤ D → (∀ j, m ≤ j → j < D → ¬ (B 0 j = 1 ∨ B 0 j = 2)) → mcn B D = mcn B m
  | 0, h, _ => by rw [show m = 0 by omega]
  | D + 1, h, e => by
    by_cases z : m = D + 1
    · rw [z]
    · rw [mcn, if_neg (e D (by omega) (by omega)), mcn_no D (by omega) fun j j1 j2 => e j j1 (by omega)]
      rfl
theorem mcn_one {B : Nat → Nat → Int} {m D : Nat} (h : m < D) (e : ∀ j, m < j → j < D → ¬ (B 0 j = 1 ∨ B 0 j = 2)) : mcn B D ≤ mcn B m + 1 := by
  rw [mcn_no (m := m + 1) D h fun j j1 j2 => e j (by omega) j2, mcn]
  split <;> omega
/-- the tellings' tokens lie in order -/
def TI (B : Nat → Nat → Int) (D t : Nat) : Prop := (∀ d, d < D → B 1 d < t ∧ B 2 d < t ∧ ¬ B 2 d = B 1 d) ∧ ∀ d d', d < d' → d' < D → B 1 d < B 1 d' ∧ B 2 d < B 1 d' ∧ (B 2 d' = -1 ∨ B 1 d < B 2 d' ∧ B 2 d < B 2 d')
/-- n nodes, D tellings, t tokens; u: the class that is being read, or D when none -/
def PG (A B : Nat → Nat → Int) (s c : Nat → Int) (Φ : Nat → Nat) (n D t u : Nat) : Prop :=
  (∀ m, m < n → cl A (B 0) s 0 n D t (A 10 m, (B 6 (A 10 m).toNat).toNat) m ∧ (0 ≤ A 10 m ∧ A 10 m < D ∧ (B 0 (A 10 m).toNat = 1 ∨ B 0 (A 10 m).toNat = 2)) ∧ (A 8 m = -1 → A 7 m = -1 ∧ ∃ d, d < D ∧ (B 0 d = 1 ∨ B 0 d = 2) ∧ B 5 d = m) ∧ A 6 m ≤ B 7 (A 10 m).toNat ∧ (0 ≤ A 8 m → A 10 (A 8 m).toNat = A 10 m) ∧ (A 0 m = 21 → B 3 (A 2 m).toNat = A 10 m) ∧ B 5 (A 10 m).toNat < m + 601) ∧
  (∀ d, d < D → ¬ d = u → td A B s c Φ n D t d) ∧
  (u < D → B 0 u = 0 ∧ ∀ j, u < j → j < D → ¬ B 0 j = 0) ∧
  (∀ k, k < t → s k = 1 → (∃ m, m < n ∧ A 4 m = k) ∨ ∃ d, d < D ∧ (B 1 d = k ∨ B 2 d = k)) ∧ NI A 0 n 0 t (tc B 0 D) ∧ TI B D t
section PGT
variable {A A' B B' : Nat → Nat → Int} {s c : Nat → Int} {Φ : Nat → Nat} {n n' D D' t t' u m : Nat}
theorem cl.mo {b b' : Nat → Int} {lo hi dhi dhi' T T' : Nat} {h : Int × Nat} {k : Nat} (F : cl A b s lo hi dhi T h k) (l1 : lo ≤ k) (l2 : k < hi) {hi' : Nat} (h1 : hi ≤ hi') (h2 : dhi ≤ dhi') (h3 : T ≤ T') (e : ∀ i j, i < 11 → lo ≤ j → j < hi → A' i j = A i j) (eb : ∀ j, j < dhi → b' j = b j) (z : ∀ j, j < lo → A' 8 j = -1 ∨ A' 8 j < lo) : cl A' b' s 0 hi' dhi' T' (A' 10 k, h.2) k := by
  have F1 : cl A' b' s lo hi dhi T h k := by
    obtain ⟨c1, c2, c3, c4, c5, c6, c7, c8, c9, c10, c11, c12⟩ := F
    have E := fun i (hi : i < 11) => e i k hi l1 l2
    have P : ∀ x, part A lo k x → 0 ≤ x → ∀ i, i < 11 → A' i x.toNat = A i x.toNat := fun x z z0 i hi => by
      rcases z with z | z
      · omega
      · exact e i _ hi (by omega) (by omega)
    have pm : ∀ x, part A lo k x → part A' lo k x := fun x z => by
      rcases z with z | z
      · exact Or.inl z
      · refine Or.inr ⟨z.1, z.2.1, ?_⟩
        rw [e 8 _ (by omega) (by omega) (by omega)]
        exact z.2.2
    unfold cl
    rw [E 0 (by omega), E 1 (by omega), E 2 (by omega), E 3 (by omega), E 4 (by omega), E 5 (by omega), E 6 (by omega), E 7 (by omega), E 8 (by omega), E 10 (by omega)]
    refine ⟨opk.eq (fun z => P _ c9 z 0 (by omega)) (fun w z => P _ (c10 w) z 0 (by omega)) (fun w z => P _ (c11 w) z 0 (by omega)) c1, c2, c3, c4, fun z => ⟨(c5 z).1, ?_⟩, c6, fun j j1 j2 => ?_, ?_, pm _ c9, fun z => pm _ (c10 z), fun z => pm _ (c11 z), fun x k1 k2 k3 => ?_⟩
    · rw [eb _ ?_]
      · exact (c5 z).2
      · have z1 := (c5 z).1
        have z2 : 0 ≤ A 2 k := by
          unfold opk at c1
          omega
        omega
    · rcases c6 with z | z
      · omega
      · rw [e 8 j (by omega) (by omega) (by omega)]
        exact c7 j j1 j2
    · rcases c8 with z | ⟨z1, z2, z3, z4, z5, z6, z7⟩
      · exact Or.inl z
      · refine Or.inr ⟨z1, z2, ?_, ?_, ?_, fun w => ?_, ?_⟩
        · rw [e 8 _ (by omega) (by omega) (by omega)]
          exact z3
        · rw [e 0 _ (by omega) (by omega) (by omega)]
          exact z4
        · rw [e 0 _ (by omega) (by omega) (by omega)]
          exact z5
        · rw [e 0 _ (by omega) (by omega) (by omega), e 1 _ (by omega) (by omega) (by omega)]
          exact z6 w
        · rw [e 5 _ (by omega) (by omega) (by omega)]
          exact z7
    · rw [e 8 x (by omega) k1 (by omega)] at k3
      rcases c12 x k1 k2 k3 with z | z | z | ⟨j, z1, z2, z3, z4⟩
      · exact Or.inl z
      · exact Or.inr (Or.inl z)
      · exact Or.inr (Or.inr (Or.inl z))
      · refine Or.inr (Or.inr (Or.inr ⟨j, z1, z2, ?_, ?_⟩))
        · rw [e 8 j (by omega) (by omega) (by omega)]
          exact z3
        · rw [e 7 j (by omega) (by omega) (by omega)]
          exact z4
  obtain ⟨c1, c2, c3, c4, c5, c6, c7, c8, c9, c10, c11, c12⟩ := F1
  have pm : ∀ x, part A' lo k x → part A' 0 k x := fun x z => by
    rcases z with z | z
    · exact Or.inl z
    · exact Or.inr ⟨by omega, z.2⟩
  refine ⟨c1, ⟨by have := c2.1; omega, c2.2⟩, ⟨c3.1, c3.2.1, by omega, c3.2.2.2⟩, rfl, fun z => ⟨by have := (c5 z).1; omega, (c5 z).2.1, by show A' 10 k < A' 2 k; rw [c4]; exact (c5 z).2.2⟩, by omega, c7, ?_, pm _ c9, fun z => pm _ (c10 z), fun z => pm _ (c11 z), fun x k1 k2 k3 => ?_⟩
  · rcases c8 with z | z
    · exact Or.inl z
    · exact Or.inr ⟨z.1, by omega, z.2.2⟩
  · by_cases kc : x < lo
    · have := z x kc
      omega
    · rcases c12 x (by omega) k2 k3 with z | z | z | ⟨j, z1, z2⟩
      · exact Or.inl z
      · exact Or.inr (Or.inl z)
      · exact Or.inr (Or.inr (Or.inl z))
      · exact Or.inr (Or.inr (Or.inr ⟨j, by omega, z2⟩))
theorem oc.eq {d : Nat} (H : oc B d) (e : ∀ j, j ≤ d → B' 0 j = B 0 j) (e3 : B' 3 d = B 3 d) : oc B' d := by
  obtain ⟨h1, h2, h3, h4⟩ := H
  unfold oc
  rw [e3]
  exact ⟨h1, h2, by rw [e _ (by omega)]; exact h3, fun j j1 j2 => by rw [e j j2]; exact h4 j j1 j2⟩
theorem om.eq {d : Nat} (H : om B d) (e : ∀ j, j ≤ d → B' 0 j = B 0 j) (e3 : B' 3 d = B 3 d) : om B' d := by
  obtain ⟨h1, h2, h3, h4⟩ := H
  unfold om
  rw [e3]
  exact ⟨h1, h2, by rw [e _ (by omega)]; exact h3, fun j j1 j2 => by rw [e j j2]; exact h4 j j1 j2⟩
/-- what is told stays told -/
theorem td.eq {d : Nat} (H : td A B s c Φ n D t d) (h1 : n ≤ n') (h2 : D ≤ D') (h3 : t ≤ t') (hd : d < D) (eA : ∀ i j, i < 11 → j < n → A' i j = A i j) (eB : ∀ i, i < 10 → B' i d = B i d) (e0 : ∀ i j, (i = 0 ∨ i = 1 ∨ i = 3 ∨ i = 9) → j < D → B' i j = B i j) : td A' B' s c Φ n' D' t' d := by
  obtain ⟨a1, a2, a4⟩ := H
  unfold td
  rw [eB 0 (by omega), eB 1 (by omega), eB 2 (by omega), eB 3 (by omega), eB 4 (by omega), eB 5 (by omega), eB 6 (by omega), eB 7 (by omega), eB 9 (by omega)]
  refine ⟨⟨a1.1, a1.2.1, a1.2.2.1, by omega, a1.2.2.2.2⟩, a2, ?_⟩
  have O : oc B d → oc B' d := fun z => z.eq (fun j j1 => e0 0 j (by omega) (by omega)) (eB 3 (by omega))
  have O' : om B d → om B' d := fun z => z.eq (fun j j1 => e0 0 j (by omega) (by omega)) (eB 3 (by omega))
  rcases a4 with z | z | z | z | z
  · exact Or.inl z
  · refine Or.inr (Or.inl ⟨z.1, z.2.1, O z.2.2.1, ?_, z.2.2.2.2⟩)
    rcases z.2.2.2.1 with v | ⟨v1, v2, v3, v4, v5⟩
    · exact Or.inl v
    · exact Or.inr ⟨v1, by omega, by rw [eA 8 _ (by omega) (by omega)]; exact v3, v4.eq fun _ => eA 0 _ (by omega) (by omega), by rw [eA 10 _ (by omega) (by omega)]; exact v5⟩
  · obtain ⟨z1, z2, z3, ⟨v1, v2, v3, v4, v5⟩, ⟨w1, w2, w3, w5, w4⟩⟩ := z
    exact Or.inr (Or.inr (Or.inl ⟨z1, z2, O z3, ⟨v1, by omega, by rw [eA 8 _ (by omega) (by omega)]; exact v3, by rw [eA 0 _ (by omega) (by omega)]; exact v4, by rw [eA 10 _ (by omega) (by omega)]; exact v5⟩, ⟨w1, w2, by omega, w5, fun i i1 => by rw [e0 0 _ (by omega) (by omega), e0 3 _ (by omega) (by omega), e0 1 _ (by omega) (by omega)]; exact w4 i i1⟩⟩))
  · obtain ⟨z1, z2, z3, z4, z5⟩ := z
    refine Or.inr (Or.inr (Or.inr (Or.inl ⟨z1, z2, O' z3, ?_, z5⟩)))
    have y1 := z3.1
    have y2 := z3.2.1
    rw [e0 9 _ (by omega) (by omega)]
    exact z4
  · obtain ⟨z1, z2, z3, z4, ⟨v1, v2, v3, v4, v5⟩, z5⟩ := z
    exact Or.inr (Or.inr (Or.inr (Or.inr ⟨z1, z2, O' z3, z4, ⟨v1, by omega, by rw [eA 0 _ (by omega) (by omega)]; exact v3, by rw [eA 2 _ (by omega) (by omega)]; exact v4, by rw [eA 10 _ (by omega) (by omega)]; exact v5⟩, z5⟩)))
/-- a member more: nodes n .., tellings m .. -/
theorem PG.add (G : PG A B s c Φ n m t u) (hu : u < m) (h1 : n ≤ n') (h2 : m < D') (h3 : t ≤ t') (eA : ∀ i j, i < 11 → j < n → A' i j = A i j) (eB : ∀ i j, i < 10 → j < m → B' i j = B i j) (F : FR A' (B' 0) s n n' D' t' ((m : Int), t)) (h6 : B' 6 m = t) (h7 : (t' : Int) ≤ B' 7 m + 1) (hq : ∀ d, m < d → d < D' → 3 ≤ B' 0 d) (hw : B' 5 m < n + 601) (hm : B' 0 m = 1 ∨ B' 0 m = 2) (hr : ∀ k, n ≤ k → k < n' → A' 8 k = -1 → A' 7 k = -1 ∧ B' 5 m = k)
    (ht : ∀ d, m ≤ d → d < D' → td A' B' s c Φ n' D' t' d) (hc : ∀ d, m ≤ d → d < D' → ¬ B' 0 d = 0) (hv : ∀ k, t ≤ k → k < t' → s k = 1 → (∃ x, n ≤ x ∧ x < n' ∧ A' 4 x = k) ∨ ∃ d, m ≤ d ∧ d < D' ∧ (B' 1 d = k ∨ B' 2 d = k)) (hN : NI A' n n' t t' (tc B' m D')) (hT : ∀ d, m ≤ d → d < D' → (t : Int) ≤ B' 1 d ∧ B' 1 d < t' ∧ (t : Int) ≤ B' 2 d ∧ B' 2 d < t' ∧ ¬ B' 2 d = B' 1 d) (hO : ∀ d d', m ≤ d → d < d' → d' < D' → B' 1 d < B' 1 d' ∧ B' 2 d < B' 1 d' ∧ B' 1 d < B' 2 d' ∧ B' 2 d < B' 2 d') : PG A' B' s c Φ n' D' t' u := by
  obtain ⟨g1, g2, g3, g4, g5, g6⟩ := G
  refine ⟨fun k k1 => ?_, fun d d1 d2 => ?_, fun _ => ⟨by rw [eB 0 u (by omega) hu]; exact (g3 hu).1, fun j j1 j2 => ?_⟩, fun k k1 k2 => ?_, (g5.eq fun x _ x2 => eA 4 x (by omega) x2).app hN (Nat.zero_le _) h3 (fun k _ k2 z => ?_) (fun k k1 k2 z => ?_), fun d d1 => ?_, fun d d' d1 d2 => ?_⟩
  · by_cases e : k < n
    · obtain ⟨a1, a2, a3, a4, a5, a6, a7⟩ := g1 k e
      refine ⟨by
        have z : cl A' (B' 0) s 0 n' D' t' (A' 10 k, (B 6 (A 10 k).toNat).toNat) k := a1.mo (Nat.zero_le _) e h1 (by omega) h3 (fun i j i1 _ j2 => eA i j i1 j2) (fun j j1 => eB 0 j (by omega) j1) (fun j z => by omega)
        rw [show B' 6 (A' 10 k).toNat = B 6 (A 10 k).toNat by rw [eA 10 k (by omega) e, eB 6 _ (by omega) (by omega)]]
        exact z, ?_, fun z => ?_, by rw [eA 6 k (by omega) e, eA 10 k (by omega) e, eB 7 _ (by omega) (by omega)]; exact a4, fun z => ?_, fun z => ?_, by rw [eA 10 k (by omega) e, eB 5 _ (by omega) (by omega)]; exact a7⟩
      · rw [eA 10 k (by omega) e, eB 0 _ (by omega) (by omega)]
        exact ⟨a2.1, by omega, a2.2.2⟩
      · rw [eA 8 k (by omega) e] at z
        obtain ⟨b1, d, b2, b3, b4⟩ := a3 z
        exact ⟨by rw [eA 7 k (by omega) e]; exact b1, d, by omega, by rw [eB 0 d (by omega) b2]; exact b3, by rw [eB 5 d (by omega) b2]; exact b4⟩
      · have b8 := a1.2.2.2.2.2.1
        rw [eA 8 k (by omega) e] at z ⊢
        rw [eA 10 k (by omega) e, eA 10 _ (by omega) (by omega)]
        exact a5 z
      · rw [eA 0 k (by omega) e] at z
        have b5 := a1.2.2.2.2.1 z
        rw [eA 2 k (by omega) e, eA 10 k (by omega) e, eB 3 _ (by omega) (by omega)]
        exact a6 z
    · have Fk := F k (by omega) k1
      have hk : A' 10 k = m := Fk.2.2.2.1
      have hmo : ∀ j, j < n → A' 8 j = -1 ∨ A' 8 j < n := fun j z => by
        rw [eA 8 j (by omega) z]
        have := (g1 j z).1.2.2.2.2.2.1
        omega
      refine ⟨by
        rw [hk, Int.toNat_natCast, h6, Int.toNat_natCast, ← hk]
        exact Fk.mo (by omega) k1 (Nat.le_refl _) (Nat.le_refl _) (Nat.le_refl _) (fun _ _ _ _ _ => rfl) (fun _ _ => rfl) (fun j z => hmo j z), ?_, fun z => ?_, by rw [hk, Int.toNat_natCast]; have := Fk.2.2.1.2.2.1; omega, fun z => ?_, fun z => ?_, by rw [hk, Int.toNat_natCast]; omega⟩
      · rw [hk, Int.toNat_natCast]
        exact ⟨by omega, by omega, hm⟩
      · have := hr k (by omega) k1 z
        exact ⟨this.1, m, h2, hm, this.2⟩
      · have b8 := Fk.2.2.2.2.2.1
        rw [hk]
        exact (F _ (by omega) (by omega)).2.2.2.1
      · obtain ⟨b1, b2, b3⟩ := Fk.2.2.2.2.1 z
        have b3 : (m : Int) < A' 2 k := b3
        have td := (ht (A' 2 k).toNat (by omega) (by omega)).2.2
        have o : om B' (A' 2 k).toNat := by
          rcases td with v | v | v | v | v
          · omega
          · omega
          · omega
          · omega
          · exact v.2.2.1
        obtain ⟨o1, o2, o3, o4⟩ := o
        rw [hk]
        by_cases c : B' 3 (A' 2 k).toNat < m
        · have := o4 m (by omega) (by omega)
          omega
        · by_cases c2 : B' 3 (A' 2 k).toNat = m
          · exact c2
          · have := hq (B' 3 (A' 2 k).toNat).toNat (by omega) (by omega)
            omega
  · by_cases e : d < m
    · exact (g2 d e d2).eq h1 (by omega) h3 e eA (fun i i1 => eB i d i1 e) (fun i j i1 j1 => eB i j (by omega) j1)
    · exact ht d (by omega) d1
  · by_cases e : j < m
    · rw [eB 0 j (by omega) e]
      exact (g3 hu).2 j j1 e
    · exact hc j (by omega) j2
  · by_cases e : k < t
    · rcases g4 k e k2 with ⟨x, x1, x2⟩ | ⟨d, d1, d2⟩
      · exact Or.inl ⟨x, by omega, by rw [eA 4 x (by omega) x1]; exact x2⟩
      · exact Or.inr ⟨d, by omega, by rw [eB 1 d (by omega) d1, eB 2 d (by omega) d1]; exact d2⟩
    · rcases hv k (by omega) k1 k2 with ⟨x, x1, x2, x3⟩ | ⟨d, d1, d2, d3⟩
      · exact Or.inl ⟨x, x2, x3⟩
      · exact Or.inr ⟨d, d2, d3⟩
  · obtain ⟨d, d1, d2, d3⟩ := z
    by_cases e : d < m
    · exact ⟨d, d1, e, by rw [← eB 1 d (by omega) e, ← eB 2 d (by omega) e]; exact d3⟩
    · have := hT d (by omega) d2
      omega
  · obtain ⟨d, d1, d2, d3⟩ := z
    by_cases e : d < m
    · have := g6.1 d e
      rw [eB 1 d (by omega) e, eB 2 d (by omega) e] at d3
      omega
    · exact ⟨d, by omega, d2, d3⟩
  · by_cases e : d < m
    · have := g6.1 d e
      rw [eB 1 d (by omega) e, eB 2 d (by omega) e]
      exact ⟨by omega, by omega, this.2.2⟩
    · have := hT d (by omega) d1
      exact ⟨by omega, by omega, this.2.2.2.2⟩
  · by_cases e : d' < m
    · rw [eB 1 d (by omega) (by omega), eB 2 d (by omega) (by omega), eB 1 d' (by omega) e, eB 2 d' (by omega) e]
      exact g6.2 d d' d1 e
    · by_cases e2 : d < m
      · have z1 := g6.1 d e2
        have z2 := hT d' (by omega) d2
        rw [eB 1 d (by omega) (by omega), eB 2 d (by omega) (by omega)]
        exact ⟨by omega, by omega, Or.inr ⟨by omega, by omega⟩⟩
      · have := hO d d' (by omega) d1 d2
        exact ⟨this.1, this.2.1, Or.inr this.2.2⟩
/-- types and told types play no part in it -/
theorem PG.any (Z W : Nat → Nat → Int) : PG (fun i j => if i = 9 then Z i j else A i j) (fun i j => if i = 8 then W i j else B i j) s c Φ n D t u ↔ PG A B s c Φ n D t u := Iff.rfl
end PGT
