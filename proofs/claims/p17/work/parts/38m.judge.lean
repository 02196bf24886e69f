/-! the reference's judge: what stands while bodies are judged -/
/-- where judging bodies changes ints -/
def rJ (p : Nat) : Nat → Nat → Prop := fun b j => b = p ∧ (j = 33 ∨ j = 34 ∨ 48 ≤ j ∧ j ≤ 51) ∨ b = p + 23 ∨ b = p + 38 ∨ p + 41 ≤ b ∧ b ≤ p + 43
def JS (p C n m cl : Nat) (Φ : Nat → Nat) (M : me_M) : Prop := PF p M 4 Φ C n m ∧ C ≤ 2405 ∧ TX p M ∧ CS p M cl m ∧ (∀ i : Nat, i < cl → ¬ heir (sp p M) i i) ∧ (∀ d, d < m → ¬ tA p M 0 d = 0 → ty_v cl (tA p M 8 d) ∧ (¬ tA p M 0 d = 2 → ¬ tA p M 8 d = 3)) ∧ mcn (tA p M) m ≤ 192
/-- a is c or above c -/
def up (nx : Nat → Int) (c a : Int) : Prop := 0 ≤ a ∧ ∃ s, it nx s c = a
abbrev cl_ (A : Nat → Nat → Int) (b s : Nat → Int) (lo hi dhi T : Nat) (h : Int × Nat) (n : Nat) : Prop := cl A b s lo hi dhi T h n
section JST
variable {p C n m cl : Nat} {Φ : Nat → Nat} {M M' : me_M}
theorem TX.fr {P : Nat → Nat → Prop} (H : TX p M) (f : fr P M M') (h : ∀ j, ¬ P (p + 6) j) : TX p M' := fun i i1 => by
  obtain ⟨h1, h2, h3, h4⟩ := H i i1
  rw [f.p, f.2.1, f.i (h i)]
  exact ⟨h1, h2, h3, h4⟩
theorem CS.fr {P : Nat → Nat → Prop} (H : CS p M cl m) (f : fr P M M') (h1 : ¬ P p 27) (h2 : ∀ b j, (b = p + 25 ∨ p + 35 ≤ b ∧ b ≤ p + 37) → ¬ P b j) : CS p M' cl m := by
  obtain ⟨c1, c2, c3, c4, c5⟩ := H
  refine ⟨by rw [f.i h1, c1], c2, fun i i1 => ?_, fun q q1 q2 => ?_, fun i i1 => ?_⟩
  · obtain ⟨q, a1, a2, a3, a4⟩ := c3 i i1
    exact ⟨q, by rw [f.i (h2 _ _ (by omega)), a1], a2, by rw [show tA p M' 0 q = tA p M 0 q from f.i (h2 _ _ (by omega)), a3], by rw [f.i (h2 _ _ (by omega)), a4]⟩
  · rw [show tA p M' 0 q = tA p M 0 q from f.i (h2 _ _ (by omega))] at q2
    obtain ⟨i, a1, a2, a3⟩ := c4 q q1 q2
    exact ⟨i, a1, by rw [f.i (h2 _ _ (by omega)), a2], by rw [f.i (h2 _ _ (by omega)), a3]⟩
  · rw [show sp p M' i = sp p M i from f.i (h2 _ _ (by omega))]
    exact c5 i i1
theorem PG.fr {u : Nat} (G : PG (nA p M) (tA p M) (tS p M) (tC p M) Φ n m C u) (hu : m ≤ u) (f : fr (rJ p) M M') : PG (nA p M') (tA p M') (tS p M') (tC p M') Φ n m C u := by
  have G1 := G.re (A' := fun i j => if i = 9 then nA p M i j else nA p M' i j) (B' := tA p M') (Nat.le_refl _) (fun i j i1 _ => by
    by_cases c : i = 9
    · exact if_pos c
    · show (if i = 9 then _ else _) = _
      rw [if_neg c]
      exact f.i (by unfold rJ; omega)) (fun i j i1 _ _ => f.i (by unfold rJ; omega)) (fun z => by omega) (fun z => by omega) (fun k k1 k2 => by omega)
  have G2 := G1.sc (s' := tS p M') (c' := tC p M') fun j _ => ⟨f.i (by unfold rJ; omega), f.i (by unfold rJ; omega)⟩
  exact (PG.any (B := tA p M') (fun i j => nA p M i j) (fun i j => tA p M' i j)).mp (by
    have e : (fun i j => if i = 8 then tA p M' i j else tA p M' i j) = tA p M' := by
      funext i j
      split <;> rfl
    rw [e]
    exact G2)
theorem PF.fr {F : Int} (H : PF p M F Φ C n m) (f : fr (rJ p) M M') : PF p M' F Φ C n m := by
  obtain ⟨h1, h2, h3, h4, h5, h6, h7, h8⟩ := H
  have k : ∀ i j, i < 5 → kA p M' i j = kA p M i j := fun i j _ => f.i (by unfold rJ; omega)
  refine ⟨by rw [f.i (by unfold rJ; omega), h1], by rw [f.i (by unfold rJ; omega), h2], h3, by rw [f.i (by unfold rJ; omega), h4], h5, h6.fr (Nat.le_refl _) f, fun j j1 => ?_, fun i j i1 i2 => ?_⟩
  · have := h7 j j1
    unfold tkc at this ⊢
    rw [k 0 j (by omega), k 1 j (by omega), k 2 j (by omega), k 3 j (by omega), k 4 j (by omega), k 4 (Φ j) (by omega), f.i (by unfold rJ; omega)]
    exact this
  · rw [k 4 i (by omega), k 4 j (by omega), k 2 i (by omega), k 2 j (by omega), k 3 i (by omega)]
    exact h8 i j i1 i2
theorem sp_fr (f : fr (rJ p) M M') : sp p M' = sp p M := by
  funext i
  exact f.i (by unfold rJ; omega)
theorem JS.fr (H : JS p C n m cl Φ M) (f : fr (rJ p) M M') : JS p C n m cl Φ M' := by
  obtain ⟨h1, h2, h3, h4, h5, h6, h7⟩ := H
  refine ⟨h1.fr f, h2, h3.fr f fun j => by unfold rJ; omega, h4.fr f (by unfold rJ; omega) (fun b j z => by unfold rJ; omega), by rw [sp_fr f]; exact h5, fun d d1 => ?_, ?_⟩
  · rw [show tA p M' 0 d = tA p M 0 d from f.i (by unfold rJ; omega), show tA p M' 8 d = tA p M 8 d from f.i (by unfold rJ; omega)]
    exact h6 d d1
  · rw [mcn_eq (B := tA p M) (B' := tA p M') m fun j _ => f.i (by unfold rJ; omega)]
    exact h7
theorem PF.tkv {F : Int} (H : PF p M F Φ C n m) (hF : F ≤ 4) (hC : C ≤ 2407) (hT : TX p M) {k : Nat} (hk : k < C) : tkv p M k := by
  obtain ⟨⟨a1, a2⟩, a3, a4, a5, _⟩ := H.2.2.2.2.2.2.1 k hk
  have := hT (kA p M 4 k).toNat (by omega)
  exact ⟨by omega, ⟨a1, by omega⟩, a3, by omega, by omega⟩
theorem JS.tk (H : JS p C n m cl Φ M) {k : Nat} (hk : k < C) : tkv p M k := H.1.tkv (by omega) (by have := H.2.1; omega) H.2.2.1 hk
theorem JS.td (H : JS p C n m cl Φ M) {q : Nat} (hq : q < m) : td (nA p M) (tA p M) (tS p M) (tC p M) Φ n m C q := H.1.2.2.2.2.2.1.2.1 q hq (by omega)
theorem JS.hn (H : JS p C n m cl Φ M) : ∀ q, q < m → ∃ w : Nat, tA p M 1 q = (w : Int) ∧ tkv p M w := fun q hq => by
  have t := (H.td hq).1
  exact ⟨(tA p M 1 q).toNat, by omega, H.tk (by omega)⟩
theorem JS.m7 (H : JS p C n m cl Φ M) : m ≤ 2405 := by
  have := H.2.1
  have := H.1.2.2.2.2.1
  omega
theorem JS.G (H : JS p C n m cl Φ M) : ∀ k, k < n → cl_ (nA p M) (tA p M 0) (tS p M) 0 n m C (nA p M 10 k, (tA p M 6 (nA p M 10 k).toNat).toNat) k := fun k hk => (H.1.2.2.2.2.2.1.1 k hk).1
/-- a member's class -/
theorem JS.oc (H : JS p C n m cl Φ M) {q : Nat} (hq : q < m) (hs : tA p M 0 q = 1 ∨ tA p M 0 q = 2) : oc (tA p M) q := by
  have t := (H.td hq).2.2
  rcases t with z | z | z | z | z
  · omega
  · exact z.2.2.1
  · exact z.2.2.1
  · omega
  · omega
theorem JS.own (H : JS p C n m cl Φ M) {q : Nat} (hq : q < m) (hs : tA p M 0 q = 1 ∨ tA p M 0 q = 2) : ∃ o : Nat, tA p M 3 q = (o : Int) ∧ o < m ∧ tA p M 0 o = 0 := by
  obtain ⟨h1, h2, h3, _⟩ := H.oc hq hs
  exact ⟨(tA p M 3 q).toNat, by omega, by omega, h3⟩
/-- between a class and the next all members are its own -/
theorem JS.own_is (H : JS p C n m cl Φ M) {q o : Nat} (hq : q < m) (hs : tA p M 0 q = 1 ∨ tA p M 0 q = 2) (ho : o < q) (h0 : tA p M 0 o = 0) (hn : ∀ j, o < j → j ≤ q → ¬ tA p M 0 j = 0) : tA p M 3 q = (o : Int) := by
  obtain ⟨h1, h2, h3, h4⟩ := H.oc hq hs
  by_cases c : tA p M 3 q < o
  · exact absurd h0 (h4 o c (by omega))
  · by_cases c2 : tA p M 3 q = o
    · exact c2
    · exact absurd h3 (hn _ (by omega) (by omega))
theorem up.rf {nx : Nat → Int} {c : Int} (h : 0 ≤ c) : up nx c c := ⟨h, 0, rfl⟩
theorem up.nx {nx : Nat → Int} {c a : Int} (h : up nx c a) (hn : 0 ≤ nx a.toNat) : up nx c (nx a.toNat) := by
  obtain ⟨h1, s, h2⟩ := h
  refine ⟨hn, s + 1, ?_⟩
  rcases it_add (nx := nx) s 1 c with z | z
  · rw [z, h2]
    show (if a < 0 then -1 else it nx 0 (nx a.toNat)) = _
    rw [if_neg (by omega)]
    rfl
  · have key : ∀ (s : Nat) (k : Int), it nx s k = a → it nx (s + 1) k = nx a.toNat := by
      intro s
      induction s with
      | zero =>
        intro k hk
        have hk : k = a := hk
        show (if k < 0 then -1 else it nx 0 (nx k.toNat)) = _
        rw [hk, if_neg (by omega)]
        rfl
      | succ s ih =>
        intro k hk
        have e1 : (if k < 0 then -1 else it nx s (nx k.toNat)) = a := hk
        by_cases c : k < 0
        · rw [if_pos c] at e1
          omega
        · rw [if_neg c] at e1
          show (if k < 0 then -1 else it nx (s + 1) (nx k.toNat)) = _
          rw [if_neg c]
          exact ih _ e1
    exact key s c h2
end JST
section FO
variable {N : Nat} {X : Nat → Int32} {d p C n m cl k : Nat} {Φ : Nat → Nat} {M : me_M} {x3 c0 : Int}
/-- fieldOf's answer -/
def fo (p : Nat) (M : me_M) (m : Nat) (c0 x3 : Int) (y : Int) : Prop := y = -1 ∨ ∃ q : Nat, y = (q : Int) ∧ q < m ∧ tA p M 0 q = 1 ∧ (x3 = 0 ∨ x3 = 1 ∧ tA p M 4 q = 0 ∨ x3 = 2 ∧ tA p M 4 q = 1) ∧ ∃ i o : Nat, tA p M 3 q = (o : Int) ∧ o < m ∧ me_i M (p + 37) o = (i : Int) ∧ up (sp p M) c0 i
theorem fo_3 (H : JS p C n m cl Φ M) (hd : 2 ≤ d) (hk : tkv p M k) (h3 : x3 = 0 ∨ x3 = 1 ∨ x3 = 2) : ∀ (r : Nat) (c : Int), -1 ≤ c → c < cl → (0 ≤ c → up (sp p M) c0 c) → rank (sp p M) c < r → me_W (mt_G N X) 347 d 3 [some (.inr (.inl (some p, 29, 0))), none, some (.inl (k : Int)), some (.inl x3), some (.inl c), none] [] M (sx_qI (fun y M' => M' = M ∧ fo p M m c0 x3 y) nt_E) := by
  have hT := H.2.2.1
  obtain ⟨s1, s2, s3, s4, s5⟩ := H.2.2.2.1
  have m16 := H.1.2.2.2.1
  have m7 := H.m7
  intro r
  induction r with
  | zero => intro c _ _ _ h; omega
  | succ r ih =>
    intro c c1 c2 c3 hr
    refine b347_3 ⟨⟨by omega, by omega⟩, fun _ => ⟨rfl, Or.inl rfl⟩, fun c0' => ⟨c0', by omega, ?_⟩⟩
    obtain ⟨i, hi⟩ : ∃ i : Nat, c = (i : Int) := ⟨c.toNat, by omega⟩
    subst hi
    obtain ⟨q, q1, q2, q3, q4⟩ := s3 i (by omega)
    rw [Int.toNat_natCast, q1]
    have nxt : me_W (mt_G N X) 347 d 3 [some (.inr (.inl (some p, 29, 0))), none, some (.inl (k : Int)), some (.inl x3), some (.inl (me_i M (p + 36) i)), none] [] M (sx_qI (fun y M' => M' = M ∧ fo p M m c0 x3 y) nt_E) := by
      have := s5 i (by omega)
      refine ih (me_i M (p + 36) i) (by have := this.1; exact this) (by have := this.2; exact this) (fun z => ?_) ?_
      · have u := (c3 (by omega)).nx (by rw [Int.toNat_natCast]; exact z)
        rw [Int.toNat_natCast] at u
        exact u
      · have := rank_lt s2 s5 H.2.2.2.2.1 (i := i) (by omega)
        show rank (sp p M) (sp p M i) < r
        omega
    have inner : ∀ (f j : Nat), m - j ≤ f → q < j → j ≤ m → (∀ l, q < l → l < j → ¬ tA p M 0 l = 0) → me_W (mt_G N X) 347 d 19 [some (.inr (.inl (some p, 29, 0))), none, some (.inl (k : Int)), some (.inl x3), some (.inl (i : Int)), some (.inl (j : Int))] [] M (sx_qI (fun y M' => M' = M ∧ fo p M m c0 x3 y) nt_E) := by
      intro f
      induction f with
      | zero =>
        intro j f1 j1 j2 j3
        refine b347_19 ?_
        rw [m16, Int.toNat_natCast]
        exact ⟨⟨by omega, by omega⟩, ⟨by omega, by omega⟩, fun _ => ⟨by omega, by omega, nxt⟩, fun z => by omega⟩
      | succ f ihf =>
        intro j f1 j1 j2 j3
        refine b347_19 ?_
        rw [m16, Int.toNat_natCast, Int.toNat_natCast]
        refine ⟨⟨by omega, by omega⟩, ⟨by omega, by omega⟩, fun _ => ⟨by omega, by omega, nxt⟩, fun z => ?_⟩
        have jm : j < m := by omega
        obtain ⟨w, w1, w2⟩ := H.hn j jm
        rw [show me_i M (p + 26) j = (w : Int) from w1]
        refine ⟨by omega, by omega, me_i_r _ _ _, fun _ => ⟨by omega, by omega, nxt⟩, fun z0 => ?_⟩
        have more : me_W (mt_G N X) 347 d 19 [some (.inr (.inl (some p, 29, 0))), none, some (.inl (k : Int)), some (.inl x3), some (.inl (i : Int)), some (.inl ((j : Int) + 1))] [] M (sx_qI (fun y M' => M' = M ∧ fo p M m c0 x3 y) nt_E) := by
          rw [show (j : Int) + 1 = ((j + 1 : Nat) : Int) by omega]
          exact ihf (j + 1) (by omega) (by omega) (by omega) fun l l1 l2 => by
            by_cases c : l = j
            · rw [c]
              exact z0
            · exact j3 l l1 (by omega)
        refine ⟨by omega, by omega, me_i_r _ _ _, ⟨by omega, by omega⟩, fun _ => more, fun z1 => ?_⟩
        have found : (x3 = 0 ∨ x3 = 1 ∧ tA p M 4 j = 0 ∨ x3 = 2 ∧ tA p M 4 j = 1) → fo p M m c0 x3 (j : Int) := fun v => by
          have o := H.own_is jm (Or.inl z1) j1 q3 fun l l1 l2 => by
            by_cases c : l = j
            · rw [c]
              exact z0
            · exact j3 l l1 (by omega)
          exact Or.inr ⟨j, rfl, jm, z1, v, i, q, o, q2, q4, c3 (by omega)⟩
        refine ⟨⟨by omega, by omega⟩, fun v => ⟨by omega, by omega, ?_⟩, fun v => ⟨by omega, by omega, fun st => ⟨⟨by omega, by omega⟩, ⟨by omega, by omega⟩, fun v2 => ⟨me_i_r _ _ _, ⟨by omega, by omega⟩, fun _ => more, fun v3 => ⟨by omega, by omega, ?_⟩⟩, fun v2 => ⟨me_i_r _ _ _, ⟨by omega, by omega⟩, fun _ => more, fun v3 => ⟨by omega, by omega, ?_⟩⟩⟩⟩⟩
        · refine ca_I (by omega) (c_326 (by omega) hT hT w2 hk) (fun y M1 _ g => ?_) nt_E_no
          obtain ⟨rfl, g⟩ := g
          exact ⟨⟨by omega, by omega⟩, fun _ => more, fun _ => ⟨rfl, found (Or.inl v)⟩⟩
        · refine ca_I (by omega) (c_326 (by omega) hT hT w2 hk) (fun y M1 _ g => ?_) nt_E_no
          obtain ⟨rfl, g⟩ := g
          exact ⟨⟨by omega, by omega⟩, fun _ => more, fun _ => ⟨rfl, found (Or.inr (Or.inl ⟨by omega, v3⟩))⟩⟩
        · refine ca_I (by omega) (c_326 (by omega) hT hT w2 hk) (fun y M1 _ g => ?_) nt_E_no
          obtain ⟨rfl, g⟩ := g
          exact ⟨⟨by omega, by omega⟩, fun _ => more, fun _ => ⟨rfl, found (Or.inr (Or.inr ⟨v2, v3⟩))⟩⟩
    rw [show (q : Int) + 1 = ((q + 1 : Nat) : Int) by omega]
    exact inner m (q + 1) (by omega) (by omega) (by omega) fun l l1 l2 => by omega
theorem c_347 (H : JS p C n m cl Φ M) (hd : 2 ≤ d) (hk : tkv p M k) (h3 : x3 = 0 ∨ x3 = 1 ∨ x3 = 2) (c1 : -1 ≤ c0) (c2 : c0 < cl) : me_W (mt_G N X) 347 d 0 [some (.inr (.inl (some p, 29, 0))), some (.inl c0), some (.inl (k : Int)), some (.inl x3), none, none] [] M (sx_qI (fun y M' => M' = M ∧ fo p M m c0 x3 y) nt_E) := b347_0 (fo_3 H hd hk h3 (rank (sp p M) c0 + 1) c0 c1 c2 (fun z => up.rf z) (by omega))
end FO
