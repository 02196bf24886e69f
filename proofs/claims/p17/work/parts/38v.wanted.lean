/-! the reference's judge: wanted, set -/
/-- what holds of a statement's node -/
def st (p : Nat) (Mb : me_M) (h : Nat) (M : me_M) (k : Nat) : Prop :=
  (nA p Mb 0 k = 21 → fit (sp p Mb) (nA p M 9 (nA p Mb 1 k).toNat) (tA p Mb 8 (nA p Mb 2 k).toNat)) ∧
  (nA p Mb 0 k = 22 → (nA p Mb 0 (nA p Mb 1 k).toNat = 7 ∨ nA p Mb 0 (nA p Mb 1 k).toNat = 11) ∧ ¬ nA p M 9 (nA p Mb 1 k).toNat = -5 ∧ fit (sp p Mb) (nA p M 9 (nA p Mb 2 k).toNat) (nA p M 9 (nA p Mb 1 k).toNat)) ∧
  (nA p Mb 0 k = 23 → nA p Mb 0 (nA p Mb 1 k).toNat = 8 ∨ nA p Mb 0 (nA p Mb 1 k).toNat = 12) ∧
  (nA p Mb 0 k = 26 → nA p Mb 1 k = -1 ∧ tA p Mb 8 h = 3 ∨ 0 ≤ nA p Mb 1 k ∧ fit (sp p Mb) (nA p M 9 (nA p Mb 1 k).toNat) (tA p Mb 8 h))
/-- a node is all right -/
def nt (p : Nat) (Mb : me_M) (h hc m : Nat) (M : me_M) (k : Nat) : Prop := (nA p Mb 0 k ≤ 16 → wt p Mb h hc m M k (nA p M 9 k)) ∧ (20 ≤ nA p Mb 0 k → st p Mb h M k)
def WS (p : Nat) (Mb : me_M) (h hc m : Nat) (M : me_M) (lo hi : Nat) : Prop := ∀ k, lo ≤ k → k < hi → nt p Mb h hc m M k
section WAN
variable {N : Nat} {X : Nat → Int32} {d p C n m cl h hc kn lo e x k : Nat} {Φ : Nat → Nat} {Mb M M' : me_M} {y : Int} {w : Nat}
theorem seg_ex {A : Nat → Nat → Int} {b s : Nat → Int} {D t : Nat} {hh : Nat → Int × Nat} (G : ∀ k, k < n → cl_ A b s 0 n D t (hh k) k) (he : e < n) (sg : seg A lo e) (ho : A 0 e ≤ 16) : ∀ (f k : Nat), e - k ≤ f → lo ≤ k → k ≤ e → A 0 k ≤ 16 := by
  intro f
  induction f with
  | zero =>
    intro k k1 k2 k3
    rw [show k = e by omega]
    exact ho
  | succ f ih =>
    intro k k1 k2 k3
    by_cases c : k = e
    · rw [c]
      exact ho
    · have z := sg.2.1 k k2 (by omega)
      have i := ih (A 8 k).toNat (by omega) (by omega) (by omega)
      exact (kid_ex G (by omega) i k k (by omega) (by omega) (Nat.le_refl _)).2
theorem WR.ws {hi : Nat} (H : WR p Mb h hc m M lo hi) (ho : ∀ k, lo ≤ k → k < hi → nA p Mb 0 k ≤ 16) : WS p Mb h hc m M lo hi := fun k k1 k2 => ⟨fun _ => H k k1 k2, fun z => by
  have := ho k k1 k2
  omega⟩
theorem WS.app {mid hi : Nat} (H : WS p Mb h hc m M lo mid) (H' : WS p Mb h hc m M mid hi) : WS p Mb h hc m M lo hi := fun k k1 k2 => by
  by_cases c : k < mid
  · exact H k k1 c
  · exact H' k (by omega) k2
theorem WS.one (H : nt p Mb h hc m M k) : WS p Mb h hc m M k (k + 1) := fun j j1 j2 => by
  rw [show j = k by omega]
  exact H
/-- a statement's part -/
theorem EB.sp1 (E : EB p C n m cl Φ Mb h hc) (hk : k < n) (ho : nA p Mb 0 k = 22 ∨ nA p Mb 0 k = 26) : (nA p Mb 1 k = -1 ∨ 0 ≤ nA p Mb 1 k ∧ nA p Mb 1 k < k) ∧ (nA p Mb 2 k = -1 ∨ 0 ≤ nA p Mb 2 k ∧ nA p Mb 2 k < k) := by
  have p1 := (E.1.G k hk).2.2.2.2.2.2.2.2.1
  have p2 := (E.1.G k hk).2.2.2.2.2.2.2.2.2.1 (by omega)
  exact ⟨p1.imp id fun v => ⟨by omega, v.2.1⟩, p2.imp id fun v => ⟨by omega, v.2.1⟩⟩
/-- all right stays all right, when what is behind changes -/
theorem nt_fr {P : Nat → Nat → Prop} (E : EB p C n m cl Φ Mb h hc) (hk : k < n) (f : fr P M M') (h1 : ∀ j : Nat, j ≤ k → nA p Mb 8 j = k ∨ j = k → ¬ P (p + 23) j) (h2 : 0 ≤ nA p Mb 4 k → ¬ P (p + 38) (nA p Mb 4 k).toNat) (H : nt p Mb h hc m M k) : nt p Mb h hc m M' k := by
  have G := E.1.G k hk
  have p1 := G.2.2.2.2.2.2.2.2.1
  have p2 := G.2.2.2.2.2.2.2.2.2.1
  have t1 : ∀ x : Int, part (nA p Mb) 0 k x → 0 ≤ x → nA p M' 9 x.toNat = nA p M 9 x.toNat := fun x z z0 => by
    rcases z with z | z
    · omega
    · exact f.i (h1 _ (by omega) (Or.inl z.2.2))
  refine ⟨fun z => ?_, fun z => ?_⟩
  · rw [show nA p M' 9 k = nA p M 9 k from f.i (h1 k (Nat.le_refl _) (Or.inr rfl))]
    exact wt_fr E hk f (fun j j1 j2 => h1 j (by omega) (Or.inl j2)) h2 (H.1 z)
  · obtain ⟨s1, s2, s3, s4⟩ := H.2 z
    have o := G.1
    refine ⟨fun v => ?_, fun v => ?_, s3, fun v => ?_⟩
    · rw [t1 _ p1 (by
        unfold opk ex at o
        omega)]
      exact s1 v
    · rw [t1 _ p1 (by
        unfold opk ex at o
        omega), t1 _ (p2 (by omega)) (by
        unfold opk ex at o
        omega)]
      exact s2 v
    · rcases s4 v with u | u
      · exact Or.inl u
      · rw [t1 _ p1 u.1]
        exact Or.inr u
theorem WS.keep {lo2 e2 hi : Nat} (E : EB p C n m cl Φ Mb h hc) (H : WS p Mb h hc m M lo hi) (h1 : hi ≤ lo2) (h2 : lo2 ≤ e2) (he : e2 < n) (f : fr (rX p (nA p Mb) lo2 e2) M M') : WS p Mb h hc m M' lo hi := fun k k1 k2 => nt_fr E (by omega) f (fun j j1 _ z => by
  rcases z with z | z | ⟨z, _⟩ | z | z <;> omega) (fun z w => by
  rcases w with w | w | ⟨_, i, i1, i2, i3⟩ | w | w
  · omega
  · omega
  · exact E.ne (a := k) (b := i) (by omega) (by omega) (by omega) z (by omega)
  · omega
  · omega) (H k k1 k2)
/-- behind wanted -/
def WNP (p : Nat) (Mb : me_M) (h hc m lo e : Nat) (x2 : Int) (M M' : me_M) : Prop := fr (rX p (nA p Mb) lo e) M M' ∧ (0 ≤ me_i M' p 33 ∧ me_i M' p 33 ≤ 14) ∧ (me_i M' p 33 = 0 → me_i M p 33 = 0 ∧ WR p Mb h hc m M' lo (e + 1) ∧ ¬ nA p M' 9 e = -5 ∧ (x2 = -5 ∨ fit (sp p Mb) (nA p M' 9 e) x2))
theorem c_342 {x2 : Int} (E : EB p C n m cl Φ Mb h hc) (S : ES p Mb h hc m kn lo e M) (he : e < n) (sg : seg (nA p Mb) lo e) (o1 : 1 ≤ nA p Mb 0 e) (o2 : nA p Mb 0 e ≤ 16) (h1 : -100 ≤ x2) (h2 : x2 < 100) (hd : 3 * (e - lo) + 31 ≤ d) : me_W (mt_G N X) 342 d 0 [some (.inr (.inl (some p, 29, 0))), some (.inl (e : Int)), some (.inl x2), none] [] M (sx_qV (fun M' => WNP p Mb h hc m lo e x2 M M') nt_E) := by
  have n7 := E.n7
  have s8 := E.1.2.2.2.1.2.1
  refine b342_0 (ca_I (by omega) (c_343 E (e - lo + 1) M kn lo e (d - 1) he sg o1 o2 (by omega) S (by omega)) (fun y4 M1 _ P => ?_) nt_E_no)
  have S1 := P.es S
  obtain ⟨p1, p2, p3, p4, p5⟩ := P
  have r4 := p3.r s8
  have rx : me_r x2 := ⟨by omega, by omega⟩
  have r5 : me_r (-5 : Int) := ⟨by omega, by omega⟩
  obtain ⟨v, v1, v2⟩ := E.first he
  have err : ∀ M5, M5 = M1 → ∃ d', d = d' + 1 ∧ me_W (mt_G N X) 334 d' 0 [some (.inr (.inl (some p, 29, 0))), some (.inl 7), some (.inl (me_i M5 (p + 19) (e : Int).toNat)), none] [] M5 (sx_qV (fun M9 => sx_qV (fun M' => WNP p Mb h hc m lo e x2 M M') nt_E (.inr none) M9) (fun e11 M10 => sx_qV (fun M' => WNP p Mb h hc m lo e x2 M M') nt_E (.inl e11) M10)) := fun M5 z => by
    subst z
    rw [Int.toNat_natCast, show me_i M5 (p + 19) e = (v : Int) from (S1.A 5 e (by omega) (by omega)).trans v1]
    exact ca_V (by omega) (er_end (by omega) E S1 v2 (by omega) (by omega) p1 fun _ _ z => z) (fun M5 _ g => ⟨g.1, by omega, fun w => by omega⟩) nt_E_no
  refine ⟨r4, r5, fun z => ⟨p1, p2, fun w => absurd z (p5 w).2.1⟩, fun z => ⟨rx, r5, fun z2 => ⟨p1, p2, fun w => ⟨(p5 w).1, (p5 w).2.2, by rw [p4]; exact z, Or.inl z2⟩⟩, fun z2 => ⟨rx, ⟨by omega, by omega⟩, fun z3 => ?_, fun z3 => ⟨by omega, by omega, err M1 rfl⟩⟩⟩⟩
  have J := S1.js E
  unfold ty_x at p3
  refine ca_I (by omega) (c_350 (by omega) J.2.2.2.1.2.2.2.2 s8 (by omega) (by omega) h1 h2) (fun y8 M5 _ g => ?_) nt_E_no
  obtain ⟨e5, g⟩ := g
  refine ⟨by rcases g with g | g <;> rw [g.1] <;> exact ⟨by omega, by omega⟩, fun z4 => ?_, fun _ => ⟨by omega, by omega, err M5 e5⟩⟩
  subst e5
  refine ⟨p1, p2, fun w => ⟨(p5 w).1, (p5 w).2.2, by rw [p4]; exact z, Or.inr ?_⟩⟩
  rcases g with g | g
  · rw [p4, ← S1.sp]
    exact g.2
  · exact absurd g.1 z4
/-- behind set -/
def SEP (p : Nat) (Mb : me_M) (h hc m lo e : Nat) (M M' : me_M) : Prop := fr (rX p (nA p Mb) lo e) M M' ∧ (0 ≤ me_i M' p 33 ∧ me_i M' p 33 ≤ 14) ∧ (me_i M' p 33 = 0 → me_i M p 33 = 0 ∧ WR p Mb h hc m M' lo e ∧ st p Mb h M' e)
theorem c_360 {y : Nat} (E : EB p C n m cl Φ Mb h hc) (S : ES p Mb h hc m kn lo e M) (he : e < n) (ho : nA p Mb 0 e = 22) (hx : nA p Mb 1 e = (x : Int)) (hy : nA p Mb 2 e = (y : Int)) (sx : seg (nA p Mb) lo x) (sy : seg (nA p Mb) (x + 1) y) (ye : y + 1 = e) (ox : 1 ≤ nA p Mb 0 x ∧ nA p Mb 0 x ≤ 16) (oy : 1 ≤ nA p Mb 0 y ∧ nA p Mb 0 y ≤ 16) (hd : 3 * (e - lo) + 30 ≤ d) : me_W (mt_G N X) 360 d 0 [some (.inr (.inl (some p, 29, 0))), some (.inl (e : Int)), none, none, none] [] M (sx_qV (fun M' => SEP p Mb h hc m lo e M M') nt_E) := by
  have n7 := E.n7
  have s8 := E.1.2.2.2.1.2.1
  have lx := sx.1
  have ly := sy.1
  have r5 : me_r (-5 : Int) := ⟨by omega, by omega⟩
  have rop : me_r (nA p Mb 0 x) := me_i_r _ _ _
  have ax : ∀ M1, ES p Mb h hc m kn lo e M1 → me_i M1 (p + 15) (e : Int).toNat = (x : Int) := fun M1 S1 => by
    rw [Int.toNat_natCast]
    exact (S1.A 1 e (by omega) (by omega)).trans hx
  have ay : ∀ M1, ES p Mb h hc m kn lo e M1 → me_i M1 (p + 16) (e : Int).toNat = (y : Int) := fun M1 S1 => by
    rw [Int.toNat_natCast]
    exact (S1.A 2 e (by omega) (by omega)).trans hy
  have ao : ∀ M1, ES p Mb h hc m kn lo e M1 → me_i M1 (p + 14) (x : Int).toNat = nA p Mb 0 x := fun M1 S1 => by
    rw [Int.toNat_natCast]
    exact S1.A 0 x (by omega) (by omega)
  -- from the right side on
  have W88 : ∀ (M1 : me_M) (x3 : Int), fr (rX p (nA p Mb) lo x) M M1 → (0 ≤ me_i M1 p 33 ∧ me_i M1 p 33 ≤ 14) → ty_x cl x3 → (me_i M1 p 33 = 0 → me_i M p 33 = 0 ∧ WR p Mb h hc m M1 lo (x + 1) ∧ (nA p Mb 0 x = 7 ∨ nA p Mb 0 x = 11) ∧ x3 = nA p M1 9 x ∧ ¬ x3 = -5) → me_W (mt_G N X) 360 d 88 [some (.inr (.inl (some p, 29, 0))), some (.inl (e : Int)), none, some (.inl x3), none] [] M1 (sx_qV (fun M' => SEP p Mb h hc m lo e M M') nt_E) := fun M1 x3 f1 h1 t3 g1 => by
    have S1 : ES p Mb h hc m kn lo e M1 := S.fr f1 rX_p h1
    refine b360_88 ?_
    rw [ay M1 S1]
    refine ⟨by omega, by omega, ca_I (by omega) (c_343 E (y - (x + 1) + 1) M1 kn (x + 1) y (d - 1) (by omega) sy oy.1 oy.2 (by omega) (S1.sub (by omega) (by omega)) (by omega)) (fun y4 M5 _ P => ?_) nt_E_no⟩
    have S5 := P.es S1
    obtain ⟨p1, p2, p3, p4, p5⟩ := P
    have F : fr (rX p (nA p Mb) lo e) M M5 := (f1.mo (rX_mo (Nat.le_refl _) (by omega))).tr (p1.mo (rX_mo (by omega) (by omega)))
    have r4 := p3.r s8
    have r3 := t3.r s8
    have fin : ∀ M6, M6 = M5 → (me_i M5 p 33 = 0 → fit (sp p Mb) y4 x3) → SEP p Mb h hc m lo e M M6 := fun M6 z hf => by
      subst z
      refine ⟨F, p2, fun w => ?_⟩
      obtain ⟨z1, z2, z3⟩ := p5 w
      obtain ⟨z4, z5, z6, z7, z8⟩ := g1 z1
      refine ⟨z4, by rw [← ye]; exact (z5.keep E (Nat.le_refl _) ly (by omega) p1).app z3, ?_⟩
      unfold st
      rw [ho, hx, hy, Int.toNat_natCast, Int.toNat_natCast, p4, show nA p M6 9 x = nA p M1 9 x from p1.i (fun z => by
        rcases z with z | z | ⟨z, _⟩ | z | z <;> omega), ← z7]
      exact ⟨fun v => by omega, fun _ => ⟨z6, z8, hf w⟩, fun v => by omega, fun v => by omega⟩
    refine ⟨r3, r5, fun z => b360_140 (fin M5 rfl fun w => absurd z (g1 (p5 w).1).2.2.2.2), fun z => ⟨r4, r5, fun z2 => b360_140 (fin M5 rfl fun w => absurd z2 (p5 w).2.1), fun z2 => ?_⟩⟩
    have J := S5.js E
    unfold ty_x at p3 t3
    refine ca_I (by omega) (c_350 (by omega) J.2.2.2.1.2.2.2.2 s8 (by omega) (by omega) (by omega) (by omega)) (fun y8 M6 _ g => ?_) nt_E_no
    obtain ⟨e6, g⟩ := g
    refine ⟨by rcases g with g | g <;> rw [g.1] <;> exact ⟨by omega, by omega⟩, fun z4 => b360_140 (fin M6 e6 fun _ => ?_), fun _ => ?_⟩
    · rcases g with g | g
      · rw [← S5.sp]
        exact g.2
      · exact absurd g.1 z4
    · subst e6
      obtain ⟨v, v1, v2⟩ := E.first (k := y) (by omega)
      rw [ay M6 S5, Int.toNat_natCast, show me_i M6 (p + 19) y = (v : Int) from (S5.A 5 y (by omega) (by omega)).trans v1]
      exact ⟨by omega, by omega, by omega, by omega, ca_V (by omega) (er_end (by omega) E S5 v2 (by omega) (by omega) F fun _ _ z => z) (fun M7 _ g => b360_140 ⟨g.1, by omega, fun w => by omega⟩) nt_E_no⟩
  have W39 : ∀ (M1 : me_M) (x3 : Int), ES p Mb h hc m kn lo e M1 → (nA p Mb 0 x = 7 ∨ nA p Mb 0 x = 11 → EP p Mb m cl h hc lo x M x3 M1) → (¬ nA p Mb 0 x = 7 → ¬ nA p Mb 0 x = 11 → M1 = M ∧ x3 = -5) → me_W (mt_G N X) 360 d 39 [some (.inr (.inl (some p, 29, 0))), some (.inl (e : Int)), some (.inl (x : Int)), none, none] [.inl x3] M1 (sx_qV (fun M' => SEP p Mb h hc m lo e M M') nt_E) := fun M1 x3 S1 g1 g2 => by
    refine b360_39 ?_
    rw [ao M1 S1]
    have go : nA p Mb 0 x = 7 ∨ nA p Mb 0 x = 11 → me_W (mt_G N X) 360 d 88 [some (.inr (.inl (some p, 29, 0))), some (.inl (e : Int)), none, some (.inl x3), none] [] M1 (sx_qV (fun M' => SEP p Mb h hc m lo e M M') nt_E) := fun z => by
      obtain ⟨p1, p2, p3, p4, p5⟩ := g1 z
      exact W88 M1 x3 p1 p2 p3 fun w => ⟨(p5 w).1, (p5 w).2.2, z, p4.symm, (p5 w).2.1⟩
    refine ⟨by omega, by omega, rop, ⟨by omega, by omega⟩, fun z => go (Or.inl z), fun z => ⟨by omega, by omega, rop, ⟨by omega, by omega⟩, fun z2 => go (Or.inr z2), fun z2 => ?_⟩⟩
    obtain ⟨e1, rfl⟩ := g2 z z2
    subst e1
    refine ca_I (by omega) (c_343 E (x - lo + 1) M1 kn lo x (d - 1) (by omega) sx ox.1 ox.2 (by omega) (S1.sub (Nat.le_refl _) (by omega)) (by omega)) (fun y4 M5 _ P => ?_) nt_E_no
    have S5 := P.es S1
    obtain ⟨p1, p2, p3, p4, p5⟩ := P
    refine ⟨p3.r s8, r5, fun z3 => W88 M5 (-5) p1 p2 (Or.inl rfl) fun w => absurd z3 (p5 w).2.1, fun z3 => ⟨by omega, by omega, ?_⟩⟩
    obtain ⟨v, v1, v2⟩ := E.first (k := x) (by omega)
    rw [Int.toNat_natCast, show me_i M5 (p + 19) x = (v : Int) from (S5.A 5 x (by omega) (by omega)).trans v1]
    exact ca_V (by omega) (er_end (by omega) E (S5.sub (Nat.le_refl _) (by omega : x ≤ e)) v2 (by omega) (by omega) p1 fun _ _ z => z) (fun M7 _ g => W88 M7 (-5) g.1 (by omega) (Or.inl rfl) fun w => by omega) nt_E_no
  have W29 : nA p Mb 0 x = 7 ∨ nA p Mb 0 x = 11 → me_W (mt_G N X) 360 d 29 [some (.inr (.inl (some p, 29, 0))), some (.inl (e : Int)), some (.inl (x : Int)), none, none] [] M (sx_qV (fun M' => SEP p Mb h hc m lo e M M') nt_E) := fun z => by
    refine b360_29 (ca_I (by omega) (c_343 E (x - lo + 1) M kn lo x (d - 1) (by omega) sx ox.1 ox.2 (by omega) (S.sub (Nat.le_refl _) (by omega)) (by omega)) (fun y4 M5 _ P => ?_) nt_E_no)
    exact W39 M5 y4 (P.es S) (fun _ => P) fun z1 z2 => by omega
  refine b360_0 ?_
  rw [ax M S, ao M S]
  exact ⟨by omega, by omega, by omega, by omega, rop, ⟨by omega, by omega⟩, fun z => W29 (Or.inl z), fun z => ⟨by omega, by omega, rop, ⟨by omega, by omega⟩, fun z2 => W39 M (-5) S (fun w => by omega) (fun _ _ => ⟨rfl, rfl⟩), fun z2 => W29 (Or.inr z2)⟩⟩
end WAN
