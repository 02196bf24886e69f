/-! the reference's judge: workBodies -/
/-- the number of member h's class -/
def hcn (p : Nat) (M : me_M) (h : Nat) : Nat := (me_i M (p + 37) (tA p M 3 h).toNat).toNat
/-- a node is all right, seen from its member -/
def AL (p : Nat) (Mb : me_M) (m : Nat) (M : me_M) (k : Nat) : Prop := nt p Mb (nA p Mb 10 k).toNat (hcn p Mb (nA p Mb 10 k).toNat) m M k ∧ (nA p Mb 8 k = -1 → tA p Mb 0 (nA p Mb 10 k).toNat = 1 → fit (sp p Mb) (nA p M 9 k) (tA p Mb 8 (nA p Mb 10 k).toNat))
section BODY
variable {N : Nat} {X : Nat → Int32} {d p C n m cl h hc kn lo e r s x k : Nat} {Φ : Nat → Nat} {Mb M M' : me_M} {y : Int} {w : Nat}
theorem JS.eb (J : JS p C n m cl Φ Mb) (hm : h < m) (hs : tA p Mb 0 h = 1 ∨ tA p Mb 0 h = 2) : EB p C n m cl Φ Mb h (hcn p Mb h) ∧ me_i Mb (p + 37) (tA p Mb 3 h).toNat = (hcn p Mb h : Int) := by
  obtain ⟨o, o1, o2, o3⟩ := J.own hm hs
  obtain ⟨i, i1, i2, _⟩ := J.2.2.2.1.2.2.2.1 o o2 o3
  have e : me_i Mb (p + 37) (tA p Mb 3 h).toNat = (i : Int) := by rw [o1, Int.toNat_natCast, i2]
  have e2 : hcn p Mb h = i := by
    unfold hcn
    rw [e, Int.toNat_natCast]
  exact ⟨⟨J, hm, by omega⟩, by rw [e, e2]⟩
theorem JS.pg (J : JS p C n m cl Φ Mb) (hk : k < n) : (0 ≤ nA p Mb 10 k ∧ nA p Mb 10 k < m ∧ (tA p Mb 0 (nA p Mb 10 k).toNat = 1 ∨ tA p Mb 0 (nA p Mb 10 k).toNat = 2)) ∧ (nA p Mb 8 k = -1 → ∃ d, d < m ∧ (tA p Mb 0 d = 1 ∨ tA p Mb 0 d = 2) ∧ tA p Mb 5 d = k) ∧ (0 ≤ nA p Mb 8 k → nA p Mb 10 (nA p Mb 8 k).toNat = nA p Mb 10 k) ∧ tA p Mb 5 (nA p Mb 10 k).toNat < k + 601 := by
  obtain ⟨_, a2, a3, _, a5, _, a7⟩ := J.1.2.2.2.2.2.1.1 k hk
  exact ⟨a2, fun z => (a3 z).2, a5, a7⟩
/-- a node's root -/
theorem JS.root (J : JS p C n m cl Φ Mb) : ∀ (f k : Nat), n - k ≤ f → k < n → ∃ r, r < n ∧ nA p Mb 8 r = -1 ∧ k ≤ r ∧ nA p Mb 10 r = nA p Mb 10 k ∧ tA p Mb 5 (nA p Mb 10 k).toNat = r ∧ ∀ lo, seg (nA p Mb) lo r → lo ≤ k := by
  intro f
  induction f with
  | zero => intro k k1 k2; omega
  | succ f ih =>
    intro k k1 k2
    have c6 := (J.G k k2).2.2.2.2.2.1
    obtain ⟨b1, b2, b3, b4⟩ := J.pg k2
    by_cases c : nA p Mb 8 k = -1
    · obtain ⟨d, d1, d2, d3⟩ := b2 c
      have td := (J.td d1).2.2
      have hk : nA p Mb 10 k = d := by
        rcases td with z | z | z | z | z
        · omega
        · rcases z.2.2.2.1 with v | v
          · omega
          · have := v.2.2.2.2
            rw [d3, Int.toNat_natCast] at this
            exact this
        · have := z.2.2.2.1.2.2.2.2
          rw [d3, Int.toNat_natCast] at this
          exact this
        · omega
        · omega
      exact ⟨k, k2, c, Nat.le_refl _, rfl, by rw [hk, Int.toNat_natCast]; exact d3, fun lo S => S.1⟩
    · clear b2
      obtain ⟨r, r1, r2, r3, r4, r5, r6⟩ := ih (nA p Mb 8 k).toNat (by omega) (by omega)
      have b := b3 (by omega)
      rw [b] at r4 r5
      refine ⟨r, r1, r2, by omega, r4, r5, fun lo S => ?_⟩
      have l := r6 lo S
      by_cases c2 : lo ≤ k
      · exact c2
      · exact absurd ⟨by omega, by omega⟩ (S.2.2 k (by omega))
theorem JS.home (J : JS p C n m cl Φ Mb) (hr : r < n) (S : seg (nA p Mb) lo r) : ∀ (f k : Nat), r - k ≤ f → lo ≤ k → k ≤ r → nA p Mb 10 k = nA p Mb 10 r := by
  intro f
  induction f with
  | zero =>
    intro k k1 k2 k3
    rw [show k = r by omega]
  | succ f ih =>
    intro k k1 k2 k3
    by_cases c : k = r
    · rw [c]
    · have z := S.2.1 k k2 (by omega)
      rw [← (J.pg (k := k) (by omega)).2.2.1 (by omega)]
      exact ih (nA p Mb 8 k).toNat (by omega) (by omega) (by omega)
/-- what is judged outside a root's piece stays -/
theorem AL.out {P : Nat → Nat → Prop} (J : JS p C n m cl Φ Mb) (hr : r < n) (S : seg (nA p Mb) lo r) (h8 : nA p Mb 8 r = -1) (hk : k < n) (ho : ¬ (lo ≤ k ∧ k ≤ r)) (f : fr P M M') (h1 : ∀ j, P (p + 23) j → lo ≤ j ∧ j ≤ r) (h2 : ∀ j, P (p + 38) j → ∃ i, lo ≤ i ∧ i ≤ r ∧ nA p Mb 4 i = (j : Int)) (H : AL p Mb m M k) : AL p Mb m M' k := by
  have a2 := (J.pg hk).1
  have E := (J.eb (h := (nA p Mb 10 k).toNat) (by omega) a2.2.2).1
  refine ⟨nt_fr E hk f (fun j j1 j2 v => ?_) (fun v w => ?_) H.1, fun z1 z2 => ?_⟩
  rotate_left 2
  · rw [show nA p M' 9 k = nA p M 9 k from f.i (fun v => ho (h1 k v))]
    exact H.2 z1 z2
  · have z := h1 j v
    rcases j2 with j2 | j2
    · by_cases c : j = r
      · rw [c, h8] at j2
        omega
      · have := S.2.1 j z.1 (by omega)
        omega
    · omega
  · obtain ⟨i, i1, i2, i3⟩ := h2 _ w
    exact E.ne (a := k) (b := i) hk (by omega) (by omega) v (by omega)
/-- workBodies, the state -/
def BS (p n m : Nat) (M M1 : me_M) (j : Nat) : Prop := fr (rJ p) M M1 ∧ (0 ≤ me_i M1 p 33 ∧ me_i M1 p 33 ≤ 14) ∧ (me_i M1 p 33 = 0 → me_i M p 33 = 0 ∧ ∀ k, k < n → nA p M 10 k < j → AL p M m M1 k) ∧ ∀ j : Nat, (∀ k, k < n → ¬ nA p M 4 k = j) → me_i M1 (p + 38) j = me_i M (p + 38) j
theorem bod_next (J : JS p C n m cl Φ M) {M1 M2 : me_M} {j : Nat} {P : Nat → Nat → Prop} (B : BS p n m M M1 j) (hj : j < m) (hr : r < n) (h5 : tA p M 5 j = r) (S : seg (nA p M) lo r) (h8 : nA p M 8 r = -1) (h10 : nA p M 10 r = j) (f : fr P M1 M2) (hP : ∀ b j, P b j → rJ p b j) (h1 : ∀ j, P (p + 23) j → lo ≤ j ∧ j ≤ r) (h2 : ∀ j, P (p + 38) j → ∃ i, lo ≤ i ∧ i ≤ r ∧ nA p M 4 i = (j : Int)) (he : 0 ≤ me_i M2 p 33 ∧ me_i M2 p 33 ≤ 14) (hw : me_i M2 p 33 = 0 → me_i M1 p 33 = 0 ∧ ∀ k, lo ≤ k → k ≤ r → AL p M m M2 k) : BS p n m M M2 (j + 1) := by
  obtain ⟨b1, b2, b3, b4⟩ := B
  refine ⟨b1.tr (f.mo hP), he, fun z => ?_, fun a ha => by
    rw [← b4 a ha]
    exact f.i fun z => by
      obtain ⟨i, i1, i2, i3⟩ := h2 a z
      exact ha i (by omega) i3⟩
  obtain ⟨z1, z2⟩ := hw z
  obtain ⟨z3, z4⟩ := b3 z1
  refine ⟨z3, fun k k1 k2 => ?_⟩
  by_cases c : lo ≤ k ∧ k ≤ r
  · exact z2 k c.1 c.2
  · refine AL.out J hr S h8 k1 c f h1 h2 (z4 k k1 ?_)
    by_cases c2 : nA p M 10 k = j
    · exfalso
      obtain ⟨r', r1, r2, r3, r4, r5, r6⟩ := J.root n k (by omega) k1
      rw [c2, Int.toNat_natCast, h5] at r5
      have e : r' = r := by omega
      subst e
      exact c ⟨r6 lo S, r3⟩
    · omega
theorem bod_skip (J : JS p C n m cl Φ M) {M1 : me_M} {j : Nat} (B : BS p n m M M1 j) (hn : ∀ k, k < n → ¬ nA p M 10 k = j) : BS p n m M M1 (j + 1) := ⟨B.1, B.2.1, fun z => ⟨(B.2.2.1 z).1, fun k k1 k2 => (B.2.2.1 z).2 k k1 (by have := hn k k1; omega)⟩, B.2.2.2⟩
theorem bod_70 {Q : me_Q} (J : JS p C n m cl Φ M) {M1 : me_M} {j : Nat} (hj : j < m) (sj : tA p M 0 j = 2) (hr : r < n) (h5 : tA p M 5 j = r) (S : seg (nA p M) lo r) (h8 : nA p M 8 r = -1) (h10 : nA p M 10 r = j) (o20 : nA p M 0 r = 20) (hd : 1840 ≤ d) (h0 : me_i M1 p 33 = 0 → me_i M p 33 = 0) (HQ : ∀ M2, fr (rL p (nA p M) lo r 0) M1 M2 → (0 ≤ me_i M2 p 33 ∧ me_i M2 p 33 ≤ 14) → (me_i M2 p 33 = 0 → me_i M1 p 33 = 0 ∧ ∀ k, lo ≤ k → k ≤ r → AL p M m M2 k) → me_W (mt_G N X) 340 d 2 [some (.inr (.inl (some p, 29, 0))), some (.inl ((j : Int) + 1)), none] [] M2 Q) : ∀ (f i : Nat) (M2 : me_M), tA p M 9 j - i < f → (i : Int) ≤ tA p M 9 j → fr (fun b a => b = p ∧ (a = 33 ∨ a = 34 ∨ a = 48) ∨ b = p + 41) M1 M2 → (me_i M2 p 33 = 0 → me_i M1 p 33 = 0) → ES p M j (hcn p M j) m i lo r M2 → me_W (mt_G N X) 340 d 70 [some (.inr (.inl (some p, 29, 0))), some (.inl (j : Int)), some (.inl (i : Int))] [] M2 Q := by
  obtain ⟨E, ehc⟩ := J.eb hj (Or.inr sj)
  have mt := J.met hj sj
  have m7 := J.m7
  have n7 := E.n7
  have pgl := (J.pg (k := lo) (by have := S.1; omega)).2.2.2
  have home := fun k k1 k2 => J.home hr S r k (by omega) k1 k2
  have r600 : r < lo + 601 := by
    have := pgl
    rw [home lo (Nat.le_refl _) S.1, h10, Int.toNat_natCast, h5] at this
    omega
  have l0 := S.1
  intro f
  induction f with
  | zero => intro i M2 z; omega
  | succ f ih =>
    intro i M2 hf hi f2 h33 S2
    refine b340_70 ?_
    have r9 : me_r (tA p M 9 j) := me_i_r _ _ _
    rw [Int.toNat_natCast, show me_i M2 (p + 34) j = tA p M 9 j from S2.B 9 j (by omega), show me_i M2 (p + 30) j = (r : Int) from (S2.B 5 j (by omega)).trans h5]
    refine ⟨by omega, by omega, ⟨by omega, by omega⟩, r9, fun z => ⟨by omega, by omega, ?_⟩, fun z => ?_⟩
    · refine ca_I (by omega) (c_359 E sj (r - lo + 1) M2 i lo r (d - 1) hr S (by omega) (by omega) (by omega) (fun k k1 k2 => by rw [home k k1 k2, h10]) (fun v => by omega) S2 (by omega) (by omega)) (fun y4 M3 _ P => ?_) nt_E_no
      obtain ⟨p1, p2, p3, _, p5⟩ := P
      have F : fr (rL p (nA p M) lo r 0) M1 M3 := (f2.mo fun b a z => by
        rcases z with ⟨z1, z2⟩ | z
        · by_cases c : a = 48
          · exact Or.inr (Or.inl ⟨z1, c⟩)
          · exact Or.inl (Or.inl ⟨z1, by omega⟩)
        · exact Or.inr (Or.inr ⟨z, Nat.zero_le _⟩)).tr (p1.mo (rL_mo (Nat.le_refl _) (Nat.le_refl _) (Nat.zero_le _)))
      have all : me_i M3 p 33 = 0 → me_i M1 p 33 = 0 ∧ ∀ k, lo ≤ k → k ≤ r → AL p M m M3 k := fun w => by
        obtain ⟨z1, z2⟩ := p5 w
        refine ⟨h33 z1, fun k k1 k2 => ?_⟩
        have := z2 k k1 (by omega)
        unfold AL
        rw [home k k1 k2, h10, Int.toNat_natCast]
        exact ⟨this, fun _ z => by omega⟩
      have r8 : me_r (tA p M 8 j) := me_i_r _ _ _
      rw [show me_i M3 (p + 33) j = tA p M 8 j from (p1.i (fun z => by
        rcases z with z | z | z
        · rcases z with z | z | ⟨z, _⟩ | z | z <;> omega
        · omega
        · omega)).trans (S2.B 8 j (by omega))]
      refine ⟨by rcases p3 with v | v <;> rw [v] <;> exact ⟨by omega, by omega⟩, fun _ => HQ M3 F p2 all, fun _ => ⟨by omega, by omega, r8, ⟨by omega, by omega⟩, fun _ => HQ M3 F p2 all, fun _ => ⟨by omega, by omega, ?_⟩⟩⟩
      have J3 : JS p C n m cl Φ M3 := (S2.js E).fr (p1.mo rL_J)
      obtain ⟨v, v1, v2⟩ := J3.hn j hj
      rw [show me_i M3 (p + 26) j = (v : Int) from v1]
      refine ca_V (by omega) (c_334 (by omega) v2 (by omega) (by omega) p2) (fun M7 _ g => ?_) nt_E_no
      exact HQ M7 (F.tr (g.1.mo fun b a z => Or.inl (rX_e b a z))) (by omega) fun w => by omega
    · refine ca_I (by omega) c_339 (fun y11 M3 _ g => ?_) nt_E_no
      obtain ⟨rfl, rfl⟩ := g
      have J2 := S2.js E
      have mi := mt.2 i z
      have q3 : tA p M3 0 (j + 1 + i) = 3 := (S2.B 0 (j + 1 + i) (by omega)).trans mi.1
      rw [show (j : Int) + 1 + (i : Int) = ((j + 1 + i : Nat) : Int) by omega]
      refine ca_V (by omega) (c_358 (by omega) J2.2.2.1 (by omega) J2.hn S2.2.2.2.1 (by omega) (by omega) (Or.inl q3) S2.2.2.1) (fun M7 _ g => ?_) nt_E_no
      obtain ⟨g1, g2, g3, g4, g5⟩ := g
      rw [show (i : Int) + 1 = ((i + 1 : Nat) : Int) by omega]
      refine ih (i + 1) M7 (by omega) (by omega) (f2.tr (g1.mo fun b a z => by omega)) (fun w => h33 (g5 w)) ⟨S2.1.tr (g1.mo fun b a z => by unfold rJ; omega), ⟨by rw [g1.i (by omega)]; exact S2.2.1.1, by rw [g1.i (by omega)]; exact S2.2.1.2.1, by rw [g1.i (by omega)]; exact S2.2.1.2.2⟩, g4, g2, fun a q a1 a2 => ?_⟩
      by_cases c : a = i
      · rw [c, g3] at a2
        have : q = j + 1 + i := by omega
        rw [this]
        exact ⟨mi.2, Or.inl mi.1⟩
      · rw [g1.i (by omega)] at a2
        exact S2.2.2.2.2 a q (by omega) a2
theorem bod_2 (J : JS p C n m cl Φ M) (hd : 1840 ≤ d) : ∀ (f j : Nat) (M1 : me_M), m - j < f → j ≤ m → BS p n m M M1 j → me_W (mt_G N X) 340 d 2 [some (.inr (.inl (some p, 29, 0))), some (.inl (j : Int)), none] [] M1 (sx_qV (fun M' => BS p n m M M' m) nt_E) := by
  have m7 := J.m7
  have n7 := J.1.2.2.1
  have c7 := J.2.1
  intro f
  induction f with
  | zero => intro j M1 z; omega
  | succ f ih =>
    intro j M1 hf hj B
    have J1 : JS p C n m cl Φ M1 := J.fr B.1
    have eB : ∀ i a, i < 10 → tA p M1 i a = tA p M i a := fun i a _ => B.1.i (by unfold rJ; omega)
    refine b340_2 ?_
    rw [J1.1.2.2.2.1, Int.toNat_natCast, show me_i M1 (p + 25) j = tA p M 0 j from eB 0 j (by omega), show me_i M1 (p + 30) j = tA p M 5 j from eB 5 j (by omega)]
    have r0 : me_r (tA p M 0 j) := me_i_r _ _ _
    have r5 : me_r (tA p M 5 j) := me_i_r _ _ _
    refine ⟨⟨by omega, by omega⟩, ⟨by omega, by omega⟩, fun z => by
      have e : j = m := by omega
      show BS p n m M M1 m
      exact e ▸ B, fun z => ⟨by omega, by omega, r0, ⟨by omega, by omega⟩, fun z1 => ⟨by omega, by omega, r0, ⟨by omega, by omega⟩, fun z2 => ?_, fun z2 => ?_⟩, fun z1 => ⟨by omega, by omega, r5, fun z5 => ⟨by omega, by omega, r0, ⟨by omega, by omega⟩, fun z2 => ?_, fun z2 => by omega⟩, fun z5 => ?_⟩⟩⟩
    · -- no member
      rw [show (j : Int) + 1 = ((j + 1 : Nat) : Int) by omega]
      refine ih (j + 1) M1 (by omega) (by omega) (bod_skip J B fun k k1 k2 => ?_)
      have := (J.pg k1).1.2.2
      rw [k2, Int.toNat_natCast] at this
      omega
    · -- a method
      have jm : j < m := by omega
      obtain ⟨E, ehc⟩ := J.eb jm (Or.inr z2)
      obtain ⟨t1, t2, t3, t4, t5⟩ : 0 ≤ tA p M 5 j ∧ tA p M 5 j < n ∧ nA p M 8 (tA p M 5 j).toNat = -1 ∧ nA p M 0 (tA p M 5 j).toNat = 20 ∧ nA p M 10 (tA p M 5 j).toNat = j := by
        rcases (J.td jm).2.2 with v | v | v | v | v
        · omega
        · omega
        · exact v.2.2.2.1
        · omega
        · omega
      obtain ⟨r, hr⟩ : ∃ r : Nat, tA p M 5 j = (r : Int) := ⟨(tA p M 5 j).toNat, by omega⟩
      rw [hr, Int.toNat_natCast] at t3 t4 t5
      obtain ⟨lo, S⟩ := seg_root J.G (show r < n by omega)
      obtain ⟨o, o1, o2, o3⟩ := J1.own jm (Or.inr ((eB 0 j (by omega)).trans z2))
      refine ca_V (by omega) (c_341 jm (by omega) J1.2.2.2.1 ⟨o, o1, o2, o3⟩) (fun M2 _ g => ?_) nt_E_no
      obtain ⟨g1, g2, ⟨i, i1, i2, i3⟩, g4, g5⟩ := g
      rw [eB 3 j (by omega), show me_i M1 (p + 37) (tA p M 3 j).toNat = me_i M (p + 37) (tA p M 3 j).toNat from B.1.i (by unfold rJ; omega), ehc] at i3
      have S2 : ES p M j (hcn p M j) m 0 lo r M2 := ⟨B.1.tr (g1.mo fun b a z => by unfold rJ; omega), ⟨by rw [i2]; exact i3.symm, by rw [g4]; exact eB 4 j (by omega), g5⟩, by rw [g1.i (by omega)]; exact B.2.1, g2, fun a q a1 => by omega⟩
      refine bod_70 J jm z2 (show r < n by omega) hr S t3 t5 t4 hd (M1 := M2) (fun w => (B.2.2.1 (by rw [← w, g1.i (by omega)])).1) (fun M3 f3 h3 a3 => ?_) 9 0 M2 (by have := (J.met jm z2).1; omega) (by have := (J.met jm z2).1; omega) fr.rf (fun w => w) S2
      rw [show (j : Int) + 1 = ((j + 1 : Nat) : Int) by omega]
      refine ih (j + 1) M3 (by omega) (by omega) (bod_next (P := fun b a => rL p (nA p M) lo r 0 b a ∨ b = p ∧ 48 ≤ a ∧ a ≤ 51) J B jm (show r < n by omega) hr S t3 t5 ((g1.mo fun b a z => Or.inr ⟨z.1, by omega⟩).tr (f3.mo fun b a z => Or.inl z)) (fun b a z => ?_) (fun a z => ?_) (fun a z => ?_) h3 fun w => ?_)
      · rcases z with z | z
        · exact rL_J b a z
        · unfold rJ
          omega
      · rcases z with z | z
        · rcases z with z | z | z
          · rcases z with z | z | ⟨z, _⟩ | z | z <;> omega
          · omega
          · omega
        · omega
      · rcases z with z | z
        · rcases z with z | z | z
          · rcases z with z | z | ⟨z, i, z1, z2, z3⟩ | z | z
            · omega
            · omega
            · exact ⟨i, z1, z2, z3⟩
            · omega
            · omega
          · omega
          · omega
        · omega
      · obtain ⟨w1, w2⟩ := a3 w
        exact ⟨by rw [← w1, g1.i (by omega)], w2⟩
    · -- a field without a body
      rw [show (j : Int) + 1 = ((j + 1 : Nat) : Int) by omega]
      refine ih (j + 1) M1 (by omega) (by omega) (bod_skip J B fun k k1 k2 => ?_)
      obtain ⟨r', q1, q2, q3, q4, q5, q6⟩ := J.root n k (by omega) k1
      rw [k2, Int.toNat_natCast] at q5
      omega
    · -- a field's body
      have jm : j < m := by omega
      obtain ⟨E, ehc⟩ := J.eb jm (Or.inl z1)
      obtain ⟨t1, t2, t3, t4, t5⟩ : 0 ≤ tA p M 5 j ∧ tA p M 5 j < n ∧ nA p M 8 (tA p M 5 j).toNat = -1 ∧ ex (nA p M) (tA p M 5 j) ∧ nA p M 10 (tA p M 5 j).toNat = j := by
        rcases (J.td jm).2.2 with v | v | v | v | v
        · omega
        · rcases v.2.2.2.1 with u | u
          · omega
          · exact u
        · omega
        · omega
        · omega
      obtain ⟨r, hr⟩ : ∃ r : Nat, tA p M 5 j = (r : Int) := ⟨(tA p M 5 j).toNat, by omega⟩
      unfold ex at t4
      rw [hr, Int.toNat_natCast] at t3 t4 t5
      have rn : r < n := by omega
      obtain ⟨lo, S⟩ := seg_root J.G rn
      have l0 := S.1
      have home := fun k k1 k2 => J.home rn S r k (by omega) k1 k2
      have r600 : r < lo + 601 := by
        have := (J.pg (k := lo) (by omega)).2.2.2
        rw [home lo (Nat.le_refl _) S.1, t5, Int.toNat_natCast, hr] at this
        omega
      have ty := (J.2.2.2.2.2.1 j jm (by omega)).1
      unfold ty_v at ty
      have s8 := J.2.2.2.1.2.1
      obtain ⟨o, o1, o2, o3⟩ := J1.own jm (Or.inl ((eB 0 j (by omega)).trans z1))
      refine ca_V (by omega) (c_341 jm (by omega) J1.2.2.2.1 ⟨o, o1, o2, o3⟩) (fun M2 _ g => ?_) nt_E_no
      obtain ⟨g1, g2, ⟨i, i1, i2, i3⟩, g4, g5⟩ := g
      rw [eB 3 j (by omega), show me_i M1 (p + 37) (tA p M 3 j).toNat = me_i M (p + 37) (tA p M 3 j).toNat from B.1.i (by unfold rJ; omega), ehc] at i3
      have S2 : ES p M j (hcn p M j) m 0 lo r M2 := ⟨B.1.tr (g1.mo fun b a z => by unfold rJ; omega), ⟨by rw [i2]; exact i3.symm, by rw [g4]; exact eB 4 j (by omega), g5⟩, by rw [g1.i (by omega)]; exact B.2.1, g2, fun a q a1 => by omega⟩
      rw [show me_i M2 (p + 30) j = (r : Int) from (S2.B 5 j (by omega)).trans hr, show me_i M2 (p + 33) j = tA p M 8 j from S2.B 8 j (by omega)]
      refine ⟨by omega, by omega, by omega, by omega, ?_⟩
      refine ca_V (by omega) (c_342 E S2 rn S t4.2.1 t4.2.2 (by omega) (by omega) (by omega)) (fun M3 _ P => ?_) nt_E_no
      obtain ⟨p1, p2, p5⟩ := P
      rw [show (j : Int) + 1 = ((j + 1 : Nat) : Int) by omega]
      refine ih (j + 1) M3 (by omega) (by omega) (bod_next (P := fun b a => rX p (nA p M) lo r b a ∨ b = p ∧ 48 ≤ a ∧ a ≤ 51) J B jm rn hr S t3 t5 ((g1.mo fun b a z => Or.inr ⟨z.1, by omega⟩).tr (p1.mo fun b a z => Or.inl z)) (fun b a z => ?_) (fun a z => ?_) (fun a z => ?_) p2 fun w => ?_)
      · rcases z with z | z
        · exact rX_J b a z
        · unfold rJ
          omega
      · rcases z with z | z
        · rcases z with z | z | ⟨z, _⟩ | z | z <;> omega
        · omega
      · rcases z with z | z
        · rcases z with z | z | ⟨z, i, z1, z2, z3⟩ | z | z
          · omega
          · omega
          · exact ⟨i, z1, z2, z3⟩
          · omega
          · omega
        · omega
      · obtain ⟨w1, w2, _, w3⟩ := p5 w
        refine ⟨by rw [← w1, g1.i (by omega)], fun k k1 k2 => ?_⟩
        have ws := w2.ws (fun a a1 a2 => seg_ex E.1.G rn S t4.2.2 r a (by omega) a1 (by omega)) k k1 (by omega)
        unfold AL
        rw [home k k1 k2, t5, Int.toNat_natCast]
        refine ⟨ws, fun z _ => ?_⟩
        by_cases c : k = r
        · rw [c]
          exact w3.resolve_left (by omega)
        · have := S.2.1 k k1 (by omega)
          omega
/-- workBodies -/
theorem c_340 (J : JS p C n m cl Φ M) (hd : 1840 ≤ d) (he : 0 ≤ me_i M p 33 ∧ me_i M p 33 ≤ 14) : me_W (mt_G N X) 340 d 0 [some (.inr (.inl (some p, 29, 0))), none, none] [] M (sx_qV (fun M' => fr (rJ p) M M' ∧ (0 ≤ me_i M' p 33 ∧ me_i M' p 33 ≤ 14) ∧ (me_i M' p 33 = 0 → me_i M p 33 = 0 ∧ ∀ k, k < n → AL p M m M' k) ∧ ∀ j : Nat, (∀ k, k < n → ¬ nA p M 4 k = j) → me_i M' (p + 38) j = me_i M (p + 38) j) nt_E) := by
  refine b340_0 ((bod_2 J hd (m + 1) 0 M (by omega) (by omega) ⟨fr.rf, he, fun z => ⟨z, fun k k1 k2 => ?_⟩, fun _ _ => rfl⟩).mono fun o M' _ g => ?_)
  · have := (J.pg k1).1
    omega
  · rcases o with a | _ | x | ⟨q, u⟩ | j <;> first | exact g.elim | skip
    exact ⟨g.1, g.2.1, fun z => ⟨(g.2.2.1 z).1, fun k k1 => (g.2.2.1 z).2 k k1 (J.pg k1).1.2.1⟩, g.2.2.2⟩
end BODY
