/-! writeSet -/
/-- a store: local, field of a class, field of self, field of an object -/
theorem SA_17 {B : Nat → Nat → Int} {nx cn : Nat → Int} {m cl h hc q : Nat} {e v : Int} {r : List Int} {D D' : Nat → Prop} (q2 : q < m) (h3 : B 3 q = (h : Int)) (h0 : B 0 q = 3 ∨ B 0 q = 4) (hf : fit nx v (B 8 q)) (hD : ∀ i, D' i → D i ∨ i = q) : SA B nx cn m cl h hc 17 q e (v :: r, D) (r, D') := Or.inr (Or.inr (Or.inr (Or.inr (Or.inr (Or.inr (Or.inr (Or.inr (Or.inr (Or.inr (Or.inr (Or.inr (Or.inl ⟨rfl, q, v, r, rfl, q2, h3, h0, hf, rfl, rfl, hD⟩))))))))))))
theorem SA_18 {B : Nat → Nat → Int} {nx cn : Nat → Int} {m cl h hc q : Nat} {e v : Int} {r : List Int} {D : Nat → Prop} (q2 : q < m) (h0 : B 0 q = 1) (h4 : B 4 q = 1) (hf : fit nx v (B 8 q)) : SA B nx cn m cl h hc 18 q e (v :: r, D) (r, D) := Or.inr (Or.inr (Or.inr (Or.inr (Or.inr (Or.inr (Or.inr (Or.inr (Or.inr (Or.inr (Or.inr (Or.inr (Or.inr (Or.inl ⟨rfl, rfl, q, v, r, rfl, q2, h0, h4, hf, rfl, rfl⟩)))))))))))))
theorem SA_19 {B : Nat → Nat → Int} {nx cn : Nat → Int} {m cl h hc q : Nat} {e v : Int} {r : List Int} {D : Nat → Prop} (q2 : q < m) (h0 : B 0 q = 1) (h4 : B 4 q = 0) (hh : B 4 h = 0) (hm : ME8 B nx cn m hc q) (hf : fit nx v (B 8 q)) : SA B nx cn m cl h hc 19 q e (v :: r, D) (r, D) := Or.inr (Or.inr (Or.inr (Or.inr (Or.inr (Or.inr (Or.inr (Or.inr (Or.inr (Or.inr (Or.inr (Or.inr (Or.inr (Or.inr (Or.inl ⟨rfl, rfl, q, v, r, rfl, q2, h0, h4, hh, hm, hf, rfl, rfl⟩))))))))))))))
theorem SA_20 {B : Nat → Nat → Int} {nx cn : Nat → Int} {m cl h hc q : Nat} {e v u : Int} {r : List Int} {D : Nat → Prop} (q2 : q < m) (h0 : B 0 q = 1) (h4 : B 4 q = 0) (hf : fit nx v (B 8 q)) (hu : 10 ≤ u) (hm : ME8 B nx cn m (u - 10) q) : SA B nx cn m cl h hc 20 q e (v :: u :: r, D) (r, D) := Or.inr (Or.inr (Or.inr (Or.inr (Or.inr (Or.inr (Or.inr (Or.inr (Or.inr (Or.inr (Or.inr (Or.inr (Or.inr (Or.inr (Or.inr (Or.inl ⟨rfl, rfl, q, v, u, r, rfl, q2, h0, h4, hf, hu, hm, rfl, rfl⟩)))))))))))))))
theorem SA_15 {B : Nat → Nat → Int} {nx cn : Nat → Int} {m cl h hc : Nat} {o f e : Int} {x : cx} (ho : o = 15 ∨ o = 16 ∨ o = 26) : SA B nx cn m cl h hc o f e x x := Or.inr (Or.inr (Or.inr (Or.inr (Or.inr (Or.inr (Or.inr (Or.inr (Or.inr (Or.inr (Or.inr (Or.inl ⟨ho, rfl, rfl⟩)))))))))))
theorem SA_21 {B : Nat → Nat → Int} {nx cn : Nat → Int} {m cl h hc : Nat} {o f e v : Int} {r : List Int} {D : Nat → Prop} (ho : o = 21 ∨ o = 25) : SA B nx cn m cl h hc o f e (v :: r, D) (r, D) := Or.inr (Or.inr (Or.inr (Or.inr (Or.inr (Or.inr (Or.inr (Or.inr (Or.inr (Or.inr (Or.inr (Or.inr (Or.inr (Or.inr (Or.inr (Or.inr (⟨ho, rfl, v, rfl⟩))))))))))))))))
section WSET
variable {N : Nat} {X : Nat → Int32} {d p C n m cl h hc dh lo w t x y : Nat} {A B : Nat → Nat → Int} {b s nx cn mn T : Nat → Int} {hh : Nat → Int × Nat} {D : Nat → Prop} {M : me_M} {st : List Int}
theorem c_404 (F : STF A B b s nx cn mn T hh n dh C m cl h hc) (hd : 12 ≤ d) (S : seg A lo w) (he : w < n) (ho : A 0 w = 22) (ex : A 1 w = (x : Int)) (ey : A 2 w = (y : Int)) (hx : A 0 x = 7 ∨ A 0 x = 11) (tx : ¬ T x = -5) (hf : fit nx (T y) (T x)) (h10 : ∀ k, lo ≤ k → k ≤ w → A 10 k = h) (hv : ∀ q, SC A B h lo w q → D q) (H : CEV p C A B cn mn M) (h30 : me_i M 164 30 = (t : Int)) (lw : LW M) (L : LSA A n M) (hb : t + 2 * (w + 1 - lo) ≤ 59980) : me_W (mt_G N X) 404 d 0 [some (.inr (.inl (some 164, 25, 0))), some (.inl (x : Int)), some (.inl (y : Int)), none, none, none] [] M (sx_qV (fun M' => ∃ t', SW p C n mn B nx cn m cl h hc A (2 * (w + 1 - lo)) lo (w + 1) t M t' M' (st, D) (st, D)) nt_E) := by
  obtain ⟨G, ⟨n1, n2, n3⟩, hcl, hb8, hb4, har, hT⟩ := id F
  obtain ⟨x', y', e1, e2, s1, s2, e3, x0, y0, _, x8, y8⟩ := kids_2 G he S (Or.inr (Or.inl ho))
  have y0 := y0 (by omega)
  have ex' : x' = x := by omega
  have ey' : y' = y := by omega
  subst ex' ey'
  have sx := s1.1
  have sy := s2.1
  have ty : ¬ T y' = -5 := fun z => by
    have := ((hT y' (by omega) (h10 y' (by omega) (by omega)) y0.2).2.2 z).2.1
    rw [y8, Int.toNat_natCast] at this
    omega
  have nly : ¬ left A y' := fun v => by
    have := v.2.1
    rw [y8, Int.toNat_natCast] at this
    omega
  have exs : ∀ k, lo ≤ k → k < y' + 1 → A 0 k ≤ 16 := fun k k1 k2 => by
    by_cases c : k ≤ x'
    · exact seg_ex G (by omega) s1 x0.2 (x' - k) k (Nat.le_refl _) k1 c
    · exact seg_ex G (by omega) s2 y0.2 (y' - k) k (Nat.le_refl _) (by omega) (by omega)
  have hve : ∀ k q, lo ≤ k → k ≤ y' → SC A B h k k q → D q := fun k q k1 k2 z => hv q (SC.ex (e := y') G he S (by omega) exs k1 k2 z)
  have hw := (hT x' (by omega) (h10 x' (by omega) (by omega)) x0.2).1
  have wq : ∃ q : Nat, mn (A 4 x').toNat = (q : Int) ∧ q < m ∧ T x' = B 8 q ∧ (A 0 x' = 7 → B 0 q = 1 ∧ (B 4 h = 0 ∨ B 4 q = 1) ∧ ME8 B nx cn m hc q ∨ SC A B h x' x' q) ∧ (A 0 x' = 11 → B 0 q = 1 ∧ (B 4 q = 1 ∨ B 4 q = 0 ∧ 10 ≤ T (A 1 x').toNat ∧ ME8 B nx cn m (T (A 1 x').toNat - 10) q)) := by
    rcases hx with z | z
    · obtain ⟨q, q1, q2, q3⟩ := hw.2.2.2.1 z
      rcases q3 with q3 | ⟨q3, q4⟩
      · exact absurd q3.2.1 tx
      · exact ⟨q, q1, q2, q3, fun _ => q4, fun v => by omega⟩
    · obtain ⟨q, q1, q2, q3, q4, q5⟩ := hw.2.2.2.2.2.2.2.1 z
      exact ⟨q, q1, q2, q4, fun v => by omega, fun _ => ⟨q3, q5.imp (fun z => z.2) id⟩⟩
  obtain ⟨q, q1, q2, q3, q7, q11⟩ := wq
  rw [q3] at hf
  have nm := nm_k G (show x' < n by omega)
  have rq : me_r (q : Int) := ⟨by omega, by omega⟩
  have h4q := hb4 q q2
  clear hw hT har hb8 hcl
  have S0 : SW p C n mn B nx cn m cl h hc A 0 lo (w + 1) t M t M (st, D) (st, D) := SW.nil H h30 lw L cle.rf
  obtain ⟨G0, h6, hp, hA, hB, hmn, hcn, hX, hK⟩ := id H
  have a0 : ∀ j, me_i M (p + 14) j = A 0 j := fun j => hA 0 j (by omega) (by omega)
  have a1 : ∀ j, me_i M (p + 15) j = A 1 j := fun j => hA 1 j (by omega) (by omega)
  have a4 : ∀ j, me_i M (p + 18) j = A 4 j := fun j => hA 4 j (by omega) (by omega)
  have b0 : ∀ j, me_i M (p + 25) j = B 0 j := fun j => hB 0 j (by omega)
  have b4 : ∀ j, me_i M (p + 29) j = B 4 j := fun j => hB 4 j (by omega)
  refine b404_0 ?_
  simp only [h6, dr_eq, Int.toNat_natCast, a0, a1, a4, b4, hmn, q1, Int.reduceEq, true_implies, false_implies, not_true_eq_false, not_false_eq_true, and_true, true_and]
  -- the tail: a store by a name, or by a class's name
  have fin : ∀ (o : Int) (M4 : me_M) (t4 u : Nat) (E : Nat → me_M → Prop) (z : cx), SW p C n mn B nx cn m cl h hc A u lo (w + 1) t M t4 M4 (st, D) z → u + 1 ≤ 2 * (w + 1 - lo) → me_r o → SA B nx cn m cl h hc o q 0 z (st, D) → ∃ d', d = d' + 1 ∧ me_W (mt_G N X) 399 d' 0 [some (.inr (.inl (some 164, 25, 0))), some (.inl o), some (.inl (q : Int)), some (.inl 0)] [] M4 (sx_qI (fun _ M2 => ∃ t', SW p C n mn B nx cn m cl h hc A (2 * (w + 1 - lo)) lo (w + 1) t M t' M2 (st, D) (st, D)) E) := fun o M4 t4 u E z K ku ro hs => by
    have := K.2.1
    exact act_w K (by omega) ro rq ⟨by omega, by omega⟩ hs (by omega) fun M2 K2 => ⟨_, K2.weak cle.rf cle.rf ku⟩
  have bb : ∀ (M4 : me_M), CEV p C A B cn mn M4 → me_i M4 (p + 25) q = B 0 q ∧ me_i M4 (p + 29) q = B 4 q := fun M4 z => ⟨z.2.2.2.2.1 0 q (by omega), z.2.2.2.2.1 4 q (by omega)⟩
  refine ⟨by omega, by omega, by omega, by omega, by omega, by omega, H.rA (by omega) (by omega), ⟨by omega, by omega⟩, fun z => ⟨⟨by omega, by omega⟩, exp_w F S0 s2 (by omega) y0 (fun k k1 k2 => h10 k (by omega) (by omega)) (fun k q k1 k2 => hve k q (by omega) k2) nly (by omega) (by omega) (by omega) (by omega) fun M4 t4 K4 => ?_⟩, fun z => ⟨by omega, by omega, fun z0 => ⟨H.rB (by omega), fun y0' => ⟨⟨by omega, by omega⟩, exp_w F S0 s2 (by omega) y0 (fun k k1 k2 => h10 k (by omega) (by omega)) (fun k q k1 k2 => hve k q (by omega) k2) nly (by omega) (by omega) (by omega) (by omega) fun M4 t4 K4 => ?_⟩, fun y0' => ?_⟩⟩⟩
  · have q7 := q7 (by omega)
    rw [pt_ne ty] at K4
    obtain ⟨c0, c4⟩ := bb M4 K4.2.2.2.2.2.1
    rw [c0, c4]
    refine ⟨⟨by omega, by omega⟩, by omega, by omega, H.rB (by omega), ⟨by omega, by omega⟩, fun z1 => ⟨by omega, by omega, fun z2 => ⟨H.rB (by omega), fun z3 => ?_, fun z3 => ?_⟩⟩, fun z1 => ?_⟩
    · rcases q7 with v | v
      · exact fin 19 M4 t4 _ _ _ K4 (by omega) ⟨by omega, by omega⟩ (SA_19 q2 z1 z3 (by have := v.2.1; omega) v.2.2 hf)
      · exact absurd v.2 (fun v => by rcases v with v | v; omega; have := v.1; omega)
    · exact fin 18 M4 t4 _ _ _ K4 (by omega) ⟨by omega, by omega⟩ (SA_18 q2 z1 (by omega) hf)
    · rcases q7 with v | v
      · exact absurd v.1 z1
      · exact fin 17 M4 t4 _ _ _ K4 (by omega) ⟨by omega, by omega⟩ (SA_17 q2 v.1 (v.2.imp id fun z => z.1) hf fun i z => Or.inl z)
  · have q11 := q11 z
    rw [pt_ne ty] at K4
    obtain ⟨c0, c4⟩ := bb M4 K4.2.2.2.2.2.1
    rw [c0, c4]
    refine ⟨⟨by omega, by omega⟩, by omega, by omega, H.rB (by omega), ⟨by omega, by omega⟩, fun z1 => ⟨by omega, by omega, fun z2 => ⟨H.rB (by omega), fun z3 => ?_, fun z3 => ?_⟩⟩, fun z1 => ?_⟩
    · exact absurd z3 y0'
    · exact fin 18 M4 t4 _ _ _ K4 (by omega) ⟨by omega, by omega⟩ (SA_18 q2 z1 (by omega) hf)
    · exact absurd q11.1 z1
  · have q11 := q11 z
    obtain ⟨zz, k1, k2, k3, k4, k5, k6⟩ := kids_1 G (by omega) s1 (by omega)
    have sz := k2.1
    rw [k1, Int.toNat_natCast] at q11
    have nz : ¬ left A zz := fun v => by
      have := v.2.1
      rw [k6, Int.toNat_natCast] at this
      omega
    rw [k1]
    rcases q11.2 with v | ⟨v1, v2, v3⟩
    · omega
    · refine ⟨⟨by omega, by omega⟩, by omega, by omega, exp_w F S0 k2 (by omega) ⟨k4, k5⟩ (fun k k1 k2 => h10 k k1 (by omega)) (fun k q k1 k2 => hve k q k1 (by omega)) nz (Nat.le_refl _) (by omega) (by omega) (by omega) fun M3 t3 K3 => ?_⟩
      rw [pt_ne (by omega)] at K3
      have b3 := K3.2.1
      refine exp_w F K3 s2 (by omega) y0 (fun k k1 k2 => h10 k (by omega) (by omega)) (fun k q k1 k2 => hve k q (by omega) k2) nly (by omega) (by omega) (by omega) (by omega) fun M4 t4 K4 => ?_
      rw [pt_ne ty] at K4
      exact ⟨⟨by omega, by omega⟩, fin 20 M4 t4 _ _ _ K4 (by omega) ⟨by omega, by omega⟩ (SA_20 q2 q11.1 v1 hf v2 v3)⟩
end WSET
