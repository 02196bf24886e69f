/-! writeStatement: locals, sets, returns -/
section WST2
variable {N : Nat} {X : Nat → Int32} {d p C n m cl h hc dh lo w t t1 u : Nat} {A B : Nat → Nat → Int} {b s nx cn mn T : Nat → Int} {hh : Nat → Int × Nat} {D : Nat → Prop} {M M1 : me_M} {x3 : Int}
theorem s_21 (F : STF A B b s nx cn mn T hh n dh C m cl h hc) (hd : 20 ≤ d) (S : seg A lo w) (he : w < n) (h10 : ∀ k, lo ≤ k → k ≤ w → A 10 k = h) (hv : ∀ q, SC A B h lo w q → D q) (K0 : SW p C n mn B nx cn m cl h hc A u lo (w + 1) t M t1 M1 ([], D) ([], D)) (hu : u ≤ 1) (hb : t + 4 * (w + 1 - lo) ≤ 59900) (ho : A 0 w = 21) (hs : ∃ q : Nat, A 2 w = (q : Int) ∧ q < m ∧ B 3 q = (h : Int) ∧ B 0 q = 4 ∧ fit nx (T (A 1 w).toNat) (B 8 q)) : me_W (mt_G N X) 403 d 68 [some (.inr (.inl (some 164, 25, 0))), some (.inl (w : Int)), some (.inr (.inl (some p, 29, 0))), some (.inl x3), none, none] [] M1 (sx_qV (fun M' => ∃ t', SW p C n mn B nx cn m cl h hc A (4 * (w + 1 - lo)) lo (w + 1) t M t' M' ([], D) ([], LD A D w)) nt_E) := by
  obtain ⟨G, ⟨n1, n2, n3⟩, hcl, hb8, hb4, har, hT⟩ := id F
  have H := K0.2.2.2.2.2.1
  have hp := H.2.2.1
  have a0 : ∀ j, me_i M1 (p + 14) j = A 0 j := fun j => H.2.2.2.1 0 j (by omega) (by omega)
  have a1 : ∀ j, me_i M1 (p + 15) j = A 1 j := fun j => H.2.2.2.1 1 j (by omega) (by omega)
  have a2 : ∀ j, me_i M1 (p + 16) j = A 2 j := fun j => H.2.2.2.1 2 j (by omega) (by omega)
  have b0 := K0.2.1
  obtain ⟨x, e1, s1, e2, x0, x1, x8⟩ := kids_1 G he S (by omega)
  have sx := s1.1
  have tx : ¬ T x = -5 := fun z => by
    have := ((hT x (by omega) (h10 x (by omega) (by omega)) x1).2.2 z).2.1
    rw [x8, Int.toNat_natCast] at this
    omega
  have nl : ¬ left A x := fun v => by
    have := v.2.1
    rw [x8, Int.toNat_natCast] at this
    omega
  have hve : ∀ k q, lo ≤ k → k ≤ x → SC A B h k k q → D q := fun k q k1 k2 z => hv q (SC.ex (e := x) G he S (by omega) (fun i i1 i2 => seg_ex G (by omega) s1 x1 (x - i) i (Nat.le_refl _) i1 (by omega)) k1 k2 z)
  obtain ⟨q, q1, q2, q3, q4, q5⟩ := hs
  rw [e1, Int.toNat_natCast] at q5
  refine b403_68 ?_
  simp only [dr_eq, Int.toNat_natCast, a0, a1, a2, e1]
  refine ⟨by omega, by omega, H.rA (by omega) (by omega), fun z => by omega, fun z => by omega, fun _ => ⟨by omega, by omega, ?_⟩, fun z => by omega, fun z => by omega, fun z => by omega, fun z => by omega, fun z => by omega, trivial⟩
  refine exp_w F K0 s1 (by omega) ⟨x0, x1⟩ (fun k k1 k2 => h10 k k1 (by omega)) hve nl (Nat.le_refl _) (by omega) (by omega) (by omega) fun M2 t2 K2 => ?_
  rw [pt_ne tx] at K2
  have b2 := K2.2.1
  have c2 : me_i M2 (p + 16) w = A 2 w := K2.2.2.2.2.2.1.2.2.2.1 2 w (by omega) (by omega)
  rw [c2, q1]
  refine ⟨by omega, by omega, ?_⟩
  refine act_w K2 (by omega) ⟨by omega, by omega⟩ ⟨by omega, by omega⟩ ⟨by omega, by omega⟩ (SA_17 q2 q3 (Or.inr q4) q5 (D' := LD A D w) fun i z => ?_) (by omega) fun M3 K3 => end_441 ⟨_, K3.weak cle.rf cle.rf (by omega)⟩
  rcases z with z | z
  · exact Or.inl z
  · have := z.2
    exact Or.inr (by omega)
theorem s_22 (F : STF A B b s nx cn mn T hh n dh C m cl h hc) (hd : 20 ≤ d) (S : seg A lo w) (he : w < n) (h10 : ∀ k, lo ≤ k → k ≤ w → A 10 k = h) (hv : ∀ q, SC A B h lo w q → D q) (K0 : SW p C n mn B nx cn m cl h hc A u lo (w + 1) t M t1 M1 ([], D) ([], D)) (hu : u ≤ 1) (hb : t + 4 * (w + 1 - lo) ≤ 59900) (ho : A 0 w = 22) (hs : (A 0 (A 1 w).toNat = 7 ∨ A 0 (A 1 w).toNat = 11) ∧ ¬ T (A 1 w).toNat = -5 ∧ fit nx (T (A 2 w).toNat) (T (A 1 w).toNat)) : me_W (mt_G N X) 403 d 68 [some (.inr (.inl (some 164, 25, 0))), some (.inl (w : Int)), some (.inr (.inl (some p, 29, 0))), some (.inl x3), none, none] [] M1 (sx_qV (fun M' => ∃ t', SW p C n mn B nx cn m cl h hc A (4 * (w + 1 - lo)) lo (w + 1) t M t' M' ([], D) ([], LD A D w)) nt_E) := by
  obtain ⟨G, ⟨n1, n2, n3⟩, hcl, hb8, hb4, har, hT⟩ := id F
  have H := K0.2.2.2.2.2.1
  have hp := H.2.2.1
  have a0 : ∀ j, me_i M1 (p + 14) j = A 0 j := fun j => H.2.2.2.1 0 j (by omega) (by omega)
  have a1 : ∀ j, me_i M1 (p + 15) j = A 1 j := fun j => H.2.2.2.1 1 j (by omega) (by omega)
  have a2 : ∀ j, me_i M1 (p + 16) j = A 2 j := fun j => H.2.2.2.1 2 j (by omega) (by omega)
  have b0 := K0.2.1
  obtain ⟨x, y, e1, e2, s1, s2, e3, _⟩ := kids_2 G he S (Or.inr (Or.inl ho))
  have sx := s1.1
  have sy := s2.1
  rw [e1, e2, Int.toNat_natCast, Int.toNat_natCast] at hs
  obtain ⟨q1, q2, q3⟩ := hs
  refine b403_68 ?_
  simp only [dr_eq, Int.toNat_natCast, a0, a1, a2, e1, e2]
  refine ⟨by omega, by omega, H.rA (by omega) (by omega), fun z => by omega, fun z => by omega, fun z => by omega, fun _ => ⟨by omega, by omega, by omega, by omega, ?_⟩, fun z => by omega, fun z => by omega, fun z => by omega, fun z => by omega, trivial⟩
  refine ca_V (by omega) (c_404 (D := D) (st := []) F (by omega) S he ho e1 e2 q1 q2 q3 h10 hv H K0.2.2.2.2.1 K0.2.2.2.1 K0.2.2.2.2.2.2 (by omega)) (fun M2 _ q => ?_) nt_E_no
  obtain ⟨t2, K2⟩ := q
  exact end_441 ⟨t2, (K0.seq K2 (Nat.le_refl _) (Nat.le_refl _)).weak cle.rf ⟨tle.rf, LD.no (by omega)⟩ (by omega)⟩
/-- a return's act -/
theorem ret_w {K : me_M → Prop} {E : Nat → me_M → Prop} {v : Int} {D1 D2 : Nat → Prop} {x : cx} (H : SW p C n mn B nx cn m cl h hc A u lo w t M t1 M1 x ([v], D1)) (hb : t1 < 60000) (h2 : B 0 h = 2) (hf : fit nx v (B 8 h)) (hd : 5 ≤ d) (k : ∀ M2, SW p C n mn B nx cn m cl h hc A (u + 1) lo w t M (t1 + 1) M2 x ([], D2) → K M2) : ∃ d', d = d' + 1 ∧ me_W (mt_G N X) 399 d' 0 [some (.inr (.inl (some 164, 25, 0))), some (.inl 24), some (.inl 0), some (.inl 0)] [] M1 (sx_qI (fun _ M2 => K M2) E) := by
  obtain ⟨a1, a2, a3, a4, a5, a6, a7⟩ := id H
  refine ca_I (by omega) (c_399 a6.1 a5 hb ⟨by omega, by omega⟩ ⟨by omega, by omega⟩ (by omega)) (fun y M2 _ q => k M2 ?_) nt_E_no
  have q := q.2
  have lw := q.lw
  have ce := q.ce a6
  obtain ⟨w1, w2, w3, w4, w5, _⟩ := q
  have g1 : gx (xP A lo w) (xR t1) M1 M2 := w1.mo (fun b j z => Or.inl z) fun j i z => ⟨z.1, by have := z.2; omega⟩
  exact H.seq (lo' := lo) (hi' := w) (v := 1) ⟨g1, by omega, ACD.ret w3 h2 rfl hf, lw, by omega, ce, a7.gx a6.1 g1 fun j => xP_181⟩ (Nat.le_refl _) (Nat.le_refl _)
theorem s_26 (F : STF A B b s nx cn mn T hh n dh C m cl h hc) (hd : 20 ≤ d) (S : seg A lo w) (he : w < n) (h10 : ∀ k, lo ≤ k → k ≤ w → A 10 k = h) (hv : ∀ q, SC A B h lo w q → D q) (K0 : SW p C n mn B nx cn m cl h hc A u lo (w + 1) t M t1 M1 ([], D) ([], D)) (hu : u ≤ 1) (hb : t + 4 * (w + 1 - lo) ≤ 59900) (ho : A 0 w = 26) (hs : B 0 h = 2 ∧ (A 1 w = -1 ∧ B 8 h = 3 ∨ 0 ≤ A 1 w ∧ fit nx (T (A 1 w).toNat) (B 8 h))) : me_W (mt_G N X) 403 d 68 [some (.inr (.inl (some 164, 25, 0))), some (.inl (w : Int)), some (.inr (.inl (some p, 29, 0))), some (.inl x3), none, none] [] M1 (sx_qV (fun M' => ∃ t', SW p C n mn B nx cn m cl h hc A (4 * (w + 1 - lo)) lo (w + 1) t M t' M' ([], D) ([], LD A D w)) nt_E) := by
  obtain ⟨G, ⟨n1, n2, n3⟩, hcl, hb8, hb4, har, hT⟩ := id F
  have H := K0.2.2.2.2.2.1
  have hp := H.2.2.1
  have a0 : ∀ j, me_i M1 (p + 14) j = A 0 j := fun j => H.2.2.2.1 0 j (by omega) (by omega)
  have a1 : ∀ j, me_i M1 (p + 15) j = A 1 j := fun j => H.2.2.2.1 1 j (by omega) (by omega)
  have a2 : ∀ j, me_i M1 (p + 16) j = A 2 j := fun j => H.2.2.2.1 2 j (by omega) (by omega)
  have b0 := K0.2.1
  obtain ⟨h2, hs⟩ := hs
  by_cases c : A 1 w = -1
  · have hs : B 8 h = 3 := by omega
    have hl := S.1
    refine b403_68 ?_
    simp only [dr_eq, Int.toNat_natCast, a0, a1, a2]
    refine ⟨by omega, by omega, H.rA (by omega) (by omega), fun z => by omega, fun z => by omega, fun z => by omega, fun z => by omega, fun z => by omega, fun z => by omega, fun z => by omega, fun _ => ⟨by omega, by omega, H.rA (by omega) (by omega), fun z => by omega, fun z => ?_⟩, trivial⟩
    refine act_w (z := ([3], D)) K0 (by omega) ⟨by omega, by omega⟩ ⟨by omega, by omega⟩ ⟨by omega, by omega⟩ (Or.inl ⟨rfl, rfl, 3, rfl, by omega⟩) (by omega) fun M2 K2 => ?_
    have b2 := K2.2.1
    exact b403_410 (ret_w K2 (by omega) h2 (Or.inl hs.symm) (by omega) fun M3 K3 => end_441 ⟨_, K3.weak cle.rf cle.rf (by omega)⟩)
  · have hs : fit nx (T (A 1 w).toNat) (B 8 h) := by
      rcases hs with z | z
      · exact absurd z.1 c
      · exact z.2
    obtain ⟨x, e1, s1, e2, x0, x1, x8⟩ := kids_1 G he S (by omega)
    have sx := s1.1
    have tx : ¬ T x = -5 := fun z => by
      have := ((hT x (by omega) (h10 x (by omega) (by omega)) x1).2.2 z).2.1
      rw [x8, Int.toNat_natCast] at this
      omega
    have nl : ¬ left A x := fun v => by
      have := v.2.1
      rw [x8, Int.toNat_natCast] at this
      omega
    have hve : ∀ k q, lo ≤ k → k ≤ x → SC A B h k k q → D q := fun k q k1 k2 z => hv q (SC.ex (e := x) G he S (by omega) (fun i i1 i2 => seg_ex G (by omega) s1 x1 (x - i) i (Nat.le_refl _) i1 (by omega)) k1 k2 z)
    rw [e1, Int.toNat_natCast] at hs
    refine b403_68 ?_
    simp only [dr_eq, Int.toNat_natCast, a0, a1, a2, e1]
    refine ⟨by omega, by omega, H.rA (by omega) (by omega), fun z => by omega, fun z => by omega, fun z => by omega, fun z => by omega, fun z => by omega, fun z => by omega, fun z => by omega, fun _ => ⟨by omega, by omega, ⟨by omega, by omega⟩, fun _ => ⟨by omega, by omega, ?_⟩, fun z => by omega⟩, trivial⟩
    refine exp_w F K0 s1 (by omega) ⟨x0, x1⟩ (fun k k1 k2 => h10 k k1 (by omega)) hve nl (Nat.le_refl _) (by omega) (by omega) (by omega) fun M2 t2 K2 => ?_
    rw [pt_ne tx] at K2
    have b2 := K2.2.1
    exact b403_410 (ret_w K2 (by omega) h2 hs (by omega) fun M3 K3 => end_441 ⟨_, K3.weak cle.rf cle.rf (by omega)⟩)
end WST2
