/-! writeStatement: if -/
section WST4
variable {N : Nat} {X : Nat → Int32} {d p C n m cl h hc dh lo w t t1 u f : Nat} {A B : Nat → Nat → Int} {b s nx cn mn T : Nat → Int} {hh : Nat → Int × Nat} {D : Nat → Prop} {M M1 : me_M} {x3 : Int}
theorem s_24a (I : STP N X p C n m cl h hc A B nx cn mn f) (hf : w - lo ≤ f) (F : STF A B b s nx cn mn T hh n dh C m cl h hc) (hd : 3 * (w - lo) + 23 ≤ d) (S : seg A lo w) (he : w < n) (h10 : ∀ k, lo ≤ k → k ≤ w → A 10 k = h) (hv : ∀ q, SC A B h lo w q → D q) (K0 : SW p C n mn B nx cn m cl h hc A u lo (w + 1) t M t1 M1 ([], D) ([], D)) (hu : u ≤ 1) (hb : t + 4 * (w + 1 - lo) ≤ 59900) (ho : A 0 w = 24) (h3 : A 3 w = -1) : me_W (mt_G N X) 403 d 68 [some (.inr (.inl (some 164, 25, 0))), some (.inl (w : Int)), some (.inr (.inl (some p, 29, 0))), some (.inl x3), none, none] [] M1 (sx_qV (fun M' => ∃ t', SW p C n mn B nx cn m cl h hc A (4 * (w + 1 - lo)) lo (w + 1) t M t' M' ([], D) ([], LD A D w)) nt_E) := by
  obtain ⟨G, ⟨n1, n2, n3⟩, hcl, hb8, hb4, har, hT⟩ := id F
  have H := K0.2.2.2.2.2.1
  have hp := H.2.2.1
  have a0 : ∀ j, me_i M1 (p + 14) j = A 0 j := fun j => H.2.2.2.1 0 j (by omega) (by omega)
  have a1 : ∀ j, me_i M1 (p + 15) j = A 1 j := fun j => H.2.2.2.1 1 j (by omega) (by omega)
  have a2 : ∀ j, me_i M1 (p + 16) j = A 2 j := fun j => H.2.2.2.1 2 j (by omega) (by omega)
  have b0 := K0.2.1
  obtain ⟨x, y, e1, e2, s1, s2, e3, x0, _, y0, x8, y8⟩ := kids_2 G he S (Or.inr (Or.inr (Or.inr ⟨ho, h3⟩)))
  have y0 := y0 (by omega)
  obtain ⟨x0, x1⟩ := x0
  have sx := s1.1
  have sy := s2.1
  have tx : ¬ T x = -5 := fun z => by
    have := ((hT x (by omega) (h10 x (by omega) (by omega)) x1).2.2 z).2.1
    rw [x8, Int.toNat_natCast] at this
    omega
  have nl : ¬ left A x := fun v => by
    have := v.2.1
    rw [x8, Int.toNat_natCast] at this
    omega
  have hve : ∀ k q, lo ≤ k → k ≤ x → SC A B h k k q → D q := fun k q k1 k2 z => hv q (SC.ex (e := x) G he S (by omega) (fun i i1 i2 => seg_ex G (by omega) s1 x1 (x - i) i (Nat.le_refl _) i1 (by omega)) k1 k2 z)
  refine b403_68 ?_
  simp only [dr_eq, Int.toNat_natCast, a0, a1, a2, e1]
  refine ⟨by omega, by omega, H.rA (by omega) (by omega), fun z => by omega, fun z => by omega, fun z => by omega, fun z => by omega, fun z => by omega, fun _ => ⟨by omega, by omega, ?_⟩, fun z => by omega, fun z => by omega, trivial⟩
  refine exp_w F K0 s1 (by omega) ⟨x0, x1⟩ (fun k k1 k2 => h10 k k1 (by omega)) hve nl (Nat.le_refl _) (by omega) (by omega) (by omega) fun M2 t2 K2 => ?_
  rw [pt_ne tx] at K2
  have b2 := K2.2.1
  have H2 := K2.2.2.2.2.2.1
  refine jmp_w H2 K2.2.2.2.2.1 (by omega) ⟨by omega, by omega⟩ ⟨by omega, by omega⟩ (by omega) fun M3 w1 => ?_
  have H3 := w1.ce H2
  have L3 := K2.2.2.2.2.2.2.gx H2.1 (w1.gw (A := A) (lo := lo) (hi := w)) fun j => xP_181
  have c2 : me_i M3 (p + 16) w = A 2 w := H3.2.2.2.1 2 w (by omega) (by omega)
  rw [c2, e2]
  refine ⟨by omega, by omega, ?_⟩
  refine stat_w (t := t2 + 1) (D := D) I (by omega) s2 (by omega) y0 (fun k k1 k2 => h10 k (by omega) (by omega)) (fun q z => hv q (SC.sub G he S (by omega) (by omega) sy y8 (by omega) z)) H3 (by have := w1.2.1; omega) w1.lw L3 (by omega) (by omega) fun M4 t3 K4 => ?_
  have b4 := K4.2.1
  have H4 := K4.2.2.2.2.2.1
  have g4 := (K4.1.len)
  have l3 := w1.2.2.2.2.2.2.1
  have c3 : me_i M4 (p + 17) w = A 3 w := H4.2.2.2.1 3 w (by omega) (by omega)
  rw [c3]
  refine ⟨by omega, by omega, ⟨by omega, by omega⟩, fun _ => ?_, fun z => by omega⟩
  refine pat_w (t2 := t3) (K := fun M7 => me_W (mt_G N X) 403 d 441 [none, none, none, none, none, none] [] M7 _) H4 K4.2.2.2.2.1 (by omega) (by omega) fun M5 g => end_441 ⟨t3, ?_⟩
  exact (if_join K2 w1 K4 ⟨tle.rf, fun q z => Or.inl z⟩ g (by omega) (by omega)).weak cle.rf ⟨tle.rf, LD.no (by omega)⟩ (by omega)
theorem s_24b (I : STP N X p C n m cl h hc A B nx cn mn f) (hf : w - lo ≤ f) (F : STF A B b s nx cn mn T hh n dh C m cl h hc) (hd : 3 * (w - lo) + 23 ≤ d) (S : seg A lo w) (he : w < n) (h10 : ∀ k, lo ≤ k → k ≤ w → A 10 k = h) (hv : ∀ q, SC A B h lo w q → D q) (K0 : SW p C n mn B nx cn m cl h hc A u lo (w + 1) t M t1 M1 ([], D) ([], D)) (hu : u ≤ 1) (hb : t + 4 * (w + 1 - lo) ≤ 59900) (ho : A 0 w = 24) (h3 : ¬ A 3 w = -1) : me_W (mt_G N X) 403 d 68 [some (.inr (.inl (some 164, 25, 0))), some (.inl (w : Int)), some (.inr (.inl (some p, 29, 0))), some (.inl x3), none, none] [] M1 (sx_qV (fun M' => ∃ t', SW p C n mn B nx cn m cl h hc A (4 * (w + 1 - lo)) lo (w + 1) t M t' M' ([], D) ([], LD A D w)) nt_E) := by
  obtain ⟨G, ⟨n1, n2, n3⟩, hcl, hb8, hb4, har, hT⟩ := id F
  have H := K0.2.2.2.2.2.1
  have hp := H.2.2.1
  have a0 : ∀ j, me_i M1 (p + 14) j = A 0 j := fun j => H.2.2.2.1 0 j (by omega) (by omega)
  have a1 : ∀ j, me_i M1 (p + 15) j = A 1 j := fun j => H.2.2.2.1 1 j (by omega) (by omega)
  have a2 : ∀ j, me_i M1 (p + 16) j = A 2 j := fun j => H.2.2.2.1 2 j (by omega) (by omega)
  have b0 := K0.2.1
  obtain ⟨x, y, v, e1, e2, e4, s1, s2, s3, e3, x0, y0, v0, x8, y8, v8⟩ := kids_3 G he S ⟨ho, h3⟩
  obtain ⟨x0, x1⟩ := x0
  have sx := s1.1
  have sy := s2.1
  have sv := s3.1
  have tx : ¬ T x = -5 := fun z => by
    have := ((hT x (by omega) (h10 x (by omega) (by omega)) x1).2.2 z).2.1
    rw [x8, Int.toNat_natCast] at this
    omega
  have nl : ¬ left A x := fun v => by
    have := v.2.1
    rw [x8, Int.toNat_natCast] at this
    omega
  have hve : ∀ k q, lo ≤ k → k ≤ x → SC A B h k k q → D q := fun k q k1 k2 z => hv q (SC.ex (e := x) G he S (by omega) (fun i i1 i2 => seg_ex G (by omega) s1 x1 (x - i) i (Nat.le_refl _) i1 (by omega)) k1 k2 z)
  refine b403_68 ?_
  simp only [dr_eq, Int.toNat_natCast, a0, a1, a2, e1]
  refine ⟨by omega, by omega, H.rA (by omega) (by omega), fun z => by omega, fun z => by omega, fun z => by omega, fun z => by omega, fun z => by omega, fun _ => ⟨by omega, by omega, ?_⟩, fun z => by omega, fun z => by omega, trivial⟩
  refine exp_w F K0 s1 (by omega) ⟨x0, x1⟩ (fun k k1 k2 => h10 k k1 (by omega)) hve nl (Nat.le_refl _) (by omega) (by omega) (by omega) fun M2 t2 K2 => ?_
  rw [pt_ne tx] at K2
  have b2 := K2.2.1
  have H2 := K2.2.2.2.2.2.1
  refine jmp_w H2 K2.2.2.2.2.1 (by omega) ⟨by omega, by omega⟩ ⟨by omega, by omega⟩ (by omega) fun M3 w1 => ?_
  have H3 := w1.ce H2
  have L3 := K2.2.2.2.2.2.2.gx H2.1 (w1.gw (A := A) (lo := lo) (hi := w)) fun j => xP_181
  have c2 : me_i M3 (p + 16) w = A 2 w := H3.2.2.2.1 2 w (by omega) (by omega)
  rw [c2, e2]
  refine ⟨by omega, by omega, ?_⟩
  refine stat_w (t := t2 + 1) (D := D) I (by omega) s2 (by omega) y0 (fun k k1 k2 => h10 k (by omega) (by omega)) (fun q z => hv q (SC.sub G he S (by omega) (by omega) sy y8 (by omega) z)) H3 (by have := w1.2.1; omega) w1.lw L3 (by omega) (by omega) fun M4 t3 K4 => ?_
  have b4 := K4.2.1
  have H4 := K4.2.2.2.2.2.1
  have g4 := (K4.1.len)
  have l3 := w1.2.2.2.2.2.2.1
  have c3 : me_i M4 (p + 17) w = A 3 w := H4.2.2.2.1 3 w (by omega) (by omega)
  rw [c3]
  refine ⟨by omega, by omega, ⟨by omega, by omega⟩, fun z => by omega, fun _ => ?_⟩
  refine jmp_w H4 K4.2.2.2.2.1 (by omega) ⟨by omega, by omega⟩ ⟨by omega, by omega⟩ (by omega) fun M5 w2 => ?_
  have H5 := w2.ce H4
  have L5 := K4.2.2.2.2.2.2.gx H4.1 (w2.gw (A := A) (lo := lo) (hi := w)) fun j => xP_181
  have g5 := (w2.gw (A := A) (lo := lo) (hi := w)).len
  refine pat_w (t2 := t3 + 1) (K := fun M6 => 0 ≤ (w : Int) ∧ (w : Int) < ((4816 : Nat) : Int) ∧ ∃ d', d = d' + 1 ∧ me_W (mt_G N X) 403 d' 0 [some (.inr (.inl (some 164, 25, 0))), some (.inl (me_i M6 (p + 17) w)), none, none, none, none] [] M6 _) H5 (by have := w2.2.1; omega) (by omega) (by omega) fun M6 g => ⟨by omega, by omega, ?_⟩
  have H6 := g.ce H5
  have c6 : me_i M6 (p + 17) w = A 3 w := H6.2.2.2.1 3 w (by omega) (by omega)
  have l5 := w2.2.2.2.2.2.2.1
  have g6 := g.1.len
  rw [c6, e4]
  refine stat_w (t := t3 + 1) (D := D) I (by omega) s3 (by omega) v0 (fun k k1 k2 => h10 k (by omega) (by omega)) (fun q z => hv q (SC.sub G he S (by omega) (by omega) sv v8 (by omega) z)) H6 (by rw [g.i H5.1]; have := w2.2.1; omega) (g.lw H5.1 w2.lw) (g.ls H5.1 L5) (by omega) (by omega) fun M7 t4 K7 => ?_
  have b7 := K7.2.1
  have H7 := K7.2.2.2.2.2.1
  have g7 := K7.1.len
  refine pat_w (t2 := t4) (K := fun M8 => me_W (mt_G N X) 403 d 441 [none, none, none, none, none, none] [] M8 _) H7 K7.2.2.2.2.1 (by omega) (by omega) fun M8 k => end_441 ⟨t4, ?_⟩
  exact (ife_join K2 w1 K4 ⟨tle.rf, fun q z => Or.inl z⟩ w2 g K7 ⟨tle.rf, fun q z => Or.inl z⟩ k (by omega) (by omega) (by omega) (by omega)).weak cle.rf ⟨tle.rf, LD.no (by omega)⟩ (by omega)
end WST4
