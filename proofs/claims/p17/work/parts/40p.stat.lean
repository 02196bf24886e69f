/-! writeStatement, by sorts -/
/-- names set behind statement w -/
def LD (A : Nat → Nat → Int) (D : Nat → Prop) (w : Nat) : Nat → Prop := fun q => D q ∨ A 0 w = 21 ∧ A 2 w = (q : Int)
section WST
variable {N : Nat} {X : Nat → Int32} {d p C n m cl h hc dh lo w t t1 u : Nat} {A B : Nat → Nat → Int} {b s nx cn mn T : Nat → Int} {hh : Nat → Int × Nat} {D : Nat → Prop} {M M1 : me_M} {x3 : Int}
theorem LD.no (ho : ¬ A 0 w = 21) : ∀ q, LD A D w q → D q := fun q z => z.elim id fun z => absurd z.1 ho
theorem end_441 {Q : me_Q} {M2 : me_M} (h : Q (.inr none) M2) : me_W (mt_G N X) 403 d 441 [none, none, none, none, none, none] [] M2 Q := b403_441 h
theorem s_27 (F : STF A B b s nx cn mn T hh n dh C m cl h hc) (hd : 20 ≤ d) (S : seg A lo w) (he : w < n) (h10 : ∀ k, lo ≤ k → k ≤ w → A 10 k = h) (hv : ∀ q, SC A B h lo w q → D q) (K0 : SW p C n mn B nx cn m cl h hc A u lo (w + 1) t M t1 M1 ([], D) ([], D)) (hu : u ≤ 1) (hb : t + 4 * (w + 1 - lo) ≤ 59900) (ho : A 0 w = 27) : me_W (mt_G N X) 403 d 68 [some (.inr (.inl (some 164, 25, 0))), some (.inl (w : Int)), some (.inr (.inl (some p, 29, 0))), some (.inl x3), none, none] [] M1 (sx_qV (fun M' => ∃ t', SW p C n mn B nx cn m cl h hc A (4 * (w + 1 - lo)) lo (w + 1) t M t' M' ([], D) ([], LD A D w)) nt_E) := by
  obtain ⟨G, ⟨n1, n2, n3⟩, hcl, hb8, hb4, har, hT⟩ := id F
  have H := K0.2.2.2.2.2.1
  have hp := H.2.2.1
  have a0 : ∀ j, me_i M1 (p + 14) j = A 0 j := fun j => H.2.2.2.1 0 j (by omega) (by omega)
  have a1 : ∀ j, me_i M1 (p + 15) j = A 1 j := fun j => H.2.2.2.1 1 j (by omega) (by omega)
  have a2 : ∀ j, me_i M1 (p + 16) j = A 2 j := fun j => H.2.2.2.1 2 j (by omega) (by omega)
  have b0 := K0.2.1
  obtain ⟨x, e1, s1, e2, x0, x1, x8⟩ := kids_1 G he S (by omega)
  have sx := s1.1
  have tx : ¬ T x = -5 := fun z => by
    have := ((hT x (by omega) (h10 x (by omega) (by omega)) x1).2.2 z).2.1
    rw [x8, Int.toNat_natCast] at this
    omega
  have nl : ¬ left A x := fun v => by
    have := v.2.1
    rw [x8, Int.toNat_natCast] at this
    omega
  have hve : ∀ k q, lo ≤ k → k ≤ x → SC A B h k k q → D q := fun k q k1 k2 z => hv q (SC.ex (e := x) G he S (by omega) (fun i i1 i2 => seg_ex G (by omega) s1 x1 (x - i) i (Nat.le_refl _) i1 (by omega)) k1 k2 z)
  refine b403_68 ?_
  simp only [dr_eq, Int.toNat_natCast, a0, a1, a2, e1]
  refine ⟨by omega, by omega, H.rA (by omega) (by omega), fun _ => ⟨by omega, by omega, ?_⟩, fun z => by omega, fun z => by omega, fun z => by omega, fun z => by omega, fun z => by omega, fun z => by omega, fun z => by omega, trivial⟩
  refine exp_w F K0 s1 (by omega) ⟨x0, x1⟩ (fun k k1 k2 => h10 k k1 (by omega)) hve nl (Nat.le_refl _) (by omega) (by omega) (by omega) fun M2 t2 K2 => ?_
  rw [pt_ne tx] at K2
  have b2 := K2.2.1
  refine act_w K2 (by omega) ⟨by omega, by omega⟩ ⟨by omega, by omega⟩ ⟨by omega, by omega⟩ (SA_21 (Or.inr rfl)) (by omega) fun M3 K3 => end_441 ⟨_, K3.weak cle.rf ⟨tle.rf, LD.no (by omega)⟩ (by omega)⟩
theorem s_23 (F : STF A B b s nx cn mn T hh n dh C m cl h hc) (hd : 20 ≤ d) (S : seg A lo w) (he : w < n) (h10 : ∀ k, lo ≤ k → k ≤ w → A 10 k = h) (hv : ∀ q, SC A B h lo w q → D q) (K0 : SW p C n mn B nx cn m cl h hc A u lo (w + 1) t M t1 M1 ([], D) ([], D)) (hu : u ≤ 1) (hb : t + 4 * (w + 1 - lo) ≤ 59900) (ho : A 0 w = 23) : me_W (mt_G N X) 403 d 68 [some (.inr (.inl (some 164, 25, 0))), some (.inl (w : Int)), some (.inr (.inl (some p, 29, 0))), some (.inl x3), none, none] [] M1 (sx_qV (fun M' => ∃ t', SW p C n mn B nx cn m cl h hc A (4 * (w + 1 - lo)) lo (w + 1) t M t' M' ([], D) ([], LD A D w)) nt_E) := by
  obtain ⟨G, ⟨n1, n2, n3⟩, hcl, hb8, hb4, har, hT⟩ := id F
  have H := K0.2.2.2.2.2.1
  have hp := H.2.2.1
  have a0 : ∀ j, me_i M1 (p + 14) j = A 0 j := fun j => H.2.2.2.1 0 j (by omega) (by omega)
  have a1 : ∀ j, me_i M1 (p + 15) j = A 1 j := fun j => H.2.2.2.1 1 j (by omega) (by omega)
  have a2 : ∀ j, me_i M1 (p + 16) j = A 2 j := fun j => H.2.2.2.1 2 j (by omega) (by omega)
  have b0 := K0.2.1
  obtain ⟨x, e1, s1, e2, x0, x1, x8⟩ := kids_1 G he S (by omega)
  have sx := s1.1
  have tx : ¬ T x = -5 := fun z => by
    have := ((hT x (by omega) (h10 x (by omega) (by omega)) x1).2.2 z).2.1
    rw [x8, Int.toNat_natCast] at this
    omega
  have nl : ¬ left A x := fun v => by
    have := v.2.1
    rw [x8, Int.toNat_natCast] at this
    omega
  have hve : ∀ k q, lo ≤ k → k ≤ x → SC A B h k k q → D q := fun k q k1 k2 z => hv q (SC.ex (e := x) G he S (by omega) (fun i i1 i2 => seg_ex G (by omega) s1 x1 (x - i) i (Nat.le_refl _) i1 (by omega)) k1 k2 z)
  refine b403_68 ?_
  simp only [dr_eq, Int.toNat_natCast, a0, a1, a2, e1]
  refine ⟨by omega, by omega, H.rA (by omega) (by omega), fun z => by omega, fun z => by omega, fun z => by omega, fun z => by omega, fun _ => ⟨by omega, by omega, ?_⟩, fun z => by omega, fun z => by omega, fun z => by omega, trivial⟩
  refine exp_w F K0 s1 (by omega) ⟨x0, x1⟩ (fun k k1 k2 => h10 k k1 (by omega)) hve nl (Nat.le_refl _) (by omega) (by omega) (by omega) fun M2 t2 K2 => ?_
  rw [pt_ne tx] at K2
  have b2 := K2.2.1
  refine act_w K2 (by omega) ⟨by omega, by omega⟩ ⟨by omega, by omega⟩ ⟨by omega, by omega⟩ (SA_21 (Or.inl rfl)) (by omega) fun M3 K3 => end_441 ⟨_, K3.weak cle.rf ⟨tle.rf, LD.no (by omega)⟩ (by omega)⟩
end WST
