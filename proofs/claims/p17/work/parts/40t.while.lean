/-! writeStatement: if, while -/
/-- statements of less than f nodes behind lo are written -/
def STP (N : Nat) (X : Nat → Int32) (p C n m cl h hc : Nat) (A B : Nat → Nat → Int) (nx cn mn : Nat → Int) (f : Nat) : Prop := ∀ (lo w : Nat) (D : Nat → Prop) (M : me_M) (t d : Nat), w - lo < f → seg A lo w → w < n → 20 ≤ A 0 w ∧ A 0 w ≤ 27 → (∀ k, lo ≤ k → k ≤ w → A 10 k = h) → (∀ q, SC A B h lo w q → D q) → CEV p C A B cn mn M → me_i M 164 30 = (t : Int) → LW M → LSA A n M → t + 4 * (w + 1 - lo) ≤ 59900 → 3 * (w - lo) + 24 ≤ d → me_W (mt_G N X) 403 d 0 [some (.inr (.inl (some 164, 25, 0))), some (.inl (w : Int)), none, none, none, none] [] M (sx_qV (fun M' => ∃ t', SW p C n mn B nx cn m cl h hc A (4 * (w + 1 - lo)) lo (w + 1) t M t' M' ([], D) ([], LD A D w)) nt_E)
section WST3
variable {N : Nat} {X : Nat → Int32} {d p C n m cl h hc dh lo w t t1 u f : Nat} {A B : Nat → Nat → Int} {b s nx cn mn T : Nat → Int} {hh : Nat → Int × Nat} {D : Nat → Prop} {M M1 : me_M} {x3 : Int}
/-- what is known at a part is known at the whole, but at a block's parts -/
theorem SC.sub {a e q : Nat} (G : ∀ k, k < n → cl_ A b s 0 n dh C (hh k) k) (hw : w < n) (S : seg A lo w) (h1 : lo ≤ a) (h2 : e < w) (hae : a ≤ e) (h8 : A 8 e = w) (ho : ¬ A 0 w = 20) (H : SC A B h a e q) : SC A B h lo w q := by
  obtain ⟨c0, c⟩ := H
  refine ⟨c0, c.imp id fun ⟨c1, l, l1, l2, l3, l4, l5⟩ => ⟨c1, l, ?_⟩⟩
  rcases Nat.lt_or_ge l lo with v | v
  · have := S.2.2 l v
    exact ⟨v, by omega, l3, l4, l5⟩
  · exfalso
    have := S.2.1 l v (by omega)
    have c7 := (G l (by omega)).2.2.2.2.2.2.1 e (by omega) l2
    rw [show A 8 l = (w : Int) by omega, Int.toNat_natCast] at l5
    exact ho l5
/-- a statement more, behind an open jump -/
theorem stat_w {K : me_M → Prop} {E : Nat → me_M → Prop} {a e : Nat} (I : STP N X p C n m cl h hc A B nx cn mn f) (hf : e - a < f) (S : seg A a e) (he : e < n) (ho : 20 ≤ A 0 e ∧ A 0 e ≤ 27) (h10 : ∀ k, a ≤ k → k ≤ e → A 10 k = h) (hv : ∀ q, SC A B h a e q → D q) (H : CEV p C A B cn mn M) (h30 : me_i M 164 30 = (t : Int)) (lw : LW M) (L : LSA A n M) (hb : t + 4 * (e + 1 - a) ≤ 59900) (hd : 3 * (e - a) + 25 ≤ d) (k : ∀ M2 t2, SW p C n mn B nx cn m cl h hc A (4 * (e + 1 - a)) a (e + 1) t M t2 M2 ([], D) ([], LD A D e) → K M2) : ∃ d', d = d' + 1 ∧ me_W (mt_G N X) 403 d' 0 [some (.inr (.inl (some 164, 25, 0))), some (.inl (e : Int)), none, none, none, none] [] M (sx_qV (fun M2 => K M2) E) :=
  ca_V (by omega) (I a e D M t (d - 1) hf S he ho h10 hv H h30 lw L hb (by omega)) (fun M2 _ ⟨t2, q⟩ => k M2 t2 q) nt_E_no
/-- a jump that is not set yet -/
theorem jmp_w {K : Int → me_M → Prop} {E : Nat → me_M → Prop} {s f' : Int} (H : CEV p C A B cn mn M) (h30 : me_i M 164 30 = (t : Int)) (hb : t < 60000) (rs : me_r s) (rf : me_r f') (hd : 5 ≤ d) (k : ∀ M2, W1 M M2 t s f' 0 → K (t : Int) M2) : ∃ d', d = d' + 1 ∧ me_W (mt_G N X) 399 d' 0 [some (.inr (.inl (some 164, 25, 0))), some (.inl s), some (.inl f'), some (.inl 0)] [] M (sx_qI K E) := by
  refine ca_I (by omega) (c_399 H.1 h30 hb rs ⟨by omega, by omega⟩ (by omega)) (fun y M2 _ q => ?_) nt_E_no
  rw [me_to rf] at q
  rw [q.1]
  exact k M2 q.2
theorem s_25 (I : STP N X p C n m cl h hc A B nx cn mn f) (hf : w - lo ≤ f) (F : STF A B b s nx cn mn T hh n dh C m cl h hc) (hd : 3 * (w - lo) + 23 ≤ d) (S : seg A lo w) (he : w < n) (h10 : ∀ k, lo ≤ k → k ≤ w → A 10 k = h) (hv : ∀ q, SC A B h lo w q → D q) (K0 : SW p C n mn B nx cn m cl h hc A u lo (w + 1) t M t1 M1 ([], D) ([], D)) (hu : u ≤ 1) (hb : t + 4 * (w + 1 - lo) ≤ 59900) (rx : me_r x3) (ho : A 0 w = 25) : me_W (mt_G N X) 403 d 68 [some (.inr (.inl (some 164, 25, 0))), some (.inl (w : Int)), some (.inr (.inl (some p, 29, 0))), some (.inl x3), none, none] [] M1 (sx_qV (fun M' => ∃ t', SW p C n mn B nx cn m cl h hc A (4 * (w + 1 - lo)) lo (w + 1) t M t' M' ([], D) ([], LD A D w)) nt_E) := by
  obtain ⟨G, ⟨n1, n2, n3⟩, hcl, hb8, hb4, har, hT⟩ := id F
  have H := K0.2.2.2.2.2.1
  have hp := H.2.2.1
  have a0 : ∀ j, me_i M1 (p + 14) j = A 0 j := fun j => H.2.2.2.1 0 j (by omega) (by omega)
  have a1 : ∀ j, me_i M1 (p + 15) j = A 1 j := fun j => H.2.2.2.1 1 j (by omega) (by omega)
  have a2 : ∀ j, me_i M1 (p + 16) j = A 2 j := fun j => H.2.2.2.1 2 j (by omega) (by omega)
  have b0 := K0.2.1
  obtain ⟨x, y, e1, e2, s1, s2, e3, x0, _, y0, x8, y8⟩ := kids_2 G he S (Or.inr (Or.inr (Or.inl ho)))
  have y0 := y0 (by omega)
  obtain ⟨x0, x1⟩ := x0
  have sx := s1.1
  have sy := s2.1
  have tx : ¬ T x = -5 := fun z => by
    have := ((hT x (by omega) (h10 x (by omega) (by omega)) x1).2.2 z).2.1
    rw [x8, Int.toNat_natCast] at this
    omega
  have nl : ¬ left A x := fun v => by
    have := v.2.1
    rw [x8, Int.toNat_natCast] at this
    omega
  have hve : ∀ k q, lo ≤ k → k ≤ x → SC A B h k k q → D q := fun k q k1 k2 z => hv q (SC.ex (e := x) G he S (by omega) (fun i i1 i2 => seg_ex G (by omega) s1 x1 (x - i) i (Nat.le_refl _) i1 (by omega)) k1 k2 z)
  refine b403_68 ?_
  simp only [dr_eq, Int.toNat_natCast, a0, a1, a2, e1, e2]
  refine ⟨by omega, by omega, H.rA (by omega) (by omega), fun z => by omega, fun z => by omega, fun z => by omega, fun z => by omega, fun z => by omega, fun z => by omega, fun _ => ?_, fun z => by omega, trivial⟩
  have H1 := H
  refine jmp_w H K0.2.2.2.2.1 (by omega) ⟨by omega, by omega⟩ rx (by omega) fun M2 w0 => ?_
  have H2 := w0.ce H1
  have L2 := K0.2.2.2.2.2.2.gx H1.1 (w0.gw (A := A) (lo := lo) (hi := w)) fun j => xP_181
  have c1 : me_i M2 (p + 15) w = A 1 w := H2.2.2.2.1 1 w (by omega) (by omega)
  rw [c1, e1]
  refine ⟨by omega, by omega, ?_⟩
  refine exp_w (u := 0) (lo := lo) (hi := w) (t := t1 + 1) (t1 := t1 + 1) (x := ([], D)) (st := []) (D := D) F (SW.nil H2 (by have := w0.2.1; omega) w0.lw L2 cle.rf) s1 (by omega) ⟨x0, x1⟩ (fun k k1 k2 => h10 k k1 (by omega)) hve nl (Nat.le_refl _) (by omega) (by omega) (by omega) fun M3 t2 K3 => ?_
  rw [pt_ne tx] at K3
  have b3 := K3.2.1
  have H3 := K3.2.2.2.2.2.1
  refine jmp_w H3 K3.2.2.2.2.1 (by omega) ⟨by omega, by omega⟩ ⟨by omega, by omega⟩ (by omega) fun M4 w1 => ?_
  have H4 := w1.ce H3
  have L4 := K3.2.2.2.2.2.2.gx H3.1 (w1.gw (A := A) (lo := lo) (hi := w)) fun j => xP_181
  have c2 : me_i M4 (p + 16) w = A 2 w := H4.2.2.2.1 2 w (by omega) (by omega)
  rw [c2, e2]
  refine ⟨by omega, by omega, ?_⟩
  refine stat_w (t := t2 + 1) (D := D) I (by omega) s2 (by omega) y0 (fun k k1 k2 => h10 k (by omega) (by omega)) (fun q z => hv q (SC.sub G he S (by omega) (by omega) sy y8 (by omega) z)) H4 (by have := w1.2.1; omega) w1.lw L4 (by omega) (by omega) fun M5 t3 K5 => ?_
  have b5 := K5.2.1
  have H5 := K5.2.2.2.2.2.1
  refine jmp_w H5 K5.2.2.2.2.1 (by omega) ⟨by omega, by omega⟩ ⟨by omega, by omega⟩ (by omega) fun M6 w2 => ?_
  have H6 := w2.ce H5
  have l6 : t2 < gL M6 32 := by
    have := w2.2.2.2.2.2.2.1
    omega
  refine pat_w (t2 := t3 + 1) (K := fun M7 => me_W (mt_G N X) 403 d 441 [none, none, none, none, none, none] [] M7 _) H6 (by have := w2.2.1; omega) l6 (by omega) fun M7 g => end_441 ⟨t3 + 1, ?_⟩
  exact (wh_join K0 w0 K3 w1 K5 ⟨tle.rf, fun q z => Or.inl z⟩ w2 g (Nat.le_refl _) (by omega) (by omega) (by omega)).weak cle.rf ⟨tle.rf, LD.no (by omega)⟩ (by omega)
end WST3
