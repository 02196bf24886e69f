/-! writing statements: what stands when one more piece was written -/
/-- where each piece begins is known -/
def LSA (A : Nat → Nat → Int) (n : Nat) (M : me_M) : Prop := ∀ lo e, e < n → seg A lo e → me_i M 181 e = (lo : Int)
/-- writing went on, at most u acts -/
def SW (p C n : Nat) (mn : Nat → Int) (B : Nat → Nat → Int) (nx cn : Nat → Int) (m cl h hc : Nat) (A : Nat → Nat → Int) (u lo hi t : Nat) (M : me_M) (t' : Nat) (M' : me_M) (x y : cx) : Prop := gx (xP A lo hi) (xR t) M M' ∧ (t ≤ t' ∧ t' ≤ t + u) ∧ ACD B nx cn m cl h hc (gi M' 31) (gi M' 32) (gi M' 33) t t' x y ∧ LW M' ∧ me_i M' 164 30 = (t' : Int) ∧ CEV p C A B cn mn M' ∧ LSA A n M'
section SWT
variable {N : Nat} {X : Nat → Int32} {d p C n m cl h hc dh lo hi e t t1 t2 u v a lo' hi' : Nat} {A B : Nat → Nat → Int} {b s nx cn mn T : Nat → Int} {hh : Nat → Int × Nat} {D : Nat → Prop} {M M1 M2 : me_M} {st : List Int} {x y z x' : cx}
theorem ok181 : ¬ oka 181 := by unfold oka; omega
theorem LSA.gx (H : LSA A n M) (G : GA M) {P R : Nat → Nat → Prop} (g : gx P R M M1) (hP : ∀ j, ¬ P 181 j) : LSA A n M1 := fun l e h1 h2 => by
  rw [g.i G (by omega) ok181 (hP e)]
  exact H l e h1 h2
theorem xP_181 {j : Nat} : ¬ xP A lo hi 181 j := fun z => by
  have := xP_2 _ _ z
  omega
theorem SW.nil (H : CEV p C A B cn mn M) (h30 : me_i M 164 30 = (t : Int)) (lw : LW M) (L : LSA A n M) (c : cle y x) : SW p C n mn B nx cn m cl h hc A 0 lo hi t M t M x y := ⟨gx.rf H.1, by omega, ACD.nil c, lw, h30, H, L⟩
theorem SW.seq (H : SW p C n mn B nx cn m cl h hc A u lo hi t M t1 M1 x y) (K : SW p C n mn B nx cn m cl h hc A v lo' hi' t1 M1 t2 M2 y z) (h1 : lo ≤ lo') (h2 : hi' ≤ hi) : SW p C n mn B nx cn m cl h hc A (u + v) lo hi t M t2 M2 x z := by
  obtain ⟨a1, a2, a3, a4, a5, a6, a7⟩ := H
  obtain ⟨b1, b2, b3, b4, b5, b6, b7⟩ := K
  unfold LW at a4
  exact ⟨a1.tr (b1.mo (xP_mo h1 h2) (xR_mo a2.1)), by omega, (a3.keep b1 ⟨by omega, by omega, by omega⟩).seq b3, b4, b5, b6, b7⟩
theorem SW.weak (H : SW p C n mn B nx cn m cl h hc A u lo hi t M t1 M1 x y) (hx : cle x x') (hz : cle z y) (hu : u ≤ v) : SW p C n mn B nx cn m cl h hc A v lo hi t M t1 M1 x' z := by
  obtain ⟨a1, a2, a3, a4⟩ := H
  exact ⟨a1, by omega, a3.weak hx hz, a4⟩
theorem W1.sw {s f e' : Int} (w : W1 M M1 t s f e') (H : CEV p C A B cn mn M) (L : LSA A n M) (hs : SA B nx cn m cl h hc s f e' x y) : SW p C n mn B nx cn m cl h hc A 1 lo hi t M (t + 1) M1 x y := by
  have lw := w.lw
  have ce := w.ce H
  obtain ⟨w1, w2, w3, w4, w5, _⟩ := w
  have g1 : gx (xP A lo hi) (xR t) M M1 := w1.mo (fun b j z => Or.inl z) fun j i z => ⟨z.1, by have := z.2; omega⟩
  refine ⟨g1, by omega, ACD.one ?_, lw, by omega, ce, L.gx H.1 g1 fun j => xP_181⟩
  rw [w3, w4, w5]
  exact hs
/-- an act more -/
theorem act_w {K : me_M → Prop} {E : Nat → me_M → Prop} {s f e' : Int} (H : SW p C n mn B nx cn m cl h hc A u lo hi t M t1 M1 x y) (hb : t1 < 60000) (rs : me_r s) (rf : me_r f) (re : me_r e') (hs : SA B nx cn m cl h hc s f e' y z) (hd : 5 ≤ d) (k : ∀ M2, SW p C n mn B nx cn m cl h hc A (u + 1) lo hi t M (t1 + 1) M2 x z → K M2) : ∃ d', d = d' + 1 ∧ me_W (mt_G N X) 399 d' 0 [some (.inr (.inl (some 164, 25, 0))), some (.inl s), some (.inl f), some (.inl e')] [] M1 (sx_qI (fun _ M2 => K M2) E) := by
  obtain ⟨a1, a2, a3, a4, a5, a6, a7⟩ := id H
  refine ca_I (by omega) (c_399 a6.1 a5 hb rs re (by omega)) (fun y M2 _ q => k M2 ?_) nt_E_no
  rw [me_to rf] at q
  exact H.seq (q.2.sw (lo := lo) (hi := hi) a6 a7 hs) (Nat.le_refl _) (Nat.le_refl _)
/-- an expression more -/
theorem exp_w {K : me_M → Prop} {E : Nat → me_M → Prop} (F : STF A B b s nx cn mn T hh n dh C m cl h hc) (H : SW p C n mn B nx cn m cl h hc A u lo hi t M t1 M1 x (st, D)) (S : seg A a e) (he : e < n) (ho : 1 ≤ A 0 e ∧ A 0 e ≤ 16) (h10 : ∀ k, a ≤ k → k ≤ e → A 10 k = h) (hv : ∀ k q, a ≤ k → k ≤ e → SC A B h k k q → D q) (nl : ¬ left A e) (h1 : lo ≤ a) (h2 : e + 1 ≤ hi) (hb : t1 + 2 * (e + 1 - a) ≤ 59990) (hd : 8 ≤ d) (k : ∀ M2 t2, SW p C n mn B nx cn m cl h hc A (u + 2 * (e + 1 - a)) lo hi t M t2 M2 x (pt T e st, D) → K M2) : ∃ d', d = d' + 1 ∧ me_W (mt_G N X) 401 d' 0 [some (.inr (.inl (some 164, 25, 0))), some (.inl (e : Int)), none, none] [] M1 (sx_qV (fun M2 => K M2) E) := by
  obtain ⟨a1, a2, a3, a4, a5, a6, a7⟩ := id H
  refine ca_V (by omega) (c_401 (D := D) (st := st) F (by omega) S he ho h10 hv a6 a5 a4 hb (a7 _ _ he S) nl) (fun M2 _ q => ?_) nt_E_no
  obtain ⟨t2, q0, ⟨b1, b2, b3⟩, b4, b5, b6⟩ := q
  exact k M2 t2 (H.seq ⟨b1, b2, b3, b4, b5, b6, a7.gx a6.1 b1 fun j => xP_181⟩ h1 h2)
end SWT
