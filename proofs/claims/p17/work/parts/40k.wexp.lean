/-! writeExp: whole expressions -/
/-- what is told of all nodes of member h -/
def STF (A B : Nat → Nat → Int) (b s nx cn mn T : Nat → Int) (hh : Nat → Int × Nat) (n dh C m cl h hc : Nat) : Prop := (∀ k, k < n → cl_ A b s 0 n dh C (hh k) k) ∧ (n ≤ 2405 ∧ C ≤ 2405 ∧ m ≤ 2405) ∧ (∀ q i : Nat, q < m → B 0 q = 0 → cn q = (i : Int) → i < cl) ∧ (∀ q, q < m → ¬ B 0 q = 0 → 0 ≤ B 8 q) ∧ (∀ q, q < m → B 4 q = 0 ∨ B 4 q = 1) ∧ (∀ q, q < m → B 0 q = 2 → (0 ≤ B 9 q ∧ B 9 q ≤ 8 ∧ q + B 9 q < m ∧ ∀ i : Nat, (i : Int) < B 9 q → B 0 (q + 1 + i) = 3)) ∧ ∀ k, k < n → A 10 k = h → A 0 k ≤ 16 → WT A B nx cn h hc m T mn k (T k) ∧ ¬ A 0 k = 16 ∧ (T k = -5 → 0 ≤ A 8 k ∧ (A 0 (A 8 k).toNat = 11 ∨ A 0 (A 8 k).toNat = 12) ∧ A 1 (A 8 k).toNat = k)
/-- where writing nodes lo .. hi - 1 changes cells -/
def xP (A : Nat → Nat → Int) (lo hi : Nat) : Nat → Nat → Prop := fun b j => wP b j ∨ b = 182 ∧ ∃ k, lo ≤ k ∧ k < hi ∧ A 8 k = (j : Int) ∧ A 1 j = (k : Int)
def xR (t : Nat) : Nat → Nat → Prop := fun j i => (j = 31 ∨ j = 32 ∨ j = 33) ∧ t ≤ i
theorem xP_mo {A : Nat → Nat → Int} {lo hi lo' hi' : Nat} (h1 : lo' ≤ lo) (h2 : hi ≤ hi') : ∀ b j, xP A lo hi b j → xP A lo' hi' b j := fun b j z => z.imp id fun ⟨z1, k, k1, k2, k3⟩ => ⟨z1, k, by omega, by omega, k3⟩
theorem xR_mo {t t' : Nat} (h : t ≤ t') : ∀ b j, xR t' b j → xR t b j := fun b j z => ⟨z.1, by have := z.2; omega⟩
section WX
variable (B : Nat → Nat → Int) (nx cn : Nat → Int) (m cl h hc : Nat) (A : Nat → Nat → Int)
def XW (lo hi t : Nat) (M : me_M) (t' : Nat) (M' : me_M) (x y : cx) : Prop := gx (xP A lo hi) (xR t) M M' ∧ (t ≤ t' ∧ t' ≤ t + 2 * (hi - lo)) ∧ ACD B nx cn m cl h hc (gi M' 31) (gi M' 32) (gi M' 33) t t' x y
end WX
section WX2
variable {N : Nat} {X : Nat → Int32} {d p C n m cl h hc lo hi mid dh e t t1 t2 : Nat} {A B : Nat → Nat → Int} {b s nx cn mn T : Nat → Int} {hh : Nat → Int × Nat} {M M1 M2 M' : me_M} {D : Nat → Prop} {st : List Int} {ks : List Nat} {x y z : cx} {x1 : Int} {Q : me_Q}
theorem xP_ce (H : CEV p C A B cn mn M) {P R : Nat → Nat → Prop} (K : gx P R M M') (hP : ∀ b j, P b j → b = 164 ∨ b = 182) : CEV p C A B cn mn M' := H.gx K fun b j z => by
  have := hP b j z
  omega
theorem xP_2 : ∀ b j, xP A lo hi b j → b = 164 ∨ b = 182 := fun b j z => z.elim (fun z => Or.inl z.1) fun z => Or.inr z.1
/-- acts stand while others are written behind them -/
theorem ACD.keep {P : Nat → Nat → Prop} (H : ACD B nx cn m cl h hc (gi M1 31) (gi M1 32) (gi M1 33) t t1 x y) (g : gx P (xR t1) M1 M2) (l : (t1 : Int) ≤ gL M1 31 ∧ (t1 : Int) ≤ gL M1 32 ∧ (t1 : Int) ≤ gL M1 33) : ACD B nx cn m cl h hc (gi M2 31) (gi M2 32) (gi M2 33) t t1 x y := by
  have nn : ∀ (j a : Nat), a < t1 → ¬ xR t1 j a := fun j a a1 z => by
    have := z.2
    omega
  exact H.eq fun j j1 j2 => ⟨g.g g31 (by omega) (nn 31 j j2), g.g g32 (by omega) (nn 32 j j2), g.g g33 (by omega) (nn 33 j j2)⟩
theorem XW.seq (H : XW B nx cn m cl h hc A lo mid t M t1 M1 x y) (l : (t1 : Int) ≤ gL M1 31 ∧ (t1 : Int) ≤ gL M1 32 ∧ (t1 : Int) ≤ gL M1 33) (K : XW B nx cn m cl h hc A mid hi t1 M1 t2 M2 y z) (h1 : lo ≤ mid) (h2 : mid ≤ hi) : XW B nx cn m cl h hc A lo hi t M t2 M2 x z := by
  obtain ⟨a1, a2, a3⟩ := H
  obtain ⟨b1, b2, b3⟩ := K
  exact ⟨(a1.mo (xP_mo (Nat.le_refl _) h2) fun _ _ z => z).tr (b1.mo (xP_mo h1 (Nat.le_refl _)) (xR_mo a2.1)), by omega, (a3.keep b1 l).seq b3⟩
/-- writing went on to hi, no jump is open -/
def XN (p C : Nat) (mn : Nat → Int) (B : Nat → Nat → Int) (nx cn : Nat → Int) (m cl h hc : Nat) (A : Nat → Nat → Int) (lo hi t : Nat) (M : me_M) (t' : Nat) (M' : me_M) (x y : cx) : Prop := XW B nx cn m cl h hc A lo hi t M t' M' x y ∧ LW M' ∧ me_i M' 164 30 = (t' : Int) ∧ CEV p C A B cn mn M'
/-- e was written; behind a left part stands its jump -/
def XE (p C : Nat) (mn : Nat → Int) (B : Nat → Nat → Int) (nx cn : Nat → Int) (m cl h hc : Nat) (A : Nat → Nat → Int) (lo e t : Nat) (M : me_M) (t' : Nat) (M' : me_M) (x y : cx) : Prop := t' + 1 ≤ t + 2 * (e + 1 - lo) ∧ (¬ left A e ∧ XN p C mn B nx cn m cl h hc A lo (e + 1) t M t' M' x y ∨ left A e ∧ XW B nx cn m cl h hc A lo (e + 1) t M t' M' x y ∧ LW M' ∧ me_i M' 164 30 = (t' : Int) + 1 ∧ (gi M' 31 t' = 12 ∨ gi M' 31 t' = 13) ∧ me_i M' 182 (A 8 e).toNat = (t' : Int) ∧ CEV p C A B cn mn M')
/-- the node e, when its parts are written -/
theorem node_w {P : me_M → Prop} (F : STF A B b s nx cn mn T hh n dh C m cl h hc) (hd : 5 ≤ d) (he : e < n) (hx : (e : Int) ≤ x1) (hx1 : x1 < 5000) (hle : lo ≤ e) (h402 : me_W (mt_G N X) 402 (d - 1) 0 [some (.inr (.inl (some 164, 25, 0))), some (.inl (e : Int)), none, none, none] [] M1 (sx_qV P nt_E)) (hb : t + 2 * (e + 1 - lo) ≤ 59990)
    (hP : ∀ M2, P M2 → ∃ t2, t2 + 1 ≤ t + 2 * (e + 1 - lo) ∧ XN p C mn B nx cn m cl h hc A lo (e + 1) t M t2 M2 x y)
    (K : ∀ M' t', XE p C mn B nx cn m cl h hc A lo e t M t' M' x y → me_W (mt_G N X) 401 d 7 [some (.inr (.inl (some 164, 25, 0))), some (.inl x1), some (.inl ((e : Int) + 1)), none] [] M' Q) :
    me_W (mt_G N X) 401 d 7 [some (.inr (.inl (some 164, 25, 0))), some (.inl x1), some (.inl (e : Int)), none] [] M1 Q := by
  obtain ⟨G, ⟨n1, n2, n3⟩, _⟩ := id F
  have h8 : A 8 e = -1 ∨ (e : Int) < A 8 e ∧ A 8 e < n := (G e he).2.2.2.2.2.1
  clear G
  refine c_401_s (C := C) (A := A) (B := B) (cn := cn) (mn := mn) (p := p) hd n1 he hx hx1 h8 h402 (fun M2 q => ?_) (fun M2 q nl => ?_) fun M2 M3 u q hl hu k => ?_
  · obtain ⟨t2, q0, q1, q2, q3, q4⟩ := hP M2 q
    exact ⟨q4, t2, q3, by omega⟩
  · obtain ⟨t2, q0, q1⟩ := hP M2 q
    exact K M2 t2 ⟨q0, Or.inl ⟨nl, q1⟩⟩
  · obtain ⟨t2, q0, ⟨q1, q2, q3⟩, l1, l2, l3⟩ := hP M2 q
    have e2 : u = t2 := by omega
    subst e2
    have lw := k.lw
    obtain ⟨k1, k2, k3, k4, _⟩ := k
    have g1 : gx (xP A lo (e + 1)) (xR u) M2 M3 := k1.mo (fun b j z => z.imp id fun z => ⟨z.1, e, hle, by omega, by omega, by
      have := hl.2.2.1
      rw [show j = (A 8 e).toNat by omega]
      exact this⟩) fun j i z => ⟨z.1, by have := z.2; omega⟩
    unfold LW at l1
    exact K M3 u ⟨q0, Or.inr ⟨hl, ⟨q1.tr (g1.mo (fun _ _ z => z) (xR_mo q2.1)), q2, q3.keep g1 ⟨by omega, by omega, by omega⟩⟩, lw, k2, k3, k4, xP_ce l3 g1 xP_2⟩⟩
/-- a node that writes an act, or none -/
theorem NO.xn (H : XN p C mn B nx cn m cl h hc A lo e t M t1 M1 x (pf T st ks, D)) (hle : lo ≤ e) (K : NO A B nx cn T m cl h hc e t1 ks D st M1 M2) : ∃ t2, t2 + 1 ≤ t + 2 * (e + 1 - lo) ∧ XN p C mn B nx cn m cl h hc A lo (e + 1) t M t2 M2 x (pt T e st, D) := by
  obtain ⟨q0, l1, l2, l3⟩ := H
  unfold LW at l1
  rcases K with ⟨rfl, k⟩ | ⟨s, f, e', w, k⟩
  · rw [k] at q0
    have := q0.2.1
    refine ⟨t1, by omega, ⟨q0.1.mo (xP_mo (Nat.le_refl _) (by omega)) fun _ _ z => z, by omega, q0.2.2⟩, l1, l2, l3⟩
  · have := q0.2.1
    have lw := w.lw
    have ce := w.ce l3
    obtain ⟨w1, w2, w3, w4, w5, _⟩ := w
    have g1 : gx (xP A e (e + 1)) (xR t1) M1 M2 := w1.mo (fun b j z => Or.inl z) fun j i z => ⟨z.1, by have := z.2; omega⟩
    refine ⟨t1 + 1, by omega, q0.seq ⟨by omega, by omega, by omega⟩ ⟨g1, by omega, ACD.one ?_⟩ hle (by omega), lw, by omega, ce⟩
    rw [w3, w4, w5]
    exact k
end WX2
