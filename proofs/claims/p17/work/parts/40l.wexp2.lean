/-! writeExp: whole expressions, by their size -/
/-- pieces of less than f nodes behind lo are written -/
def WEP (N : Nat) (X : Nat → Int32) (d : Nat) (x1 : Int) (Q : me_Q) (D : Nat → Prop) (p C n m cl h hc : Nat) (A B : Nat → Nat → Int) (nx cn mn T : Nat → Int) (f : Nat) : Prop := ∀ lo e : Nat, e - lo < f → seg A lo e → e < n → 1 ≤ A 0 e ∧ A 0 e ≤ 16 → (∀ k, lo ≤ k → k ≤ e → A 10 k = h) → (∀ k q, lo ≤ k → k ≤ e → SC A B h k k q → D q) → (e : Int) ≤ x1 → ∀ (M : me_M) (t : Nat) (st : List Int), CEV p C A B cn mn M → me_i M 164 30 = (t : Int) → LW M → t + 2 * (e + 1 - lo) ≤ 59990 → (∀ M' t', XE p C mn B nx cn m cl h hc A lo e t M t' M' (st, D) (pt T e st, D) → me_W (mt_G N X) 401 d 7 [some (.inr (.inl (some 164, 25, 0))), some (.inl x1), some (.inl ((e : Int) + 1)), none] [] M' Q) → me_W (mt_G N X) 401 d 7 [some (.inr (.inl (some 164, 25, 0))), some (.inl x1), some (.inl (lo : Int)), none] [] M Q
section WEX
variable {N : Nat} {X : Nat → Int32} {d p C n m cl h hc dh e f : Nat} {A B : Nat → Nat → Int} {b s nx cn mn T : Nat → Int} {hh : Nat → Int × Nat} {D : Nat → Prop} {x1 : Int} {Q : me_Q}
theorem kids_w (I : WEP N X d x1 Q D p C n m cl h hc A B nx cn mn T f) (he : e < n) (hx : (e : Int) ≤ x1) : ∀ (ks : List Nat) (lo : Nat), SG A e lo ks → e - lo ≤ f → (∀ a, a ∈ ks → (1 ≤ A 0 a ∧ A 0 a ≤ 16) ∧ ¬ left A a) → (∀ k, lo ≤ k → k ≤ e → A 10 k = h) → (∀ k q, lo ≤ k → k ≤ e → SC A B h k k q → D q) → ∀ (M : me_M) (t : Nat) (st : List Int), CEV p C A B cn mn M → me_i M 164 30 = (t : Int) → LW M → t + 2 * (e - lo) ≤ 59990 → (∀ M' t', XN p C mn B nx cn m cl h hc A lo e t M t' M' (st, D) (pf T st ks, D) → me_W (mt_G N X) 401 d 7 [some (.inr (.inl (some 164, 25, 0))), some (.inl x1), some (.inl (e : Int)), none] [] M' Q) → me_W (mt_G N X) 401 d 7 [some (.inr (.inl (some 164, 25, 0))), some (.inl x1), some (.inl (lo : Int)), none] [] M Q := by
  intro ks
  induction ks with
  | nil =>
    intro lo S hf ha h10 hv M t st H h30 lw hb K
    have S : lo = e := S
    subst S
    exact K M t ⟨⟨gx.rf H.1, by omega, ACD.nil cle.rf⟩, lw, h30, H⟩
  | cons c r ih =>
    intro lo S hf ha h10 hv M t st H h30 lw hb K
    obtain ⟨s1, s2, s3, s4⟩ := S
    have s0 := s1.1
    have hc1 := ha c List.mem_cons_self
    refine I lo c (by omega) s1 (by omega) hc1.1 (fun k k1 k2 => h10 k k1 (by omega)) (fun k q k1 k2 => hv k q k1 (by omega)) (by omega) M t st H h30 lw (by omega) fun M1 t1 E1 => ?_
    obtain ⟨u0, u⟩ := E1
    rcases u with ⟨_, u⟩ | ⟨u, _⟩
    · obtain ⟨u1, u2, u3, u4⟩ := u
      rw [show (c : Int) + 1 = ((c + 1 : Nat) : Int) by omega]
      refine ih (c + 1) s4 (by omega) (fun a a1 => ha a (List.mem_cons_of_mem _ a1)) (fun k k1 k2 => h10 k (by omega) k2) (fun k q k1 k2 => hv k q (by omega) k2) M1 t1 (pt T c st) u4 u3 u2 (by omega) fun M2 t2 E2 => K M2 t2 ?_
      obtain ⟨v1, v2, v3, v4⟩ := E2
      unfold LW at u2
      exact ⟨u1.seq ⟨by omega, by omega, by omega⟩ v1 (by omega) (by omega), v2, v3, v4⟩
    · exact absurd u hc1.2
theorem we_all (F : STF A B b s nx cn mn T hh n dh C m cl h hc) (hd : 7 ≤ d) (hx1 : x1 < 5000) : ∀ f, WEP N X d x1 Q D p C n m cl h hc A B nx cn mn T f := by
  intro f
  induction f with
  | zero => exact fun lo e hf => by omega
  | succ f ih =>
    intro lo e hf S he ho h10 hv hx M t st H h30 lw hb K
    have hle := S.1
    obtain ⟨G, ⟨n1, n2, n3⟩, hcl, hb8, hb4, har, hT⟩ := id F
    have kT : ∀ k, lo ≤ k → k ≤ e → A 0 k ≤ 16 → T k = -5 → A 0 (A 8 k).toNat = 11 ∨ A 0 (A 8 k).toNat = 12 := fun k k1 k2 k3 z => ((hT k (by omega) (h10 k k1 k2) k3).2.2 z).2.1
    obtain ⟨hw, n16, _⟩ := hT e he (h10 e hle (Nat.le_refl _)) ho.2
    have nl : ∀ a, A 8 a = (e : Int) → ¬ (A 0 e = 15 ∧ (A 3 e = 304 ∨ A 3 e = 305)) → ¬ left A a := fun a a1 z v => by
      have v1 := v.2
      rw [a1, Int.toNat_natCast] at v1
      exact z ⟨v1.1, v1.2.2⟩
    have go : ∀ ks, SG A e lo ks → ¬ (A 0 e = 15 ∧ (A 3 e = 304 ∨ A 3 e = 305)) → (∀ (M1 : me_M) (t1 : Nat), CEV p C A B cn mn M1 → me_i M1 164 30 = (t1 : Int) → t1 < 60000 → me_W (mt_G N X) 402 (d - 1) 0 [some (.inr (.inl (some 164, 25, 0))), some (.inl (e : Int)), none, none, none] [] M1 (sx_qV (fun M' => NO A B nx cn T m cl h hc e t1 ks D st M1 M') nt_E)) → me_W (mt_G N X) 401 d 7 [some (.inr (.inl (some 164, 25, 0))), some (.inl x1), some (.inl (lo : Int)), none] [] M Q := fun ks sg na hN => by
      refine kids_w ih he hx ks lo sg (by omega) (fun a a1 => ?_) h10 hv M t st H h30 lw (by omega) fun M1 t1 H1 => ?_
      · have := sg.mem a a1
        exact ⟨kid_ex G he ho.2 a a this.2.1 this.2.2 (Nat.le_refl _), nl a this.2.2 na⟩
      · have b1 := H1.1.2.1
        exact node_w F (by omega) he hx hx1 hle (hN M1 t1 H1.2.2.2 H1.2.2.1 (by omega)) hb (fun M2 q => NO.xn H1 hle q) K
    by_cases c1 : A 0 e = 15
    · obtain ⟨x, y, e1, e2, s1, s2, e3, x0, y0, _, x8, y8⟩ := kids_2 G he S (Or.inl c1)
      have y0 := y0 (by omega)
      have sx := s1.1
      have sy := s2.1
      have tx : ¬ T x = -5 := fun z => by
        have := kT x (by omega) (by omega) x0.2 z
        rw [x8, Int.toNat_natCast] at this
        omega
      have ty : ¬ T y = -5 := fun z => by
        have := kT y (by omega) (by omega) y0.2 z
        rw [y8, Int.toNat_natCast] at this
        omega
      have w10 : T e = 0 ∨ T e = 1 := hw.2.2.2.2.2.2.2.2.2 (by omega)
      by_cases c2 : A 3 e = 304 ∨ A 3 e = 305
      · have lx : left A x := ⟨by omega, by rw [x8, Int.toNat_natCast]; exact c1, by rw [x8, Int.toNat_natCast]; exact e1, by rw [x8, Int.toNat_natCast]; exact c2⟩
        have ly : ¬ left A y := fun v => by
          have := v.2.2.1
          rw [y8, Int.toNat_natCast] at this
          omega
        refine ih lo x (by omega) s1 (by omega) x0 (fun k k1 k2 => h10 k k1 (by omega)) (fun k q k1 k2 => hv k q k1 (by omega)) (by omega) M t st H h30 lw (by omega) fun M1 t1 E1 => ?_
        obtain ⟨u0, u⟩ := E1
        rcases u with ⟨u, _⟩ | ⟨_, u1, u2, u3, u4, u5, u6⟩
        · exact absurd lx u
        have ub := u1.2.1
        rw [show (x : Int) + 1 = ((x + 1 : Nat) : Int) by omega]
        refine ih (x + 1) y (by omega) s2 (by omega) y0 (fun k k1 k2 => h10 k (by omega) (by omega)) (fun k q k1 k2 => hv k q (by omega) (by omega)) (by omega) M1 (t1 + 1) st u6 (by omega) u2 (by omega) fun M2 t2 E2 => ?_
        obtain ⟨v0, v⟩ := E2
        rcases v with ⟨_, v1, v2, v3, v4⟩ | ⟨v, _⟩
        · unfold LW at u2
          have v2' := v2
          unfold LW at v2'
          obtain ⟨v5, v6, v7⟩ := v1
          obtain ⟨u7, u8, u9⟩ := u1
          rw [show (y : Int) + 1 = (e : Int) by omega]
          have lk : me_i M2 182 e = (t1 : Int) := by
            rw [v5.i u6.1 (by omega) ok182 fun z => ?_]
            · rw [x8, Int.toNat_natCast] at u5
              exact u5
            · rcases z with z | ⟨_, k, k1, k2, k3, k4⟩
              · have := z.1
                omega
              · omega
          have m1 := v5.2.2.2.2.1 31 g31
          have m2 := v5.2.2.2.2.1 32 g32
          have m3 := v5.2.2.2.2.1 33 g33
          refine node_w F (by omega) he hx hx1 hle (c_402_j (t := t1) v4 (by omega) c1 c2 lk v3 (by omega) (by omega)) hb (fun M3 q => ?_) K
          obtain ⟨q1, q2⟩ := q
          have o1 := q1.2.2.2.2.1 31 g31
          have o2 := q1.2.2.2.2.1 32 g32
          have o3 := q1.2.2.2.2.1 33 g33
          have z31 : gi M3 31 t1 = gi M1 31 t1 := (q1.g g31 (by omega) fun z => by omega).trans (v5.g g31 (by omega) fun z => by have := z.2; omega)
          have e30 : me_i M3 164 30 = (t2 : Int) := (q1.i4 v4.1 fun z => z).trans v3
          have k1 := (u9.keep (v5.mo (fun _ _ z => z) (xR_mo (by omega : t1 ≤ t1 + 1))) ⟨by omega, by omega, by omega⟩).keep (q1.mo (P' := no2) (R' := xR t1) (fun _ _ z => z) fun j i z => ⟨by omega, by omega⟩) ⟨by omega, by omega, by omega⟩
          have k2 := v7.eq (S' := gi M3 31) (F' := gi M3 32) (E' := gi M3 33) fun j j1 j2 => ⟨q1.g g31 (by omega) fun z => by omega, q1.g g32 (by omega) fun z => by omega, q1.g g33 (by omega) fun z => by omega⟩
          rw [pt_ne tx] at k1
          rw [pt_ne ty] at k2
          rw [pt_ne (by omega)]
          have tl : ∀ a : Int, cle (T e :: st, D) (a :: st, D) := fun a => ⟨⟨by omega, tle.rf⟩, fun _ z => z⟩
          have k3 := ACD.andor (t := T e) (by rw [z31]; exact u4) q2 w10 (k2.weak cle.rf (tl (T y)))
          refine ⟨t2, by omega, ⟨?_, by omega, (k1.weak cle.rf (tl (T x))).seq k3⟩, ⟨by omega, by omega, by omega⟩, e30, xP_ce v4 q1 fun b j z => z.elim⟩
          exact ((u7.mo (xP_mo (Nat.le_refl _) (by omega)) fun _ _ z => z).tr (v5.mo (xP_mo (by omega) (by omega)) (xR_mo (by omega)))).tr (q1.mo no2_mo fun j i z => ⟨by omega, by omega⟩)
        · exact absurd v ly
      · exact go [x, y] ⟨s1, by omega, x8, s2, by omega, y8, e3⟩ (fun z => c2 z.2) fun M1 t1 a1 a2 a3 => c_402_b a1 a2 a3 (by omega) G he n1 n2 hw n3 hcl hb8 c1 ⟨fun z => c2 (Or.inl z), fun z => c2 (Or.inr z)⟩ tx ty
    · have nc : ¬ (A 0 e = 15 ∧ (A 3 e = 304 ∨ A 3 e = 305)) := fun z => c1 z.1
      by_cases c2 : 1 ≤ A 0 e ∧ A 0 e ≤ 7 ∨ A 0 e = 9
      · have hl := kids_0 G he S (by omega)
        exact go [] hl nc fun M1 t1 a1 a2 a3 => c_402_l a1 a2 a3 (by omega) G he n1 n2 hw n3 hcl hb8 (fun q => hv e q hle (Nat.le_refl _)) c2
      · by_cases c3 : A 0 e = 8
        · obtain ⟨ks, k1, k2⟩ := kids_c G he S (Or.inl c3)
          exact go ks k2 nc fun M1 t1 a1 a2 a3 => c_402_a a1 a2 a3 (by omega) G he n1 n2 hw n3 hcl hb8 c3 k1 hb4 har fun a a1 => (k2.mem a a1).2.1
        · by_cases c4 : A 0 e = 12
          · obtain ⟨x, ks, k1, k2, k3, k4, k5, k6, k7, k8⟩ := kids_d G he S c4
            exact go (x :: ks) ⟨k2, k3, k6, k8⟩ nc fun M1 t1 a1 a2 a3 => c_402_d a1 a2 a3 (by omega) G he n1 n2 hw n3 hcl hb8 c4 k1 k7 hb4 har fun a a1 => (k8.mem a a1).2.1
          · obtain ⟨x, k1, k2, k3, k4, k5, k6⟩ := kids_1 G he S (by omega)
            have sx := k2.1
            by_cases c5 : A 0 e = 11
            · exact go [x] ⟨k2, by omega, k6, k3⟩ nc fun M1 t1 a1 a2 a3 => c_402_f a1 a2 a3 (by omega) G he n1 n2 hw n3 hcl hb8 c5 k1
            · exact go [x] ⟨k2, by omega, k6, k3⟩ nc fun M1 t1 a1 a2 a3 => c_402_u a1 a2 a3 (by omega) G he n1 n2 hw n3 hcl hb8 (by omega) k1 fun z => by
                have := kT x (by omega) (by omega) k5 z
                rw [k6, Int.toNat_natCast] at this
                omega
end WEX
