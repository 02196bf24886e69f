/-! writeStatement: blocks -/
section WST5
variable {N : Nat} {X : Nat → Int32} {d p C n m cl h hc dh lo w t t1 u f : Nat} {A B : Nat → Nat → Int} {b s nx cn mn T : Nat → Int} {hh : Nat → Int × Nat} {D : Nat → Prop} {M M1 : me_M} {x3 : Int}
/-- what is known at the next part of block w, from a on, is D -/
def VK (A B : Nat → Nat → Int) (h w a : Nat) (D : Nat → Prop) : Prop := ∀ e q, seg A a e → e < w → SC A B h a e q → D q
theorem VK.step {a c : Nat} (V : VK A B h w a D) (S : seg A a c) (hc : c < w) : VK A B h w (c + 1) (LD A D c) := fun e q s1 he H => by
  obtain ⟨c0, k⟩ := H
  have s0 := s1.1
  rcases k with k | ⟨c1, l, l1, l2, l3, l4, l5⟩
  · exact Or.inl (V c q S hc ⟨c0, Or.inl k⟩)
  · rcases Nat.lt_or_ge l a with v | v
    · exact Or.inl (V c q S hc ⟨c0, Or.inr ⟨c1, l, v, by omega, l3, l4, l5⟩⟩)
    · by_cases e1 : l = c
      · rw [e1] at l3 l4
        exact Or.inr ⟨l3, l4⟩
      · have := S.2.1 l v (by omega)
        omega
theorem blk_w (I : STP N X p C n m cl h hc A B nx cn mn f) (hf : w - lo ≤ f) (F : STF A B b s nx cn mn T hh n dh C m cl h hc) (hd : 3 * (w - lo) + 23 ≤ d) (he : w < n) (ho : A 0 w = 20) (h10 : ∀ k, lo ≤ k → k ≤ w → A 10 k = h) (hb : t + 4 * (w + 1 - lo) ≤ 59900) : ∀ (ks : List Nat) (a : Nat) (x : Int) (D1 : Nat → Prop) (M1 : me_M) (t1 u : Nat), SG A w a ks → CHN A x ks → lo ≤ a → VK A B h w a D1 → SW p C n mn B nx cn m cl h hc A u lo (w + 1) t M t1 M1 ([], D) ([], D1) → (∀ q, D q → D1 q) → u + 4 * (w - a) ≤ 4 * (w + 1 - lo) → me_W (mt_G N X) 403 d 124 [some (.inr (.inl (some 164, 25, 0))), none, some (.inr (.inl (some p, 29, 0))), none, some (.inl x), none] [] M1 (sx_qV (fun M' => ∃ t', SW p C n mn B nx cn m cl h hc A (4 * (w + 1 - lo)) lo (w + 1) t M t' M' ([], D) ([], LD A D w)) nt_E) := by
  obtain ⟨G, ⟨n1, n2, n3⟩, _⟩ := id F
  intro ks
  induction ks with
  | nil =>
    intro a x D1 M1 t1 u S Hc hl V K hD hu
    have Hc : x = -1 := Hc
    refine b403_124 ⟨by rw [Hc]; exact ⟨by omega, by omega⟩, fun _ => end_441 ⟨t1, K.weak cle.rf ⟨tle.rf, fun q z => hD q (LD.no (by omega) q z)⟩ (by omega)⟩, fun z => by omega⟩
  | cons c r ih =>
    intro a x D1 M1 t1 u S Hc hl V K hD hu
    obtain ⟨s1, s2, s3, s4⟩ := S
    obtain ⟨hx, Hc2⟩ := Hc
    have s0 := s1.1
    have b1 := K.2.1
    have sm := kid_sm G he ho c c s2 s3 (Nat.le_refl _)
    rw [hx]
    refine b403_124 ⟨⟨by omega, by omega⟩, fun z => by omega, fun _ => ?_⟩
    refine stat_w (t := t1) (D := D1) I (by omega) s1 (by omega) sm (fun k k1 k2 => h10 k (by omega) (by omega)) (fun q z => V c q s1 s2 z) K.2.2.2.2.2.1 K.2.2.2.2.1 K.2.2.2.1 K.2.2.2.2.2.2 (by omega) (by omega) fun M2 t2 K2 => ?_
    have H2 := K2.2.2.2.2.2.1
    have c2 : me_i M2 (p + 21) c = A 7 c := H2.2.2.2.1 7 c (by omega) (by omega)
    refine dr_s ⟨by omega, by omega, ?_⟩
    rw [Int.toNat_natCast, c2]
    exact ih (c + 1) (A 7 c) (LD A D1 c) M2 t2 _ s4 Hc2 (by omega) (V.step s1 s2) (K.seq K2 hl (by omega)) (fun q z => Or.inl (hD q z)) (by omega)
theorem s_20 (I : STP N X p C n m cl h hc A B nx cn mn f) (hf : w - lo ≤ f) (F : STF A B b s nx cn mn T hh n dh C m cl h hc) (hd : 3 * (w - lo) + 23 ≤ d) (S : seg A lo w) (he : w < n) (h10 : ∀ k, lo ≤ k → k ≤ w → A 10 k = h) (hv : ∀ q, SC A B h lo w q → D q) (K0 : SW p C n mn B nx cn m cl h hc A u lo (w + 1) t M t1 M1 ([], D) ([], D)) (hu : u ≤ 1) (hb : t + 4 * (w + 1 - lo) ≤ 59900) (ho : A 0 w = 20) : me_W (mt_G N X) 403 d 68 [some (.inr (.inl (some 164, 25, 0))), some (.inl (w : Int)), some (.inr (.inl (some p, 29, 0))), some (.inl x3), none, none] [] M1 (sx_qV (fun M' => ∃ t', SW p C n mn B nx cn m cl h hc A (4 * (w + 1 - lo)) lo (w + 1) t M t' M' ([], D) ([], LD A D w)) nt_E) := by
  obtain ⟨G, ⟨n1, n2, n3⟩, hcl, hb8, hb4, har, hT⟩ := id F
  have H := K0.2.2.2.2.2.1
  have hp := H.2.2.1
  have a0 : ∀ j, me_i M1 (p + 14) j = A 0 j := fun j => H.2.2.2.1 0 j (by omega) (by omega)
  have a1 : ∀ j, me_i M1 (p + 15) j = A 1 j := fun j => H.2.2.2.1 1 j (by omega) (by omega)
  have a2 : ∀ j, me_i M1 (p + 16) j = A 2 j := fun j => H.2.2.2.1 2 j (by omega) (by omega)
  have b0 := K0.2.1
  obtain ⟨ks, k1, k2⟩ := kids_c G he S (Or.inr ho)
  have hl := S.1
  refine b403_68 ?_
  simp only [dr_eq, Int.toNat_natCast, a0, a1, a2]
  refine ⟨by omega, by omega, H.rA (by omega) (by omega), fun z => by omega, fun _ => ⟨by omega, by omega, ?_⟩, fun z => by omega, fun z => by omega, fun z => by omega, fun z => by omega, fun z => by omega, fun z => by omega, trivial⟩
  refine blk_w I hf F hd he ho h10 (by omega) ks lo (A 1 w) D M1 t1 u k2 k1 (Nat.le_refl _) (fun e q s1 h1 z => ?_) K0 (fun q z => z) (by omega)
  obtain ⟨c0, c⟩ := z
  have s0 := s1.1
  refine hv q ⟨c0, c.imp id fun ⟨c1, l, l1, l2, l3⟩ => ⟨c1, l, l1, ?_, l3⟩⟩
  have := S.2.2 l l1
  omega
end WST5
