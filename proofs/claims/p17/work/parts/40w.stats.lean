/-! writeStatement, by the size of a statement -/
/-- what the judge tells of the statements of member h -/
def STS (A B : Nat → Nat → Int) (nx T : Nat → Int) (n m h : Nat) : Prop := ∀ w, w < n → A 10 w = h → (A 0 w = 21 → ∃ q : Nat, A 2 w = (q : Int) ∧ q < m ∧ B 3 q = (h : Int) ∧ B 0 q = 4 ∧ fit nx (T (A 1 w).toNat) (B 8 q)) ∧ (A 0 w = 22 → (A 0 (A 1 w).toNat = 7 ∨ A 0 (A 1 w).toNat = 11) ∧ ¬ T (A 1 w).toNat = -5 ∧ fit nx (T (A 2 w).toNat) (T (A 1 w).toNat)) ∧ (A 0 w = 26 → B 0 h = 2 ∧ (A 1 w = -1 ∧ B 8 h = 3 ∨ 0 ≤ A 1 w ∧ fit nx (T (A 1 w).toNat) (B 8 h)))
section WST6
variable {N : Nat} {X : Nat → Int32} {d p C n m cl h hc dh lo w t t1 u f : Nat} {A B : Nat → Nat → Int} {b s nx cn mn T : Nat → Int} {hh : Nat → Int × Nat} {D : Nat → Prop} {M M1 : me_M} {x3 : Int}
theorem s_all (Z : STS A B nx T n m h) (I : STP N X p C n m cl h hc A B nx cn mn f) (hf : w - lo ≤ f) (F : STF A B b s nx cn mn T hh n dh C m cl h hc) (hd : 3 * (w - lo) + 23 ≤ d) (S : seg A lo w) (he : w < n) (h10 : ∀ k, lo ≤ k → k ≤ w → A 10 k = h) (hv : ∀ q, SC A B h lo w q → D q) (K0 : SW p C n mn B nx cn m cl h hc A u lo (w + 1) t M t1 M1 ([], D) ([], D)) (hu : u ≤ 1) (hb : t + 4 * (w + 1 - lo) ≤ 59900) (rx : me_r x3) (ho : 20 ≤ A 0 w ∧ A 0 w ≤ 27) : me_W (mt_G N X) 403 d 68 [some (.inr (.inl (some 164, 25, 0))), some (.inl (w : Int)), some (.inr (.inl (some p, 29, 0))), some (.inl x3), none, none] [] M1 (sx_qV (fun M' => ∃ t', SW p C n mn B nx cn m cl h hc A (4 * (w + 1 - lo)) lo (w + 1) t M t' M' ([], D) ([], LD A D w)) nt_E) := by
  have z := Z w he (h10 w S.1 (Nat.le_refl _))
  by_cases c0 : A 0 w = 20
  · exact s_20 I hf F hd S he h10 hv K0 hu hb c0
  by_cases c1 : A 0 w = 21
  · exact s_21 F (by omega) S he h10 hv K0 hu hb c1 (z.1 c1)
  by_cases c2 : A 0 w = 22
  · exact s_22 F (by omega) S he h10 hv K0 hu hb c2 (z.2.1 c2)
  by_cases c3 : A 0 w = 23
  · exact s_23 F (by omega) S he h10 hv K0 hu hb c3
  by_cases c4 : A 0 w = 24
  · by_cases c5 : A 3 w = -1
    · exact s_24a I hf F hd S he h10 hv K0 hu hb c4 c5
    · exact s_24b I hf F hd S he h10 hv K0 hu hb c4 c5
  by_cases c5 : A 0 w = 25
  · exact s_25 I hf F hd S he h10 hv K0 hu hb rx c5
  by_cases c6 : A 0 w = 26
  · exact s_26 F (by omega) S he h10 hv K0 hu hb c6 (z.2.2 c6)
  exact s_27 F (by omega) S he h10 hv K0 hu hb (by clear z; omega)
end WST6
