/-! writeStatement -/
section WST7
variable {N : Nat} {X : Nat → Int32} {p C n m cl h hc dh : Nat} {A B : Nat → Nat → Int} {b s nx cn mn T : Nat → Int} {hh : Nat → Int × Nat}
theorem tk_5 (G : ∀ k, k < n → cl_ A b s 0 n dh C (hh k) k) {k : Nat} (hk : k < n) : 0 ≤ A 5 k ∧ A 5 k < C := by
  obtain ⟨_, _, ⟨c1, c2, c3, _⟩, _⟩ := G k hk
  omega
theorem c_403 (Z : STS A B nx T n m h) (F : STF A B b s nx cn mn T hh n dh C m cl h hc) : ∀ f, STP N X p C n m cl h hc A B nx cn mn f := by
  intro f
  induction f with
  | zero => exact fun lo w D M t d hf => by omega
  | succ f ih =>
    intro lo w D M t d hf S he ho h10 hv H h30 lw L hb hd
    obtain ⟨G, ⟨n1, n2, n3⟩, _⟩ := id F
    obtain ⟨w5, w6⟩ := tk_5 G he
    clear G
    obtain ⟨k5, e5⟩ : ∃ k : Nat, A 5 w = (k : Int) := ⟨(A 5 w).toNat, by omega⟩
    obtain ⟨_, h6, hp, hA, _, _, _, _, hK⟩ := id H
    obtain ⟨v1, v2, v3, v4, v5⟩ := hK k5 (by omega)
    have a0 : ∀ j, me_i M (p + 14) j = A 0 j := fun j => hA 0 j (by omega) (by omega)
    have a5 : ∀ j, me_i M (p + 19) j = A 5 j := fun j => hA 5 j (by omega) (by omega)
    have a8 : ∀ j, me_i M (p + 22) j = A 8 j := fun j => hA 8 j (by omega) (by omega)
    have i4 : me_i M (p + 7 + 5) k5 = kA p M 4 k5 := rfl
    have i2 : me_i M (p + 7 + 3) k5 = kA p M 2 k5 := rfl
    have rx : me_r (10000 * kA p M 4 k5 + kA p M 2 k5) := ⟨by omega, by omega⟩
    have S0 : SW p C n mn B nx cn m cl h hc A 0 lo (w + 1) t M t M ([], D) ([], D) := SW.nil H h30 lw L cle.rf
    have go : me_W (mt_G N X) 403 d 59 [some (.inr (.inl (some 164, 25, 0))), some (.inl (w : Int)), some (.inr (.inl (some p, 29, 0))), some (.inl (10000 * kA p M 4 k5 + kA p M 2 k5)), none, none] [] M (sx_qV (fun M' => ∃ t', SW p C n mn B nx cn m cl h hc A (4 * (w + 1 - lo)) lo (w + 1) t M t' M' ([], D) ([], LD A D w)) nt_E) := by
      refine b403_59 (act_w S0 (by omega) ⟨by omega, by omega⟩ rx ⟨by omega, by omega⟩ (SA_15 (Or.inl rfl)) (by omega) fun M1 K1 => ?_)
      exact s_all Z ih (by omega) F (by omega) S he h10 hv K1 (by omega) hb rx ho
    refine b403_0 ?_
    simp only [h6, dr_eq, Int.toNat_natCast, a0, a5, a8, e5, i4, i2]
    exact ⟨by omega, by omega, by omega, by omega, by omega, by omega, by omega, by omega, by omega, by omega, H.rA (by omega) (by omega), ⟨by omega, by omega⟩, fun _ => go, fun _ => ⟨by omega, by omega, H.rA (by omega) (by omega), fun _ => s_all Z ih (by omega) F (by omega) S he h10 hv S0 (by omega) hb rx ho, fun _ => go⟩⟩
end WST7
