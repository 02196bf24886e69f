/-! writeExp: a step of the loop; a jump of && and || is written, and set -/
/-- e is the left part of && or || -/
def left (A : Nat → Nat → Int) (e : Nat) : Prop := 0 ≤ A 8 e ∧ A 0 (A 8 e).toNat = 15 ∧ A 1 (A 8 e).toNat = e ∧ (A 3 (A 8 e).toNat = 304 ∨ A 3 (A 8 e).toNat = 305)
def LW (M : me_M) : Prop := me_i M 164 30 ≤ gL M 31 ∧ me_i M 164 30 ≤ gL M 32 ∧ me_i M 164 30 ≤ gL M 33
def lP (j0 : Int) : Nat → Nat → Prop := fun b j => wP b j ∨ b = 182 ∧ (j : Int) = j0
/-- the jump of a left part was written -/
def LK (A : Nat → Nat → Int) (e t : Nat) (M M' : me_M) : Prop := gx (lP (A 8 e)) (wR t) M M' ∧ me_i M' 164 30 = (t : Int) + 1 ∧ (gi M' 31 t = 12 ∨ gi M' 31 t = 13) ∧ me_i M' 182 (A 8 e).toNat = (t : Int) ∧ t < gL M' 31 ∧ t < gL M' 32 ∧ t < gL M' 33
theorem W1.lw {M M' : me_M} {t : Nat} {s f e : Int} (w : W1 M M' t s f e) : LW M' := by
  obtain ⟨_, w2, _, _, _, w6, w7, w8⟩ := w
  exact ⟨by omega, by omega, by omega⟩
theorem LK.lw {A : Nat → Nat → Int} {M M' : me_M} {t e : Nat} (w : LK A e t M M') : LW M' := by
  obtain ⟨_, w2, _, _, w6, w7, w8⟩ := w
  exact ⟨by omega, by omega, by omega⟩
section LOOP
variable {N : Nat} {X : Nat → Int32} {d p C n e t : Nat} {A B : Nat → Nat → Int} {cn mn : Nat → Int} {M M' : me_M} {Q : me_Q} {x1 : Int}
theorem ok182 : ¬ oka 182 := by unfold oka; omega
theorem LK.mk (W : ∃ y f e', W1 M M' t y f e' ∧ (y = 12 ∨ y = 13)) (ht : t < 60000) (h8 : 0 ≤ A 8 e) : LK A e t M (me_sI M' 182 (A 8 e).toNat (Int32.ofInt (t : Int))) := by
  obtain ⟨y, f, e', ⟨w1, w2, w3, w4, w5, w6, w7, w8⟩, hy⟩ := W
  have g1 : gx (lP (A 8 e)) no2 M' (me_sI M' 182 (A 8 e).toNat (Int32.ofInt (t : Int))) := gx.of w1.GA (fr_sI (Or.inr ⟨rfl, by omega⟩)) fun b j z => by
    rcases z with z | z
    · rw [z.1]
      exact ok164
    · rw [z.1]
      exact ok182
  refine ⟨(w1.mo (fun b j z => Or.inl z) fun _ _ z => z).tr (g1.mo (fun _ _ z => z) no2_mo), ?_, ?_, ?_, w6, w7, w8⟩
  · rw [me_i_sI, if_neg (by omega)]
    exact w2
  · have := g1.g g31 w6 fun z => z
    rw [this, w3]
    exact hy
  · rw [me_i_sI, if_pos ⟨rfl, rfl⟩, me_to ⟨by omega, by omega⟩]
theorem c_401_s {P : me_M → Prop} (hd : 5 ≤ d) (hn : n ≤ 2405) (he : e < n) (hx : (e : Int) ≤ x1) (hx1 : x1 < 5000) (h8 : A 8 e = -1 ∨ (e : Int) < A 8 e ∧ A 8 e < n) (h402 : me_W (mt_G N X) 402 (d - 1) 0 [some (.inr (.inl (some 164, 25, 0))), some (.inl (e : Int)), none, none, none] [] M (sx_qV P nt_E))
    (hP : ∀ M1, P M1 → CEV p C A B cn mn M1 ∧ ∃ t : Nat, me_i M1 164 30 = (t : Int) ∧ t < 60000)
    (K0 : ∀ M1, P M1 → ¬ left A e → me_W (mt_G N X) 401 d 7 [some (.inr (.inl (some 164, 25, 0))), some (.inl x1), some (.inl ((e : Int) + 1)), none] [] M1 Q)
    (K1 : ∀ (M1 M2 : me_M) (t : Nat), P M1 → left A e → me_i M1 164 30 = (t : Int) → LK A e t M1 M2 → me_W (mt_G N X) 401 d 7 [some (.inr (.inl (some 164, 25, 0))), some (.inl x1), some (.inl ((e : Int) + 1)), none] [] M2 Q) :
    me_W (mt_G N X) 401 d 7 [some (.inr (.inl (some 164, 25, 0))), some (.inl x1), some (.inl (e : Int)), none] [] M Q := by
  refine b401_7 ⟨⟨by omega, by omega⟩, ⟨by omega, by omega⟩, fun z => by omega, fun _ => ca_V (by omega) h402 (fun M1 _ q => ?_) nt_E_no⟩
  obtain ⟨H, t, ht, ht2⟩ := hP M1 q
  obtain ⟨G0, h6, hp, hA, _⟩ := id H
  have a0 : ∀ j, me_i M1 (p + 14) j = A 0 j := fun j => hA 0 j (by omega) (by omega)
  have a1 : ∀ j, me_i M1 (p + 15) j = A 1 j := fun j => hA 1 j (by omega) (by omega)
  have a3 : ∀ j, me_i M1 (p + 17) j = A 3 j := fun j => hA 3 j (by omega) (by omega)
  have a8 : ∀ j, me_i M1 (p + 22) j = A 8 j := fun j => hA 8 j (by omega) (by omega)
  have nx := K0 M1 q
  simp only [h6, dr_eq, Int.toNat_natCast, a0, a1, a3, a8]
  have wr : ∀ (y : Int), y = 12 ∨ y = 13 → left A e → ∃ d', d = d' + 1 ∧ me_W (mt_G N X) 399 d' 0 [some (.inr (.inl (some 164, 25, 0))), some (.inl y), some (.inl (-1)), some (.inl 0)] [] M1 (sx_qI (fun y12 M9 => 0 ≤ A 8 e ∧ A 8 e < ((4816 : Nat) : Int) ∧ me_W (mt_G N X) 401 d 7 [some (.inr (.inl (some 164, 25, 0))), some (.inl x1), some (.inl ((e : Int) + 1)), none] [] (me_sI M9 (164 + 18) (A 8 e).toNat (Int32.ofInt y12)) Q) (fun e11 M10 => Q (.inl e11) M10)) := fun y hy hl => by
    refine ca_I (by omega) (c_399 G0 ht ht2 ⟨by omega, by omega⟩ ⟨by omega, by omega⟩ (by omega)) (fun y1 M2 _ w => ?_) nt_E_no
    obtain ⟨rfl, w⟩ := w
    have := hl.1
    exact ⟨by omega, by omega, K1 M1 _ t q hl ht (LK.mk ⟨y, _, _, w, hy⟩ ht2 (by omega))⟩
  refine ⟨by omega, by omega, H.rA (by omega) (by omega), fun z => nx fun v => by have := v.1; omega, fun z => ⟨by omega, by omega, H.rA (by omega) (by omega), ⟨by omega, by omega⟩, fun z1 => nx fun v => z1 v.2.1, fun z1 => ⟨by omega, by omega, H.rA (by omega) (by omega), ⟨by omega, by omega⟩, fun z2 => nx fun v => z2 v.2.2.1, fun z2 => ⟨by omega, by omega, H.rA (by omega) (by omega), ⟨by omega, by omega⟩, fun z3 => ⟨by omega, by omega, H.rA (by omega) (by omega), ⟨by omega, by omega⟩, fun z4 => by omega, fun z4 => wr 12 (Or.inl rfl) ⟨z, z1, z2, Or.inl z4⟩⟩, fun z3 => ⟨by omega, by omega, H.rA (by omega) (by omega), ⟨by omega, by omega⟩, fun z4 => nx fun v => ?_, fun z4 => ⟨by omega, by omega, H.rA (by omega) (by omega), ⟨by omega, by omega⟩, fun _ => wr 13 (Or.inr rfl) ⟨z, z1, z2, Or.inr z4⟩, fun z5 => by omega⟩⟩⟩⟩⟩⟩
  rcases v.2.2.2 with v | v
  · exact z3 v
  · exact z4 v
/-- the node of && or ||: its jump is set -/
theorem c_402_j {k t t2 : Nat} (H : CEV p C A B cn mn M) (hk : k < 4816) (ho : A 0 k = 15) (h3 : A 3 k = 304 ∨ A 3 k = 305) (hl : me_i M 182 k = (t : Int)) (h30 : me_i M 164 30 = (t2 : Int)) (ht2 : t2 < 60000) (hg : t < gL M 32) : me_W (mt_G N X) 402 d 0 [some (.inr (.inl (some 164, 25, 0))), some (.inl (k : Int)), none, none, none] [] M (sx_qV (fun M' => gx no2 (fun j i => j = 32 ∧ i = t) M M' ∧ gi M' 32 t = (t2 : Int)) nt_E) := by
  obtain ⟨G0, h6, hp, hA, _⟩ := id H
  have a0 : ∀ j, me_i M (p + 14) j = A 0 j := fun j => hA 0 j (by omega) (by omega)
  have a3 : ∀ j, me_i M (p + 17) j = A 3 j := fun j => hA 3 j (by omega) (by omega)
  have en : ∀ nn, (∀ b, me_p M 164 32 = some b → M.2.1 b = (0, nn)) → nn = gL M 32 := fun nn z => gn G0 g32 z
  have hl : me_i M (164 + 18) k = (t : Int) := hl
  have p32 := gp G0 g32
  have w : ∀ nn, (∀ b, some (ga M 32) = some b → M.2.1 b = (0, nn)) → 0 ≤ (k : Int) ∧ (k : Int) < ((4816 : Nat) : Int) ∧ 0 ≤ (t : Int) ∧ (t : Int) < ((nn : Nat) : Int) ∧ sx_qV (fun M' => gx no2 (fun j i => j = 32 ∧ i = t) M M' ∧ gi M' 32 t = (t2 : Int)) nt_E (.inr none) (me_sI M (ga M 32) t (Int32.ofInt (t2 : Int))) := fun nn z => by
    rw [← p32] at z
    have := en nn z
    exact ⟨by omega, by omega, by omega, by omega, gx.set G0 g32 ⟨rfl, rfl⟩, gi_set (M := M) ⟨by omega, by omega⟩⟩
  refine b402_0 ?_
  simp only [h6, p32, dr_eq, Int.toNat_natCast, a0, a3, hl, h30]
  refine ⟨by omega, by omega, H.rA (by omega) (by omega), fun z => ⟨by omega, by omega, H.rA (by omega) (by omega), ⟨by omega, by omega⟩, fun _ nn z => w nn z, fun z => ⟨by omega, by omega, H.rA (by omega) (by omega), ⟨by omega, by omega⟩, fun z => by omega, fun _ nn z => w nn z⟩⟩, fun z => by omega, fun z => by omega, fun z => by omega, fun z => by omega, fun z => by omega, fun z => by omega, fun z => by omega, fun z => by omega, fun z => by omega, fun z => by omega, fun z => by omega, fun z => by omega, fun z => by omega, fun z => by omega, trivial⟩
end LOOP
