/-! a run: all is set to its beginning -/
section GQ
variable {P R P' R' : Nat → Nat → Prop} {M M1 M2 : me_M} {x : Option Nat} {j0 : Nat}
theorem ga_sP (h : ∀ j, j ∈ gl → ¬ j = j0) {j : Nat} (hj : j ∈ gl) : ga (me_sP M 164 j0 x) j = ga M j := by
  unfold ga
  rw [me_p_sP, if_neg fun v => h j hj v.2]
theorem gL_sP (h : ∀ j, j ∈ gl → ¬ j = j0) {j : Nat} (hj : j ∈ gl) : gL (me_sP M 164 j0 x) j = gL M j := by
  unfold gL
  rw [ga_sP h hj]
  rfl
/-- a pointer that is not a row's -/
theorem GA.sP (G : GA M) (h : ∀ j, j ∈ gl → ¬ j = j0) : GA (me_sP M 164 j0 x) := by
  obtain ⟨g1, g2, g3, g4, g5⟩ := G
  refine ⟨fun j j1 => ?_, fun i j i1 j1 z => g2 i j i1 j1 (by rw [← ga_sP (x := x) h i1, ← ga_sP (x := x) h j1]; exact z), g3, ?_, ?_⟩
  · obtain ⟨a1, a2, a3, a4, a5⟩ := g1 j j1
    rw [ga_sP h j1, gL_sP h j1]
    refine ⟨?_, a2, a3, a4, a5⟩
    rw [me_p_sP, if_neg fun v => h j j1 v.2]
    exact a1
  · rw [gsum_eq (f := gL M) gl fun j j1 => gL_sP h j1]
    exact g4
  · rw [gsum_eq (f := fun j => lg 40 (gL M j)) gl fun j j1 => by rw [gL_sP h j1]]
    exact g5
/-- as gx; the program and the numbers that are read may have changed -/
def gq (P R : Nat → Nat → Prop) (M M' : me_M) : Prop := M.1 ≤ M'.1 ∧ (∀ b, b < M.1 → M'.2.1 b = M.2.1 b) ∧ (∀ b j, b < M.1 → ¬ oka b → ¬ P b j → M'.2.2.1 b j = M.2.2.1 b j) ∧ (∀ b j, b < M.1 → ¬ (b = 164 ∧ (j ∈ gl ∨ j = 6 ∨ j = 16)) → M'.2.2.2.1 b j = M.2.2.2.1 b j) ∧ (∀ j, j ∈ gl → gL M j ≤ gL M' j ∧ ∀ i, i < gL M j → ¬ R j i → gi M' j i = gi M j i) ∧ GA M'
theorem gx.gq (h : gx P R M M1) : gq P R M M1 := ⟨h.1, h.2.1, h.2.2.1, fun b j b1 n => h.2.2.2.1 b j b1 fun v => n ⟨v.1, Or.inl v.2⟩, h.2.2.2.2.1, h.2.2.2.2.2⟩
theorem gq.tr (h : gq P R M M1) (k : gq P R M1 M2) : gq P R M M2 := by
  obtain ⟨h1, h2, h3, h4, h5, h6⟩ := h
  obtain ⟨k1, k2, k3, k4, k5, k6⟩ := k
  refine ⟨by omega, fun b b1 => by rw [k2 b (by omega), h2 b b1], fun b j b1 b2 b3 => by rw [k3 b j (by omega) b2 b3, h3 b j b1 b2 b3], fun b j b1 b2 => by rw [k4 b j (by omega) b2, h4 b j b1 b2], fun j j1 => ⟨by have := (h5 j j1).1; have := (k5 j j1).1; omega, fun i i1 i2 => ?_⟩, k6⟩
  have := (h5 j j1).1
  rw [(k5 j j1).2 i (by omega) i2, (h5 j j1).2 i i1 i2]
theorem gq.mo (h : gq P R M M1) (hP : ∀ b j, P b j → P' b j) (hR : ∀ b j, R b j → R' b j) : gq P' R' M M1 := ⟨h.1, h.2.1, fun b j b1 b2 b3 => h.2.2.1 b j b1 b2 fun z => b3 (hP b j z), h.2.2.2.1, fun j j1 => ⟨(h.2.2.2.2.1 j j1).1, fun i i1 i2 => (h.2.2.2.2.1 j j1).2 i i1 fun z => i2 (hR j i z)⟩, h.2.2.2.2.2⟩
theorem gq.i (h : gq P R M M1) (G : GA M) {b j : Nat} (b1 : b < 477) (b2 : ¬ oka b) (n : ¬ P b j) : me_i M1 b j = me_i M b j := by
  unfold me_i
  rw [h.2.2.1 b j (by have := G.2.2.1; omega) b2 n]
theorem nl6 : ∀ j, j ∈ gl → ¬ j = 6 := by decide
theorem nl16 : ∀ j, j ∈ gl → ¬ j = 16 := by decide
theorem gq.sP (G : GA M) (hj : j0 = 6 ∨ j0 = 16) : gq P R M (me_sP M 164 j0 x) := by
  have h : ∀ j, j ∈ gl → ¬ j = j0 := by
    rcases hj with e | e <;> rw [e]
    · exact nl6
    · exact nl16
  refine ⟨Nat.le_refl _, fun _ _ => rfl, fun _ _ _ _ _ => rfl, fun b j _ n => ?_, fun j j1 => ⟨by rw [gL_sP h j1]; exact Nat.le_refl _, fun i _ _ => ?_⟩, G.sP h⟩
  · show (if b = 164 ∧ j = j0 then x else M.2.2.2.1 b j) = _
    rw [if_neg fun v => n ⟨v.1, by have := v.2; omega⟩]
  · unfold gi
    rw [ga_sP h j1, me_i_sP]
theorem RP.sP {p C n m cl : Nat} {A B : Nat → Nat → Int} {nx cn ct fc fs mn : Nat → Int} {V : Nat → Nat → Prop} (H : RP p C n m cl A B nx cn ct fc fs mn V M) : RP p C n m cl A B nx cn ct fc fs mn V (me_sP M 164 16 x) := by
  obtain ⟨⟨h1, h2, h3, h4, h5, h6, h7, h8, h9⟩, h10⟩ := H
  refine ⟨⟨h1.sP nl16, ?_, h3, h4, h5, h6, h7, fun f hf => ?_, h9⟩, h10⟩
  · rw [me_p_sP, if_neg (by decide)]
    exact h2
  · rw [me_p_sP, if_neg (by omega)]
    exact h8 f hf
/-- cells that a run's begin sets -/
def zP : Nat → Nat → Prop := fun b j => b = 164 ∧ (7 ≤ j ∧ j ≤ 12 ∨ j = 17 ∨ j = 18 ∨ j = 23 ∨ 25 ≤ j ∧ j ≤ 29 ∨ j = 40 ∨ j = 42 ∨ j = 49)
theorem zP_ok : ∀ b j, zP b j → ¬ oka b := fun b j v => by rw [v.1]; exact ok164
end GQ
section BEG
variable {N : Nat} {X : Nat → Int32} {d p C n m cl : Nat} {A B : Nat → Nat → Int} {nx cn ct fc fs mn : Nat → Int} {V : Nat → Nat → Prop} {M M1 M2 : me_M}
/-- a run's begin -/
def BEG (p C n m cl : Nat) (A B : Nat → Nat → Int) (nx cn ct fc fs mn : Nat → Int) (V : Nat → Nat → Prop) (a2 : Nat) (x3 : Int) (M0 M : me_M) : Prop := RP p C n m cl A B nx cn ct fc fs mn V M ∧ gq zP no2 M0 M ∧ me_p M 164 16 = some a2 ∧ me_i M 164 49 = me_i M0 164 49 + 1 ∧ me_i M 164 18 = x3 ∧ ∀ j, (9 ≤ j ∧ j ≤ 12 ∨ j = 17 ∨ j = 23 ∨ 25 ≤ j ∧ j ≤ 28 ∨ j = 40 ∨ j = 42) → me_i M 164 j = 0
theorem beg_w {a2 l2 : Nat} {x3 : Int} {Q : me_Q} (H : RP p C n m cl A B nx cn ct fc fs mn V (me_sP M 164 6 (some p))) (G : GA M) (h49 : me_r (me_i M 164 49 + 1)) (rx : me_r x3) (HQ : ∀ M', BEG p C n m cl A B nx cn ct fc fs mn V a2 x3 M M' → me_W (mt_G N X) 397 d 105 [some (.inr (.inl (some 164, 25, 0))), some (.inr (.inl (some p, 29, 0))), none, none, some (.inl 0)] [] M' Q) : me_W (mt_G N X) 397 d 0 [some (.inr (.inl (some 164, 25, 0))), some (.inr (.inl (some p, 29, 0))), some (.inr (.inl (some a2, 0, l2))), some (.inl x3), none] [] M Q := by
  refine b397_0 ?_
  intro M1
  have q1 : gq zP no2 M M1 := gq.sP G (Or.inl rfl)
  have H1 : RP p C n m cl A B nx cn ct fc fs mn V M1 := H
  have o49 : me_i M1 164 49 = me_i M 164 49 := rfl
  clear_value M1
  intro M2
  obtain ⟨f2, v2⟩ := cell_fr (M := M1) (M1 := M2) (j0 := 49) (x := me_i M1 164 49 + 1) rfl (by rw [o49]; exact h49)
  clear_value M2
  have z2 : fr zP M1 M2 := f2.mo fun b j v => ⟨v.1, by have := v.2; omega⟩
  intro M3
  obtain ⟨f3, v3⟩ := cell_fr (M := M2) (M1 := M3) (j0 := 7) (x := 0) rfl (⟨by decide, by decide⟩)
  clear_value M3
  have z3 : fr zP M2 M3 := f3.mo fun b j v => ⟨v.1, by have := v.2; omega⟩
  intro M4
  obtain ⟨f4, v4⟩ := cell_fr (M := M3) (M1 := M4) (j0 := 8) (x := -2) rfl (⟨by decide, by decide⟩)
  clear_value M4
  have z4 : fr zP M3 M4 := f4.mo fun b j v => ⟨v.1, by have := v.2; omega⟩
  intro M5
  obtain ⟨f5, v5⟩ := cell_fr (M := M4) (M1 := M5) (j0 := 9) (x := 0) rfl (⟨by decide, by decide⟩)
  clear_value M5
  have z5 : fr zP M4 M5 := f5.mo fun b j v => ⟨v.1, by have := v.2; omega⟩
  intro M6
  obtain ⟨f6, v6⟩ := cell_fr (M := M5) (M1 := M6) (j0 := 10) (x := 0) rfl (⟨by decide, by decide⟩)
  clear_value M6
  have z6 : fr zP M5 M6 := f6.mo fun b j v => ⟨v.1, by have := v.2; omega⟩
  intro M7
  obtain ⟨f7, v7⟩ := cell_fr (M := M6) (M1 := M7) (j0 := 11) (x := 0) rfl (⟨by decide, by decide⟩)
  clear_value M7
  have z7 : fr zP M6 M7 := f7.mo fun b j v => ⟨v.1, by have := v.2; omega⟩
  intro M8
  obtain ⟨f8, v8⟩ := cell_fr (M := M7) (M1 := M8) (j0 := 12) (x := 0) rfl (⟨by decide, by decide⟩)
  clear_value M8
  have z8 : fr zP M7 M8 := f8.mo fun b j v => ⟨v.1, by have := v.2; omega⟩
  have F8 : fr zP M1 M8 := z2.tr (z3.tr (z4.tr (z5.tr (z6.tr (z7.tr z8)))))
  have q8 : gq zP no2 M1 M8 := (gx.of (R := no2) H1.1.1 F8 zP_ok).gq
  have H8 := H1.gx (gx.of (R := no2) H1.1.1 F8 zP_ok) fun b j z => Or.inl (by have := z.1; omega)
  intro M9
  have q9 : gq zP no2 M8 M9 := gq.sP H8.1.1 (Or.inr rfl)
  have H9 : RP p C n m cl A B nx cn ct fc fs mn V M9 := H8.sP
  have p9 : me_p M9 164 16 = some a2 := by
    show me_p (me_sP M8 164 16 (some a2)) 164 16 = _
    rw [me_p_sP, if_pos ⟨rfl, rfl⟩]
  have i9 : ∀ j, me_i M9 164 j = me_i M8 164 j := fun _ => rfl
  clear_value M9
  intro M10
  obtain ⟨f10, v10⟩ := cell_fr (M := M9) (M1 := M10) (j0 := 18) (x := x3) rfl (rx)
  clear_value M10
  have z10 : fr zP M9 M10 := f10.mo fun b j v => ⟨v.1, by have := v.2; omega⟩
  intro M11
  obtain ⟨f11, v11⟩ := cell_fr (M := M10) (M1 := M11) (j0 := 17) (x := 0) rfl (⟨by decide, by decide⟩)
  clear_value M11
  have z11 : fr zP M10 M11 := f11.mo fun b j v => ⟨v.1, by have := v.2; omega⟩
  intro M12
  obtain ⟨f12, v12⟩ := cell_fr (M := M11) (M1 := M12) (j0 := 23) (x := 0) rfl (⟨by decide, by decide⟩)
  clear_value M12
  have z12 : fr zP M11 M12 := f12.mo fun b j v => ⟨v.1, by have := v.2; omega⟩
  intro M13
  obtain ⟨f13, v13⟩ := cell_fr (M := M12) (M1 := M13) (j0 := 25) (x := 0) rfl (⟨by decide, by decide⟩)
  clear_value M13
  have z13 : fr zP M12 M13 := f13.mo fun b j v => ⟨v.1, by have := v.2; omega⟩
  intro M14
  obtain ⟨f14, v14⟩ := cell_fr (M := M13) (M1 := M14) (j0 := 26) (x := 0) rfl (⟨by decide, by decide⟩)
  clear_value M14
  have z14 : fr zP M13 M14 := f14.mo fun b j v => ⟨v.1, by have := v.2; omega⟩
  intro M15
  obtain ⟨f15, v15⟩ := cell_fr (M := M14) (M1 := M15) (j0 := 27) (x := 0) rfl (⟨by decide, by decide⟩)
  clear_value M15
  have z15 : fr zP M14 M15 := f15.mo fun b j v => ⟨v.1, by have := v.2; omega⟩
  intro M16
  obtain ⟨f16, v16⟩ := cell_fr (M := M15) (M1 := M16) (j0 := 28) (x := 0) rfl (⟨by decide, by decide⟩)
  clear_value M16
  have z16 : fr zP M15 M16 := f16.mo fun b j v => ⟨v.1, by have := v.2; omega⟩
  intro M17
  obtain ⟨f17, v17⟩ := cell_fr (M := M16) (M1 := M17) (j0 := 29) (x := -2) rfl (⟨by decide, by decide⟩)
  clear_value M17
  have z17 : fr zP M16 M17 := f17.mo fun b j v => ⟨v.1, by have := v.2; omega⟩
  intro M18
  obtain ⟨f18, v18⟩ := cell_fr (M := M17) (M1 := M18) (j0 := 40) (x := 0) rfl (⟨by decide, by decide⟩)
  clear_value M18
  have z18 : fr zP M17 M18 := f18.mo fun b j v => ⟨v.1, by have := v.2; omega⟩
  intro M19
  obtain ⟨f19, v19⟩ := cell_fr (M := M18) (M1 := M19) (j0 := 42) (x := 0) rfl (⟨by decide, by decide⟩)
  clear_value M19
  have z19 : fr zP M18 M19 := f19.mo fun b j v => ⟨v.1, by have := v.2; omega⟩
  have F19 : fr zP M9 M19 := z10.tr (z11.tr (z12.tr (z13.tr (z14.tr (z15.tr (z16.tr (z17.tr (z18.tr z19))))))))
  have X19 : gx zP no2 M9 M19 := gx.of H9.1.1 F19 zP_ok
  have H19 := H9.gx X19 fun b j z => Or.inl (by have := z.1; omega)
  have y : ∀ {j j0 : Nat}, ¬ j = j0 → ¬ m1 j0 164 j := fun h v => h v.2
  have w49 : me_i M19 164 49 = me_i M1 164 49 + 1 := (f19.i (y (by decide))).trans ((f18.i (y (by decide))).trans ((f17.i (y (by decide))).trans ((f16.i (y (by decide))).trans ((f15.i (y (by decide))).trans ((f14.i (y (by decide))).trans ((f13.i (y (by decide))).trans ((f12.i (y (by decide))).trans ((f11.i (y (by decide))).trans ((f10.i (y (by decide))).trans ((i9 _).trans ((f8.i (y (by decide))).trans ((f7.i (y (by decide))).trans ((f6.i (y (by decide))).trans ((f5.i (y (by decide))).trans ((f4.i (y (by decide))).trans ((f3.i (y (by decide))).trans (v2)))))))))))))))))
  have w9 : me_i M19 164 9 = 0 := (f19.i (y (by decide))).trans ((f18.i (y (by decide))).trans ((f17.i (y (by decide))).trans ((f16.i (y (by decide))).trans ((f15.i (y (by decide))).trans ((f14.i (y (by decide))).trans ((f13.i (y (by decide))).trans ((f12.i (y (by decide))).trans ((f11.i (y (by decide))).trans ((f10.i (y (by decide))).trans ((i9 _).trans ((f8.i (y (by decide))).trans ((f7.i (y (by decide))).trans ((f6.i (y (by decide))).trans (v5))))))))))))))
  have w10 : me_i M19 164 10 = 0 := (f19.i (y (by decide))).trans ((f18.i (y (by decide))).trans ((f17.i (y (by decide))).trans ((f16.i (y (by decide))).trans ((f15.i (y (by decide))).trans ((f14.i (y (by decide))).trans ((f13.i (y (by decide))).trans ((f12.i (y (by decide))).trans ((f11.i (y (by decide))).trans ((f10.i (y (by decide))).trans ((i9 _).trans ((f8.i (y (by decide))).trans ((f7.i (y (by decide))).trans (v6)))))))))))))
  have w11 : me_i M19 164 11 = 0 := (f19.i (y (by decide))).trans ((f18.i (y (by decide))).trans ((f17.i (y (by decide))).trans ((f16.i (y (by decide))).trans ((f15.i (y (by decide))).trans ((f14.i (y (by decide))).trans ((f13.i (y (by decide))).trans ((f12.i (y (by decide))).trans ((f11.i (y (by decide))).trans ((f10.i (y (by decide))).trans ((i9 _).trans ((f8.i (y (by decide))).trans (v7))))))))))))
  have w12 : me_i M19 164 12 = 0 := (f19.i (y (by decide))).trans ((f18.i (y (by decide))).trans ((f17.i (y (by decide))).trans ((f16.i (y (by decide))).trans ((f15.i (y (by decide))).trans ((f14.i (y (by decide))).trans ((f13.i (y (by decide))).trans ((f12.i (y (by decide))).trans ((f11.i (y (by decide))).trans ((f10.i (y (by decide))).trans ((i9 _).trans (v8)))))))))))
  have w18 : me_i M19 164 18 = x3 := (f19.i (y (by decide))).trans ((f18.i (y (by decide))).trans ((f17.i (y (by decide))).trans ((f16.i (y (by decide))).trans ((f15.i (y (by decide))).trans ((f14.i (y (by decide))).trans ((f13.i (y (by decide))).trans ((f12.i (y (by decide))).trans ((f11.i (y (by decide))).trans (v10)))))))))
  have w17 : me_i M19 164 17 = 0 := (f19.i (y (by decide))).trans ((f18.i (y (by decide))).trans ((f17.i (y (by decide))).trans ((f16.i (y (by decide))).trans ((f15.i (y (by decide))).trans ((f14.i (y (by decide))).trans ((f13.i (y (by decide))).trans ((f12.i (y (by decide))).trans (v11))))))))
  have w23 : me_i M19 164 23 = 0 := (f19.i (y (by decide))).trans ((f18.i (y (by decide))).trans ((f17.i (y (by decide))).trans ((f16.i (y (by decide))).trans ((f15.i (y (by decide))).trans ((f14.i (y (by decide))).trans ((f13.i (y (by decide))).trans (v12)))))))
  have w25 : me_i M19 164 25 = 0 := (f19.i (y (by decide))).trans ((f18.i (y (by decide))).trans ((f17.i (y (by decide))).trans ((f16.i (y (by decide))).trans ((f15.i (y (by decide))).trans ((f14.i (y (by decide))).trans (v13))))))
  have w26 : me_i M19 164 26 = 0 := (f19.i (y (by decide))).trans ((f18.i (y (by decide))).trans ((f17.i (y (by decide))).trans ((f16.i (y (by decide))).trans ((f15.i (y (by decide))).trans (v14)))))
  have w27 : me_i M19 164 27 = 0 := (f19.i (y (by decide))).trans ((f18.i (y (by decide))).trans ((f17.i (y (by decide))).trans ((f16.i (y (by decide))).trans (v15))))
  have w28 : me_i M19 164 28 = 0 := (f19.i (y (by decide))).trans ((f18.i (y (by decide))).trans ((f17.i (y (by decide))).trans (v16)))
  have w40 : me_i M19 164 40 = 0 := (f19.i (y (by decide))).trans (v18)
  have w42 : me_i M19 164 42 = 0 := v19
  refine HQ M19 ⟨H19, q1.tr (q8.tr (q9.tr X19.gq)), F19.p.trans p9, by rw [w49, o49], w18, fun j hj => ?_⟩
  have c : j = 9 ∨ j = 10 ∨ j = 11 ∨ j = 12 ∨ j = 17 ∨ j = 23 ∨ j = 25 ∨ j = 26 ∨ j = 27 ∨ j = 28 ∨ j = 40 ∨ j = 42 := by omega
  rcases c with e | e | e | e | e | e | e | e | e | e | e | e <;> rw [e] <;> assumption
end BEG
