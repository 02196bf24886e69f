/-! jumps of if-else and while: joined -/
section JOIN2
variable {p C n m cl h hc lo hi lo2 hi2 lo3 hi3 t t1 t2 t3 u u2 u3 : Nat} {A B : Nat → Nat → Int} {nx cn mn : Nat → Int} {D : Nat → Prop} {M M1 M2 M3 M4 M5 M6 M7 : me_M} {x y y2 : cx} {rr : List Int} {v f e f2 e2 : Int}
theorem W1.gw (w : W1 M M1 t v f e) : gx (xP A lo hi) (xR t) M M1 := w.1.mo (fun b j z => Or.inl z) fun j i z => ⟨z.1, by have := z.2; omega⟩
theorem gx.len {P R : Nat → Nat → Prop} (g : gx P R M M1) : gL M 31 ≤ gL M1 31 ∧ gL M 32 ≤ gL M1 32 ∧ gL M 33 ≤ gL M1 33 := ⟨(g.2.2.2.2.1 31 g31).1, (g.2.2.2.2.1 32 g32).1, (g.2.2.2.2.1 33 g33).1⟩
theorem ife_join (H : SW p C n mn B nx cn m cl h hc A u lo hi t M t1 M1 x (v :: rr, D)) (w : W1 M1 M2 t1 22 f e) (K : SW p C n mn B nx cn m cl h hc A u2 lo2 hi2 (t1 + 1) M2 t2 M3 (rr, D) y) (hy : cle (rr, D) y) (w2 : W1 M3 M4 t2 23 f2 e2) (g : PT t1 (t2 + 1) M4 M5) (K2 : SW p C n mn B nx cn m cl h hc A u3 lo3 hi3 (t2 + 1) M5 t3 M6 (rr, D) y2) (hy2 : cle (rr, D) y2) (g2 : PT t2 t3 M6 M7) (h1 : lo ≤ lo2) (h2 : hi2 ≤ hi) (h3 : lo ≤ lo3) (h4 : hi3 ≤ hi) : SW p C n mn B nx cn m cl h hc A (u + 1 + u2 + 1 + u3) lo hi t M t3 M7 x (rr, D) := by
  obtain ⟨a1, a2, a3, a4, a5, a6, a7⟩ := H
  obtain ⟨b1, b2, b3, b4, b5, b6, b7⟩ := K
  obtain ⟨c1, c2, c3, c4, c5, c6, c7⟩ := K2
  have gw := w.gw (A := A) (lo := lo) (hi := hi)
  have gw2 := w2.gw (A := A) (lo := lo) (hi := hi)
  have wl := w.lw
  have wl2 := w2.lw
  have ce4 := w2.ce b6
  obtain ⟨_, w12, w13, w14, w15, w16, w17, w18⟩ := w
  obtain ⟨_, w22, w23, w24, w25, w26, w27, w28⟩ := w2
  have gb : gx (xP A lo hi) (xR (t1 + 1)) M2 M3 := b1.mo (xP_mo h1 h2) fun _ _ z => z
  have gc : gx (xP A lo hi) (xR (t2 + 1)) M5 M6 := c1.mo (xP_mo h3 h4) fun _ _ z => z
  have la := a4
  have lb := b4
  have lc := c4
  unfold LW at la lb lc wl wl2
  have n1 := gw.len
  have n2 := gb.len
  have n3 := gw2.len
  have n4 := g.1.len
  have n5 := gc.len
  have n6 := g2.1.len
  have g01 : gx (xP A lo hi) (xR t1) M1 M3 := gw.tr (gb.mo (fun _ _ z => z) (xR_mo (Nat.le_succ _)))
  have g02 : gx (xP A lo hi) (xR t1) M1 M4 := g01.tr (gw2.mo (fun _ _ z => z) (xR_mo (by omega)))
  have g03 : gx (xP A lo hi) (xR t1) M1 M5 := g02.tr (g.xR (Nat.le_refl _))
  have g04 : gx (xP A lo hi) (xR t1) M1 M6 := g03.tr (gc.mo (fun _ _ z => z) (xR_mo (by omega)))
  have g05 : gx (xP A lo hi) (xR t1) M1 M7 := g04.tr (g2.xR (by omega))
  -- the rows of both jumps
  have s1 : gi M7 31 t1 = 22 := by
    rw [g2.row g31 (by omega) (Or.inl (by omega)), gc.keep g31 (by omega) (by omega), g.row g31 (by omega) (Or.inl (by omega)), gw2.keep g31 (by omega) (by omega), gb.keep g31 w16 (by omega)]
    exact w13
  have f1 : gi M7 32 t1 = ((t2 + 1 : Nat) : Int) := by
    rw [g2.row g32 (by omega) (Or.inr (by omega)), gc.keep g32 (by omega) (by omega)]
    exact g.2
  have s2 : gi M7 31 t2 = 23 := by
    rw [g2.row g31 (by omega) (Or.inl (by omega)), gc.keep g31 (by omega) (by omega), g.row g31 (by omega) (Or.inl (by omega))]
    exact w23
  have k1 := a3.keep g05 ⟨by omega, by omega, by omega⟩
  have k2 := g2.acd ((g.acd (b3.keep gw2 ⟨by omega, by omega, by omega⟩) ⟨by omega, by omega, by omega⟩ (Or.inr (by omega))).keep (gc.mo (fun _ _ z => z) (xR_mo (by omega : t2 ≤ t2 + 1))) ⟨by omega, by omega, by omega⟩) ⟨by omega, by omega, by omega⟩ (Or.inl (by omega))
  have k3 := g2.acd c3 ⟨by omega, by omega, by omega⟩ (Or.inr (by omega))
  refine ⟨a1.tr (g05.mo (fun _ _ z => z) (xR_mo a2.1)), by omega, k1.seq (ACD.ife s1 (by omega) (k2.weak cle.rf hy) s2 g2.2 (k3.weak cle.rf hy2)), g2.lw c6.1 c4, (g2.i c6.1).trans c5, g2.ce c6, g2.ls c6.1 c7⟩
theorem wh_join {ub : Nat} {f0 e0 : Int} (H : SW p C n mn B nx cn m cl h hc A u lo hi t M t1 M1 x (rr, D)) (w0 : W1 M1 M2 t1 16 f0 e0) (Kc : SW p C n mn B nx cn m cl h hc A u2 lo2 hi2 (t1 + 1) M2 t2 M3 (rr, D) (v :: rr, D)) (w : W1 M3 M4 t2 22 f e) (K : SW p C n mn B nx cn m cl h hc A ub lo3 hi3 (t2 + 1) M4 t3 M5 (rr, D) y) (hy : cle (rr, D) y) (w2 : W1 M5 M6 t3 23 (t1 : Int) e2) (g : PT t2 (t3 + 1) M6 M7) (h1 : lo ≤ lo2) (h2 : hi2 ≤ hi) (h3 : lo ≤ lo3) (h4 : hi3 ≤ hi) : SW p C n mn B nx cn m cl h hc A (u + 1 + u2 + 1 + ub + 1) lo hi t M (t3 + 1) M7 x (rr, D) := by
  obtain ⟨a1, a2, a3, a4, a5, a6, a7⟩ := H
  obtain ⟨b1, b2, b3, b4, b5, b6, b7⟩ := Kc
  obtain ⟨c1, c2, c3, c4, c5, c6, c7⟩ := K
  have gw0 := w0.gw (A := A) (lo := lo) (hi := hi)
  have gw := w.gw (A := A) (lo := lo) (hi := hi)
  have gw2 := w2.gw (A := A) (lo := lo) (hi := hi)
  have wl0 := w0.lw
  have wl := w.lw
  have wl2 := w2.lw
  have ce6 := w2.ce c6
  have ls6 := c7.gx c6.1 gw2 fun j => xP_181
  obtain ⟨_, w02, w03, w04, w05, w06, w07, w08⟩ := w0
  obtain ⟨_, w12, w13, w14, w15, w16, w17, w18⟩ := w
  obtain ⟨_, w22, w23, w24, w25, w26, w27, w28⟩ := w2
  have gb : gx (xP A lo hi) (xR (t1 + 1)) M2 M3 := b1.mo (xP_mo h1 h2) fun _ _ z => z
  have gc : gx (xP A lo hi) (xR (t2 + 1)) M4 M5 := c1.mo (xP_mo h3 h4) fun _ _ z => z
  have la := a4
  have lb := b4
  have lc := c4
  have lw6 := wl2
  unfold LW at la lb lc wl0 wl wl2
  have n0 := gw0.len
  have n1 := gb.len
  have n2 := gw.len
  have n3 := gc.len
  have n4 := gw2.len
  have n5 := g.1.len
  have g1 : gx (xP A lo hi) (xR t1) M1 M3 := gw0.tr (gb.mo (fun _ _ z => z) (xR_mo (Nat.le_succ _)))
  have g2 : gx (xP A lo hi) (xR t1) M1 M4 := g1.tr (gw.mo (fun _ _ z => z) (xR_mo (by omega)))
  have g3 : gx (xP A lo hi) (xR t1) M1 M5 := g2.tr (gc.mo (fun _ _ z => z) (xR_mo (by omega)))
  have g4 : gx (xP A lo hi) (xR t1) M1 M6 := g3.tr (gw2.mo (fun _ _ z => z) (xR_mo (by omega)))
  have g5 : gx (xP A lo hi) (xR t1) M1 M7 := g4.tr (g.xR (by omega))
  have s0 : gi M7 31 t1 = 16 := by
    rw [g.row g31 (by omega) (Or.inl (by omega)), gw2.keep g31 (by omega) (by omega), gc.keep g31 (by omega) (by omega), gw.keep g31 (by omega) (by omega), gb.keep g31 w06 (by omega)]
    exact w03
  have s1 : gi M7 31 t2 = 22 := by
    rw [g.row g31 (by omega) (Or.inl (by omega)), gw2.keep g31 (by omega) (by omega), gc.keep g31 w16 (by omega)]
    exact w13
  have s2 : gi M7 31 t3 = 23 := by
    rw [g.row g31 (by omega) (Or.inl (by omega))]
    exact w23
  have f2 : gi M7 32 t3 = (t1 : Int) := by
    rw [g.row g32 (by omega) (Or.inr (by omega))]
    exact w24
  have k1 := a3.keep g5 ⟨by omega, by omega, by omega⟩
  have q1 : gx (xP A lo hi) (xR t2) M3 M6 := gw.tr ((gc.mo (fun _ _ z => z) (xR_mo (by omega))).tr (gw2.mo (fun _ _ z => z) (xR_mo (by omega))))
  have k2 := g.acd (b3.keep q1 ⟨by omega, by omega, by omega⟩) ⟨by omega, by omega, by omega⟩ (Or.inl (Nat.le_refl _))
  have k3 := g.acd (c3.keep gw2 ⟨by omega, by omega, by omega⟩) ⟨by omega, by omega, by omega⟩ (Or.inr (by omega))
  refine ⟨a1.tr (g5.mo (fun _ _ z => z) (xR_mo a2.1)), by omega, k1.seq (ACD.wh s0 k2 s1 (by have := g.2; omega) (k3.weak cle.rf hy) s2 f2), g.lw ce6.1 lw6, (g.i ce6.1).trans (by omega), g.ce ce6, g.ls ce6.1 ls6⟩
end JOIN2
