/-! jumps of if: written, set, joined -/
section JOIN
variable {N : Nat} {X : Nat → Int32} {d p C n m cl h hc lo hi lo2 hi2 lo3 hi3 t t1 t2 t3 u u2 u3 : Nat} {A B : Nat → Nat → Int} {nx cn mn : Nat → Int} {D : Nat → Prop} {M M1 M2 M3 M4 M5 M6 M7 : me_M} {x y y2 : cx} {r : List Int} {v f e f2 e2 : Int}
/-- a jump's place is set -/
def PT (t0 t2 : Nat) (M M' : me_M) : Prop := gx no2 (fun j i => j = 32 ∧ i = t0) M M' ∧ gi M' 32 t0 = (t2 : Int)
theorem pat_w {K : me_M → Prop} {t0 : Nat} (H : CEV p C A B cn mn M2) (h30 : me_i M2 164 30 = (t2 : Int)) (h0 : t0 < gL M2 32) (hb : t2 < 62000) (k : ∀ M3, PT t0 t2 M2 M3 → K M3) : ∀ nn : Nat, (∀ b, me_p M2 164 32 = some b → M2.2.1 b = (0, nn)) → me_dr (me_p M2 164 32) (fun b => 0 ≤ (t0 : Int) ∧ (t0 : Int) < ((nn : Nat) : Int) ∧ K (me_sI M2 b (t0 : Int).toNat (Int32.ofInt (me_i M2 164 30)))) := by
  intro nn z
  cases gn H.1 g32 z
  rw [gp H.1 g32, h30, Int.toNat_natCast]
  exact ⟨by omega, by omega, k _ ⟨gx.set H.1 g32 ⟨rfl, rfl⟩, gi_set (M := M2) ⟨by omega, by omega⟩⟩⟩
theorem PT.row {t0 : Nat} (g : PT t0 t2 M M1) {j i : Nat} (hj : j ∈ gl) (hi : i < gL M j) (n : ¬ j = 32 ∨ ¬ i = t0) : gi M1 j i = gi M j i := g.1.g hj hi fun z => by
  have := z.1
  have := z.2
  omega
theorem gx.keep {P : Nat → Nat → Prop} {a i j : Nat} (g : gx P (xR a) M M1) (hj : j ∈ gl) (hi : i < gL M j) (h : i < a) : gi M1 j i = gi M j i := g.g hj hi fun z => by
  have := z.2
  omega
theorem PT.ce (g : PT t1 t2 M M1) (H : CEV p C A B cn mn M) : CEV p C A B cn mn M1 := xP_ce H g.1 fun b j z => z.elim
theorem PT.ls (g : PT t1 t2 M M1) (G : GA M) (L : LSA A n M) : LSA A n M1 := L.gx G g.1 fun j z => z
theorem PT.i (g : PT t1 t2 M M1) (G : GA M) {j : Nat} : me_i M1 164 j = me_i M 164 j := g.1.i4 G fun z => z
theorem PT.lw (g : PT t1 t2 M M1) (G : GA M) (L : LW M) : LW M1 := by
  have o1 := g.1.2.2.2.2.1 31 g31
  have o2 := g.1.2.2.2.2.1 32 g32
  have o3 := g.1.2.2.2.2.1 33 g33
  unfold LW at L ⊢
  rw [g.i G]
  omega
theorem PT.xR (g : PT t1 t2 M M1) (h : t ≤ t1) : gx (xP A lo hi) (xR t) M M1 := g.1.mo no2_mo fun j i z => ⟨by have := z.1; omega, by have := z.2; omega⟩
/-- acts t .. t' - 1 stand where the jump t1 is set -/
theorem PT.acd {a c : Nat} (g : PT t1 t2 M M1) (H : ACD B nx cn m cl h hc (gi M 31) (gi M 32) (gi M 33) a c x y) (l : (c : Int) ≤ gL M 31 ∧ (c : Int) ≤ gL M 32 ∧ (c : Int) ≤ gL M 33) (o : c ≤ t1 ∨ t1 < a) : ACD B nx cn m cl h hc (gi M1 31) (gi M1 32) (gi M1 33) a c x y :=
  H.eq fun j j1 j2 => ⟨g.row g31 (by omega) (Or.inl (by omega)), g.row g32 (by omega) (Or.inr (by omega)), g.row g33 (by omega) (Or.inl (by omega))⟩
theorem if_join (H : SW p C n mn B nx cn m cl h hc A u lo hi t M t1 M1 x (v :: r, D)) (w : W1 M1 M2 t1 22 f e) (K : SW p C n mn B nx cn m cl h hc A u2 lo2 hi2 (t1 + 1) M2 t2 M3 (r, D) y) (hy : cle (r, D) y) (g : PT t1 t2 M3 M4) (h1 : lo ≤ lo2) (h2 : hi2 ≤ hi) : SW p C n mn B nx cn m cl h hc A (u + 1 + u2) lo hi t M t2 M4 x (r, D) := by
  obtain ⟨a1, a2, a3, a4, a5, a6, a7⟩ := H
  obtain ⟨b1, b2, b3, b4, b5, b6, b7⟩ := K
  have wl := w.lw
  obtain ⟨w1, w2, w3, w4, w5, w6, w7, w8⟩ := w
  have gw : gx (xP A lo hi) (xR t1) M1 M2 := w1.mo (fun b j z => Or.inl z) fun j i z => ⟨z.1, by have := z.2; omega⟩
  have gb : gx (xP A lo hi) (xR (t1 + 1)) M2 M3 := b1.mo (xP_mo h1 h2) fun _ _ z => z
  have c4 := a4
  have d4 := b4
  unfold LW at c4 d4 wl
  have g0 : gx (xP A lo hi) (xR t1) M1 M3 := gw.tr (gb.mo (fun _ _ z => z) (xR_mo (Nat.le_succ _)))
  have s31 : gi M4 31 t1 = 22 := by
    rw [g.row g31 (by omega) (Or.inl (by omega)), gb.keep g31 w6 (by omega)]
    exact w3
  have k1 := g.acd (a3.keep g0 ⟨by omega, by omega, by omega⟩) (by
    have m1 := g0.2.2.2.2.1 31 g31
    have m2 := g0.2.2.2.2.1 32 g32
    have m3 := g0.2.2.2.2.1 33 g33
    omega) (Or.inl (Nat.le_refl _))
  have k2 := g.acd b3 (by omega) (Or.inr (by omega))
  refine ⟨a1.tr ((g0.mo (fun _ _ z => z) (xR_mo a2.1)).tr (g.xR a2.1)), by omega, k1.seq (ACD.cond s31 g.2 (k2.weak cle.rf hy)), g.lw b6.1 b4, (g.i b6.1).trans b5, g.ce b6, g.ls b6.1 b7⟩
end JOIN
