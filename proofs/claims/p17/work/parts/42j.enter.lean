/-! the run: a method is entered -/
section ENT
variable {N : Nat} {X : Nat → Int32} {d p C n m cl : Nat} {A B : Nat → Nat → Int} {nx cn ct fc fs mn : Nat → Int} {V : Nat → Nat → Prop} {S F E : Nat → Int} {T BD : Nat} {MA KA : Nat → Int} {Mr M M1 M2 M' : me_M} {P R : Nat → Nat → Prop}
variable {nn fu st rd u b lb lo k i su hg bs tp : Nat} {σ : Nat → cx} {H : Nat → Nat} {z w self fm : Int}
/-- arguments become locals -/
theorem ent_89 {q na be bn tp0 : Nat} {ob x3 x4 : Int} {Q : me_Q} {M0 : me_M} (G0 : GA M0) (h40 : me_i M0 164 40 = ((bn + be : Nat) : Int)) (h25 : me_i M0 164 25 = (tp0 : Int)) (e3 : x3 = (na : Int)) (e4 : x4 = (be : Int)) (hn : na ≤ 8) (hl : bn + be + na ≤ gL M0 39) (hl2 : tp0 + na ≤ gL M0 24) (hq : q < 2408) (hbn : bn < 99000) (rob : me_r ob) (HQ : ∀ M1 M2, gx no2 (fun j a => j = 24 ∧ tp0 ≤ a) M0 M1 → (∀ b k, b < 477 → ¬ oka b → me_i M1 b k = me_i M0 b k) → (∀ j, j < na → gi M1 24 (tp0 + j) = gi M0 39 (bn + be + j)) → gx (fun b j => b = 164 ∧ (j = 40 ∨ j = 27 ∨ j = 28 ∨ j = 41)) no2 M1 M2 → me_i M2 164 40 = (bn : Int) → me_i M2 164 27 = (q : Int) → me_i M2 164 28 = ob → me_i M2 164 41 = me_i M1 178 q → Q (.inr none) M2) : ∀ (f x : Nat) (M1 : me_M), na - x < f → x ≤ na → gx no2 (fun j a => j = 24 ∧ tp0 ≤ a) M0 M1 → (∀ b k, b < 477 → ¬ oka b → me_i M1 b k = me_i M0 b k) → (∀ j, j < x → gi M1 24 (tp0 + j) = gi M0 39 (bn + be + j)) → me_W (mt_G N X) 418 d 89 [some (.inr (.inl (some 164, 25, 0))), some (.inl (q : Int)), some (.inl ob), some (.inl x3), some (.inl x4), some (.inl (x : Int))] [] M1 Q := by
  intro f
  induction f with
  | zero => intro x M1 z; omega
  | succ f ih =>
    intro x M1 hf hx g e0 hv
    have k40 := (e0 164 40 (by decide) ok164).trans h40
    have k25 := (e0 164 25 (by decide) ok164).trans h25
    have G1 := g.GA
    have i39 := (g.2.2.2.2.1 39 g39).1
    have i24 := (g.2.2.2.2.1 24 g24).1
    refine b418_89 ⟨⟨by omega, by omega⟩, ⟨by omega, by omega⟩, fun c => ?_, fun c => ?_⟩
    · have xe : x = na := by omega
      rw [xe] at hv
      intro Z1
      obtain ⟨a1, a2⟩ := cell_fr (M := M1) (M1 := Z1) (j0 := 40) (x := me_i M1 164 40 - x4) rfl (by rw [k40, e4]; exact ⟨by omega, by omega⟩)
      rw [k40, e4] at a2
      have a2 : me_i Z1 164 40 = (bn : Int) := by omega
      clear_value Z1
      intro Z2
      obtain ⟨b1, b2⟩ := cell_fr (M := Z1) (M1 := Z2) (j0 := 27) (x := (q : Int)) rfl ⟨by omega, by omega⟩
      clear_value Z2
      intro Z3
      obtain ⟨c1, c2⟩ := cell_fr (M := Z2) (M1 := Z3) (j0 := 28) (x := ob) rfl rob
      clear_value Z3
      refine ⟨by omega, by omega, ?_⟩
      intro Z4
      obtain ⟨d1, d2⟩ := cell_fr (M := Z3) (M1 := Z4) (j0 := 41) (x := me_i Z3 178 q) rfl (me_i_r _ _ _)
      clear_value Z4
      have F : fr (fun b j => b = 164 ∧ (j = 40 ∨ j = 27 ∨ j = 28 ∨ j = 41)) M1 Z4 := (a1.mo fun b j v => ⟨v.1, Or.inl v.2⟩).tr ((b1.mo fun b j v => ⟨v.1, Or.inr (Or.inl v.2)⟩).tr ((c1.mo fun b j v => ⟨v.1, Or.inr (Or.inr (Or.inl v.2))⟩).tr (d1.mo fun b j v => ⟨v.1, Or.inr (Or.inr (Or.inr v.2))⟩)))
      refine HQ M1 Z4 g e0 hv (gx.of G1 F fun b j v => by rw [v.1]; exact ok164) ?_ ?_ ?_ ?_
      · rw [d1.i fun v => absurd v.2 (by decide), c1.i fun v => absurd v.2 (by decide), b1.i fun v => absurd v.2 (by decide)]
        exact a2
      · rw [d1.i fun v => absurd v.2 (by decide), c1.i fun v => absurd v.2 (by decide)]
        exact b2
      · rw [d1.i fun v => absurd v.2 (by decide)]
        exact c2
      · rw [d2, c1.i fun v => absurd v.1 (by decide), b1.i fun v => absurd v.1 (by decide), a1.i fun v => absurd v.1 (by decide)]
    · intro n5 hn5 n6 hn6
      cases gn G1 g24 hn5
      cases gn G1 g39 hn6
      have xn : x < na := by omega
      rw [gp G1 g39, gp G1 g24, k40, k25, show ((bn + be : Nat) : Int) + (x : Int) = ((bn + be + x : Nat) : Int) by omega, show (tp0 : Int) + (x : Int) = ((tp0 + x : Nat) : Int) by omega]
      refine dr_s ⟨Int.natCast_nonneg _, Int.ofNat_lt.mpr (Nat.lt_of_lt_of_le (by omega) (Nat.le_trans hl i39)), dr_s ⟨Int.natCast_nonneg _, Int.ofNat_lt.mpr (Nat.lt_of_lt_of_le (by omega) (Nat.le_trans hl2 i24)), ?_⟩⟩
      rw [Int.toNat_natCast, Int.toNat_natCast]
      intro M9
      obtain ⟨r1, r2, r3, r4⟩ := row1 (M1 := M9) (j := 24) (i := tp0 + x) (x := gi M1 39 (bn + be + x)) G1 g24 rfl
      rw [me_to (gi_r M1 39 (bn + be + x))] at r3
      clear_value M9
      rw [show (x : Int) + 1 = ((x + 1 : Nat) : Int) by omega]
      have pv : gi M1 39 (bn + be + x) = gi M0 39 (bn + be + x) := g.g g39 (Nat.lt_of_lt_of_le (by omega) hl) fun v => absurd v.1 (by decide)
      refine ih (x + 1) M9 (by omega) (by omega) (g.tr (r1.mo no2_mo fun j a v => ⟨v.1, by have := v.2; omega⟩)) (fun b k b1 b2 => (r2 b k b1 b2).trans (e0 b k b1 b2)) fun j j1 => ?_
      by_cases ej : j = x
      · rw [ej, r3, pv]
      · rw [r1.g g24 (Nat.lt_of_lt_of_le (by omega) (Nat.le_trans hl2 i24)) fun v => ej (by have := v.2; omega)]
        exact hv j (by omega)
/-- a call of enter -/
theorem enter_w {q na be bn pc : Nat} {ob x3 x4 : Int} {r : List Int} {K : me_M → Prop} (EV : EVN m cl B nx cn ct fc fs V S F E T MA KA) (I : BA p C n m cl A B nx cn ct fc fs mn V S F E T MA KA Mr nn fu st rd M) (sc : me_i M 164 42 = (u : Int) ∧ me_i M 164 10 = (u : Int) ∧ me_i M 164 40 = (hg : Int) ∧ me_i M 164 25 = (bs : Int) ∧ me_i M 164 26 = (tp : Int) ∧ me_i M 164 28 = self ∧ me_i M 164 27 = fm) (s41 : me_i M 164 41 = (pc : Int)) (bb : u ≤ 40 ∧ hg ≤ gL M 39 ∧ tp ≤ gL M 24 ∧ ∀ j, 43 ≤ j → j ≤ 48 → 0 < u → u ≤ gL M j) (pk : PKG B nx cn m cl S F E T lo k σ H z w) (hpc : lo ≤ pc ∧ pc ≤ k) (fd : FRD B nx m (gi M 24) nn (me_i M 171) σ pc z w self fm bs tp) (fb : lb ≤ tp ∧ (0 ≤ w → lb ≤ bs) ∧ b ≤ 2410 * u ∧ tp ≤ 610 * u ∧ (u = 0 ↔ w = -1 ∧ z = -1)) (ch : CHW B nx cn m cl S F E T (gi M) nn (me_i M 171) u b lb (rtt B z w) su) (tl : tle (σ pc).1 (B 8 q :: r)) (Kr : STK (vt nx (me_i M 171) nn) (gi M 39) r b bn) (qm : q < m) (q2 : B 0 q = 2) (q9 : B 9 q = (na : Int)) (hbe : be ≤ 1) (hh : hg = bn + be + na) (ar : ∀ j, j < na → vt nx (me_i M 171) nn (B 8 (q + 1 + j)) (gi M 39 (bn + be + j))) (rob : me_r ob) (hob : B 4 q = 0 → ∃ v : Nat, ob = (v : Int) ∧ 1 ≤ v ∧ v ≤ nn ∧ up nx (me_i M 171 v) (hkn B cn q)) (e3 : x3 = (na : Int)) (e4 : x4 = (be : Int)) (hd : 12 ≤ d)
    (hK : ∀ (M' : me_M) (lo' k' bs' tp' : Nat) (σ' : Nat → cx) (H' : Nat → Nat), st < 20000 → BA p C n m cl A B nx cn ct fc fs mn V S F E T MA KA Mr nn fu (st + 1) rd M' → FX B nx cn m cl S F E T nn (u + 1) bn tp lo' k' lo' (su + (T - pc)) σ' H' (zf B cn q) (q : Int) bn bs' tp' ob (q : Int) M' → me_i M' 164 41 = (lo' : Int) → K M') : ∃ d', d = d' + 1 ∧ me_W (mt_G N X) 418 d' 0 [some (.inr (.inl (some 164, 25, 0))), some (.inl (q : Int)), some (.inl ob), some (.inl x3), some (.inl x4), none] [] M (sx_qV K (fun e M' => e = 167 ∧ RBS Mr M')) := by
  obtain ⟨s42, s10, s40, s25, s26, s28, s27⟩ := sc
  obtain ⟨b1, b2, b3, b4⟩ := bb
  have m5 := EV.1.1.2
  have i9 := I.2.2.2.2.2.2.1.2.2.1
  have sb := I.2.2.2.2.2.2.2.2.1
  have lnr := Kr.len
  have lnt := tl.len
  rw [List.length_cons] at lnt
  have l2410 := pk.2.2.1 pc hpc.1 hpc.2
  obtain ⟨⟨v91, v92, v93⟩, par⟩ := EV.1.2.2.2.2.2.2.2.2.1 q qm q2
  have na8 : na ≤ 8 := by omega
  refine ca_V (by omega) (P := K) (F := (fun e M' => e = 167 ∧ RBS Mr M')) ?_ (fun M' _ v => v) (fun a M' _ v => v)
  refine b418_0 (step_w I.GA i9 sb (by omega) (fun M' f => ⟨rfl, I.2.1.fail f⟩) fun M1 lt g1 f1 h9 => ?_)
  have I1 : BA p C n m cl A B nx cn ct fc fs mn V S F E T MA KA Mr nn fu (st + 1) rd M1 := by
    have s : ∀ b j, m1 9 b j → sP b j := fun b j v => kP_sP b j (m1_k (by omega) b j v)
    exact I.go g1 s (fun j a v => v.elim) h9 ((f1.i fun v => absurd v.2 (by decide)).trans I.2.2.2.2.2.2.1.2.2.2) (by rw [f1.i fun v => absurd v.2 (by decide)]; exact I.2.1.2.1) (by omega) (I.heap g1 s fun a _ v => v) (I.stat g1 s fun a _ v => absurd v.1 (by decide))
  have c1 : ∀ j, ¬ j = 9 → me_i M1 164 j = me_i M 164 j := fun j hj => f1.i fun v => hj v.2
  rw [c1 10 (by decide), s10]
  refine ⟨⟨by omega, by omega⟩, ⟨by omega, by omega⟩, fun ne => ?_, fun _ => fail_w (by omega) I1.2.1⟩
  have u39 : u ≤ 39 := by omega
  intro M4
  obtain ⟨g4, f4, v4⟩ := cell1 (M1 := M4) (j0 := 10) (x := (u : Int) + 1) g1.GA rfl
  rw [me_to ⟨by omega, by omega⟩] at v4
  clear_value M4
  have c4 : ∀ j, ¬ j = 9 → ¬ j = 10 → me_i M4 164 j = me_i M 164 j := fun j h h' => (f4.i fun v => h' v.2).trans (c1 j h)
  refine setout_w g4.GA ((c4 42 (by decide) (by decide)).trans s42) b1 (by omega) fun M5 so => ?_
  obtain ⟨g5, o42, o43, o44, o45, o46, o47, o48, ol⟩ := so
  rw [c4 41 (by decide) (by decide)] at o43
  rw [c4 25 (by decide) (by decide)] at o44
  rw [c4 26 (by decide) (by decide)] at o45
  rw [c4 27 (by decide) (by decide)] at o46
  rw [c4 28 (by decide) (by decide)] at o47
  have c5 : ∀ j, ¬ j = 9 → ¬ j = 10 → ¬ j = 42 → me_i M5 164 j = me_i M 164 j := fun j h h' h2 => (g5.i4 g4.GA fun v => h2 v.2).trans (c4 j h h')
  have w10 : me_i M5 164 10 = (u : Int) + 1 := (g5.i4 g4.GA fun v => absurd v.2 (by decide)).trans v4
  intro M8
  obtain ⟨g8, f8, v8⟩ := cell1 (M1 := M8) (j0 := 25) (x := me_i M5 164 26) g5.GA rfl
  rw [me_to (me_i_r _ _ _), c5 26 (by decide) (by decide) (by decide), s26] at v8
  clear_value M8
  have bPm : ∀ {j0 : Nat}, (j0 = 10 ∨ 25 ≤ j0 ∧ j0 ≤ 29 ∨ 40 ≤ j0 ∧ j0 ≤ 42) → ∀ b j, m1 j0 b j → bP b j := fun h b j v => ⟨v.1, by rw [v.2]; exact h⟩
  have G18 : gx bP (rO u) M1 M8 := (g4.mo (bPm (by decide)) no2_mo).tr ((g5.mo (bPm (by decide)) fun _ _ v => v).tr (g8.mo (bPm (by decide)) no2_mo))
  have I8 := I1.keep G18 (fun _ _ v => v) fun j a v => Or.inr (Or.inr ⟨v.1, v.2.1⟩)
  rw [I8.1.1.1.2.1]
  refine dr_s ?_
  refine after_w I8.1.1 EV.1 qm q2 (by omega) fun a a1 a2 a3 => ?_
  intro M14
  have tpn : tp + (a - q) ≤ 24400 := by omega
  obtain ⟨g14, f14, v14⟩ := cell1 (M1 := M14) (j0 := 26) (x := me_i M8 164 25 + (a : Int) - (q : Int)) g8.GA rfl
  rw [v8, show (tp : Int) + (a : Int) - (q : Int) = ((tp + (a - q) : Nat) : Int) by omega, me_to ⟨by omega, by omega⟩] at v14
  clear_value M14
  intro n15 hn15
  cases gn g14.GA g24 hn15
  rw [gp g14.GA g24, v14]
  have c24 : gcap 24 = 26000 := by decide
  refine ca_P (by omega) (c_400 (P := no2) (R := no2) g14.GA g24 (by decide) (by omega) (by omega) (by omega)) (fun o w20 M16 _ qq => ?_) nt_E_no
  obtain ⟨q0, g21, l21⟩ := qq
  refine ⟨q0, ?_⟩
  intro M21
  have g21 : gx no2 no2 M14 M21 := g21
  have l21 : ((tp + (a - q) : Nat) : Int) + 1 ≤ gL M21 24 := l21
  have l21 : tp + (a - q) < gL M21 24 := Int.ofNat_lt.mp (by have := l21; exact Int.lt_of_add_one_le this)
  clear_value M21
  intro M22
  have k40 : me_i M21 164 40 = (hg : Int) := (g21.i4 g14.GA fun v => v).trans ((f14.i fun v => absurd v.2 (by decide)).trans ((f8.i fun v => absurd v.2 (by decide)).trans ((c5 40 (by decide) (by decide) (by decide)).trans s40)))
  obtain ⟨g22', f22, v22⟩ := cell1 (M1 := M22) (j0 := 40) (x := me_i M21 164 40 - x3) g21.GA rfl
  have hb9 : bn + be < 99000 := by
    have := fb.2.2.1
    omega
  rw [k40, e3, show (hg : Int) - (na : Int) = ((bn + be : Nat) : Int) by omega, me_to ⟨by omega, by omega⟩] at v22
  clear_value M22
  have G58 : gx bP no2 M5 M22 := (g8.mo (bPm (by decide)) no2_mo).tr ((g14.mo (bPm (by decide)) no2_mo).tr ((g21.mo no2_mo no2_mo).tr (g22'.mo (bPm (by decide)) no2_mo)))
  have G15 : gx bP (rO u) M1 M5 := (g4.mo (bPm (by decide)) no2_mo).tr (g5.mo (bPm (by decide)) fun _ _ v => v)
  have d25 : me_i M22 164 25 = (tp : Int) := (f22.i fun v => absurd v.2 (by decide)).trans ((g21.i4 g14.GA fun v => v).trans ((f14.i fun v => absurd v.2 (by decide)).trans v8))
  have d26 : me_i M22 164 26 = ((tp + (a - q) : Nat) : Int) := (f22.i fun v => absurd v.2 (by decide)).trans ((g21.i4 g14.GA fun v => v).trans v14)
  have d42 : me_i M22 164 42 = ((u + 1 : Nat) : Int) := (f22.i fun v => absurd v.2 (by decide)).trans ((g21.i4 g14.GA fun v => v).trans ((f14.i fun v => absurd v.2 (by decide)).trans ((f8.i fun v => absurd v.2 (by decide)).trans o42)))
  have d10 : me_i M22 164 10 = ((u + 1 : Nat) : Int) := (f22.i fun v => absurd v.2 (by decide)).trans ((g21.i4 g14.GA fun v => v).trans ((f14.i fun v => absurd v.2 (by decide)).trans ((f8.i fun v => absurd v.2 (by decide)).trans (w10.trans (by omega)))))
  have lm1 := (g1.2.2.2.2.1 39 g39).1
  have lm5 := (G15.2.2.2.2.1 39 g39).1
  have lm22 := (G58.2.2.2.2.1 39 g39).1
  have l39 : hg ≤ gL M22 39 := Nat.le_trans b2 (Nat.le_trans lm1 (Nat.le_trans lm5 lm22))
  have l24 : tp + (a - q) < gL M22 24 := Nat.lt_of_lt_of_le l21 (g22'.2.2.2.2.1 24 g24).1
  have apos : ∀ j, j < na → q + 1 + j < a := fun j j1 => by
    obtain ⟨p1, p2⟩ := par j (by omega)
    exact a3 (q + 1 + j) (by omega) p2 (Or.inl p1)
  have na_a : na ≤ a - q := by
    cases na with
    | zero => exact Nat.zero_le _
    | succ na' =>
      have := apos na' (by omega)
      omega
  clear lm1 lm5 lm22
  obtain ⟨lo', k', σ', H', w1, w2, w3⟩ := EV.2.2.2.1 q qm q2
  refine ent_89 (M0 := M22) g22'.GA v22 d25 e3 e4 na8 (by rw [← hh]; exact l39) (Nat.le_of_lt (Nat.lt_of_le_of_lt (by omega) l24)) (by omega) (by omega) rob (fun M1x M' gL1 eL hv gF e40 e27 e28 e41 => ?_) (na + 1) 0 M22 (by omega) (by omega) (gx.rf g22'.GA) (fun _ _ _ _ => rfl) fun j z => by omega
  have gFb : gx bP no2 M1x M' := gF.mo (fun b j v => ⟨v.1, by have := v.2; omega⟩) no2_mo
  have G5 : gx bP (fun j a => j = 24 ∧ tp ≤ a) M5 M' := (G58.mo (fun _ _ v => v) no2_mo).tr ((gL1.mo no2_mo fun _ _ v => v).tr (gFb.mo (fun _ _ v => v) no2_mo))
  have GR : gx bP (fun j a => j = 24 ∧ tp ≤ a ∨ rO u j a) M1 M' := (G15.mo (fun _ _ v => v) fun j a v => Or.inr v).tr (G5.mo (fun _ _ v => v) fun j a v => Or.inl v)
  have I' := I1.keep GR (fun _ _ v => v) fun j a v => by
    rcases v with v | v
    · exact Or.inr (Or.inl v.1)
    · exact Or.inr (Or.inr ⟨v.1, v.2.1⟩)
  have GM : gx (fun b j => m1 9 b j ∨ bP b j) (fun j a => j = 24 ∧ tp ≤ a ∨ rO u j a) M M' := (g1.mo (fun b j v => Or.inl v) no2_mo).tr (GR.mo (fun b j v => Or.inr v) fun _ _ v => v)
  have oc : ∀ v, me_i M' 171 v = me_i M 171 v := fun v => GM.i I.GA (by decide) ok171 fun y => by
    rcases y with y | y
    · exact absurd y.1 (by decide)
    · exact absurd y.1 (by decide)
  have tail : ∀ j, ¬ (j = 40 ∨ j = 27 ∨ j = 28 ∨ j = 41) → me_i M' 164 j = me_i M22 164 j := fun j hj => (gF.i4 gL1.GA fun v => hj v.2).trans (eL 164 j (by decide) ok164)
  have loe : me_i M' 164 41 = (lo' : Int) := by
    rw [e41, eL 178 q (by decide) ok178]
    have : me_i M22 178 q = me_i M1 178 q := ((G15.mo (P' := bP) (fun _ _ v => v) fun _ _ v => v).tr (G58.mo (fun _ _ v => v) no2_mo)).i g1.GA (by decide) ok178 fun v => absurd v.1 (by decide)
    rw [this]
    exact (I1.1.2.2.2.1 q qm).trans w1
  have pl : ∀ a, a < hg → gi M' 39 a = gi M 39 a := fun a h => GM.g g39 (Nat.lt_of_lt_of_le h b2) fun v => by
    rcases v with v | v
    · exact absurd v.1 (by decide)
    · exact absurd v.1 (by decide)
  have fr24 : ∀ a, a < tp → gi M' 24 a = gi M 24 a := fun a h => GM.g g24 (Nat.lt_of_lt_of_le h b3) fun v => by
    rcases v with v | v
    · omega
    · exact absurd v.1 (by decide)
  have rowu : ∀ j, 43 ≤ j → j ≤ 48 → gi M' j u = gi M5 j u := fun j j1 j2 => G5.g (g43 j1 j2) (ol j j1 j2) fun v => by omega
  have rowv : ∀ j v, 43 ≤ j → j ≤ 48 → v < u → gi M' j v = gi M j v := fun j v j1 j2 hv => GM.g (g43 j1 j2) (Nat.lt_of_lt_of_le hv (b4 j j1 j2 (by omega))) fun y => by
    rcases y with y | y
    · omega
    · have := y.2.2
      omega
  have len5 : ∀ j, 43 ≤ j → j ≤ 48 → u + 1 ≤ gL M' j := fun j j1 j2 => Nat.le_trans (ol j j1 j2) (G5.2.2.2.2.1 j (g43 j1 j2)).1
  have l39' : hg ≤ gL M' 39 := Nat.le_trans b2 (GM.2.2.2.2.1 39 g39).1
  have l24' : tp + (a - q) ≤ gL M' 24 := Nat.le_trans (Nat.le_of_lt l24) (Nat.le_trans (gL1.2.2.2.2.1 24 g24).1 (gF.2.2.2.2.1 24 g24).1)
  have rt0 : rtt B (zf B cn q) (q : Int) = B 8 q := by
    unfold rtt
    rw [if_pos (by omega), Int.toNat_natCast]
  have sl : (σ' lo').1 = [] := by
    have := w3.1.len
    exact List.length_eq_zero_iff.mp this
  refine hK M' lo' k' tp (tp + (a - q)) σ' H' lt I' ?_ loe
  refine ⟨⟨(tail 42 (by decide)).trans d42, (tail 10 (by decide)).trans d10, e40, (tail 25 (by decide)).trans d25, (tail 26 (by decide)).trans d26, e28, e27⟩, ⟨by omega, Nat.le_trans (by omega) l39', l24', fun j j1 j2 _ => len5 j j1 j2⟩, ⟨w2, Nat.le_refl _, w2.1.1⟩, ⟨fun z0 => ?_, fun h' hw => ⟨hw, fun x x1 x2 x3' => ⟨?_, fun x4' => ?_⟩⟩⟩, by rw [sl]; rfl, ⟨by omega, fun _ => Nat.le_refl _, by omega, by omega, ⟨fun z => by omega, fun z => by omega⟩⟩, ?_⟩
  · unfold zf at z0
    by_cases z4 : B 4 q = 0
    · obtain ⟨v, v1, v2, v3, v4'⟩ := hob z4
      refine ⟨v, v1, v2, v3, ?_⟩
      unfold zf
      rw [if_pos z4, oc]
      exact v4'
    · rw [if_neg z4] at z0
      omega
  · have hq : h' = q := by omega
    rw [hq] at x2 ⊢
    have := a3 x x1 x2 x3'
    obtain ⟨h2, y1, y2, _⟩ := EV.1.2.2.2.2.2.2.1 x x1 x3'
    omega
  · have hq : h' = q := by omega
    rw [hq] at x2 ⊢
    obtain ⟨h2, y1, y2, y3, y4, y5⟩ := EV.1.2.2.2.2.2.2.1 x x1 x3'
    have y0 : h2 = q := by omega
    rcases w3.2 x x4' with d0 | d0
    · omega
    · have yb := y5 d0.2
      rw [y0] at yb y2
      have jn : x - q - 1 < na := by omega
      have e1 : gi M' 24 (tp + (x - q - 1)) = gi M1x 24 (tp + (x - q - 1)) := gF.g g24 (Nat.lt_of_lt_of_le (Nat.lt_of_le_of_lt (by omega) l24) (gL1.2.2.2.2.1 24 g24).1) fun v => v
      rw [e1, hv (x - q - 1) jn]
      have e2 : gi M22 39 (bn + be + (x - q - 1)) = gi M 39 (bn + be + (x - q - 1)) := ((g1.mo (P' := fun b j => m1 9 b j ∨ bP b j) (R' := rO u) (fun b j v => Or.inl v) no2_mo).tr ((G15.mo (fun b j v => Or.inr v) fun _ _ v => v).tr (G58.mo (fun b j v => Or.inr v) no2_mo))).g g39 (Nat.lt_of_lt_of_le (by omega) b2) fun v => by have := v.1; omega
      rw [e2]
      have := ar (x - q - 1) jn
      rw [show q + 1 + (x - q - 1) = x by omega] at this
      exact this.mo (Nat.le_refl _) fun o _ _ => oc o
  · rw [rt0]
    refine ⟨lo, k, pc, bs, tp, b, lb, su, σ, H, z, w, r, pk, ⟨(rowu 43 (by decide) (by decide)).trans (o43.trans s41), (rowu 44 (by decide) (by decide)).trans (o44.trans s25), (rowu 45 (by decide) (by decide)).trans (o45.trans s26)⟩, hpc, ?_, tl, Kr.eq (fun t v y => y.mo (Nat.le_refl _) fun o _ _ => oc o) (fun a _ a2 => pl a (by omega)), ⟨fb.1, Nat.le_refl _, fb.2.1, fb.2.2.2.2⟩, ⟨fb.2.2.1, fb.2.2.2.1⟩, rfl, ch.mo (Nat.le_refl _) (fun v _ _ => oc v) (fun j v j1 j2 v1 => rowv j v j1 (by omega) v1) (fun a a1 => pl a (by omega)) (fun a a1 => fr24 a (by have := fb.1; omega))⟩
    rw [(rowu 47 (by decide) (by decide)).trans (o47.trans s28), (rowu 46 (by decide) (by decide)).trans (o46.trans s27)]
    exact fd.mo (Nat.le_refl _) (fun v _ _ => oc v) (fun a _ a2 => fr24 a a2) fun q _ v => v
end ENT
