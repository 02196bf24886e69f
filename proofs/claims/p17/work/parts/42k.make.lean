/-! the run: an object is made -/
section MAKE
variable {N : Nat} {X : Nat → Int32} {d p C n m cl : Nat} {A B : Nat → Nat → Int} {nx cn ct fc fs mn : Nat → Int} {V : Nat → Nat → Prop} {S F E : Nat → Int} {T BD : Nat} {MA KA : Nat → Int} {Mr M M1 M2 M' : me_M} {P R : Nat → Nat → Prop}
variable {nn fu st rd u b lb lo k i su hg bs tp : Nat} {σ : Nat → cx} {H : Nat → Nat} {z w self fm : Int}
/-- where making an object changes cells -/
def oP (v : Nat) : Nat → Nat → Prop := fun b j => b = 164 ∧ (9 ≤ j ∧ j ≤ 11 ∨ j = 23 ∨ j = 28 ∨ 41 ≤ j ∧ j ≤ 42) ∨ (b = 171 ∨ b = 172) ∧ j = v
def oR (fu u : Nat) : Nat → Nat → Prop := fun j a => j = 22 ∧ fu ≤ a ∨ rO u j a
theorem oP_ok {v : Nat} : ∀ b j, oP v b j → ¬ oka b := fun b j h => by
  rcases h with h | ⟨h, _⟩
  · rw [h.1]
    exact ok164
  · rcases h with h | h <;> rw [h]
    · exact ok171
    · exact ok172
/-- the new fields are 0 -/
theorem mak_128 {c n2 fu0 : Nat} {Q : me_Q} {M0 : me_M} (G0 : GA M0) (h23 : me_i M0 164 23 = (fu0 : Int)) (hl : fu0 + n2 ≤ gL M0 22) (hf0 : fu0 + n2 ≤ 77000) (HQ : ∀ M1 M2, gx no2 (fun j a => j = 22 ∧ fu0 ≤ a) M0 M1 → (∀ b k, b < 477 → ¬ oka b → me_i M1 b k = me_i M0 b k) → (∀ a, fu0 ≤ a → a < fu0 + n2 → gi M1 22 a = 0) → gx (m1 23) no2 M1 M2 → fr (m1 23) M1 M2 → me_i M2 164 23 = ((fu0 + n2 : Nat) : Int) → ∃ d', d = d' + 1 ∧ me_W (mt_G N X) 415 d' 0 [some (.inr (.inl (some 164, 25, 0)))] [] M2 (sx_qV (fun M2 => let M5 : me_M := me_sI M2 164 28 (Int32.ofInt (me_i M2 164 11)); 0 ≤ (c : Int) ∧ (c : Int) < ((8 : Nat) : Int) ∧ let M6 : me_M := me_sI M5 164 41 (Int32.ofInt (me_i M5 (164 + 15) (c : Int).toNat)); Q (.inr none) M6) (fun e4 M3 => Q (.inl e4) M3))) : ∀ (f x : Nat) (M1 : me_M), n2 - x < f → x ≤ n2 → gx no2 (fun j a => j = 22 ∧ fu0 ≤ a) M0 M1 → (∀ b k, b < 477 → ¬ oka b → me_i M1 b k = me_i M0 b k) → (∀ a, fu0 ≤ a → a < fu0 + x → gi M1 22 a = 0) → me_W (mt_G N X) 413 d 128 [some (.inr (.inl (some 164, 25, 0))), some (.inl (c : Int)), some (.inl (n2 : Int)), some (.inl (x : Int))] [] M1 Q := by
  intro f
  induction f with
  | zero => intro x M1 z; omega
  | succ f ih =>
    intro x M1 hf hx g e0 hv
    have k23 := (e0 164 23 (by decide) ok164).trans h23
    have G1 := g.GA
    have i22 := (g.2.2.2.2.1 22 g22).1
    refine b413_128 ⟨⟨by omega, by omega⟩, ⟨by omega, by omega⟩, fun y => ?_, fun y => ?_⟩
    · have xe : x = n2 := by omega
      rw [xe] at hv
      intro Z1
      obtain ⟨a1, a2, a3⟩ := cell1 (M1 := Z1) (j0 := 23) (x := me_i M1 164 23 + (n2 : Int)) G1 rfl
      rw [k23, show (fu0 : Int) + (n2 : Int) = ((fu0 + n2 : Nat) : Int) by omega, me_to ⟨by omega, by omega⟩] at a3
      clear_value Z1
      exact HQ M1 Z1 g e0 hv a1 a2 a3
    · intro n7 hn7
      cases gn G1 g22 hn7
      have xn : x < n2 := by omega
      rw [gp G1 g22, k23, show (fu0 : Int) + (x : Int) = ((fu0 + x : Nat) : Int) by omega]
      refine dr_s ⟨Int.natCast_nonneg _, Int.ofNat_lt.mpr (Nat.lt_of_lt_of_le (by omega) (Nat.le_trans hl i22)), ?_⟩
      rw [Int.toNat_natCast]
      intro M9
      obtain ⟨r1, r2, r3, r4⟩ := row1 (M1 := M9) (j := 22) (i := fu0 + x) (x := 0) G1 g22 rfl
      clear_value M9
      rw [show (x : Int) + 1 = ((x + 1 : Nat) : Int) by omega]
      refine ih (x + 1) M9 (by omega) (by omega) (g.tr (r1.mo no2_mo fun j a v => ⟨v.1, by have := v.2; omega⟩)) (fun b k b1 b2 => (r2 b k b1 b2).trans (e0 b k b1 b2)) fun a a1 a2 => ?_
      by_cases ej : a = fu0 + x
      · rw [ej, r3]
        rfl
      · rw [r1.g g22 (Nat.lt_of_lt_of_le (by omega) (Nat.le_trans hl i22)) fun v => ej v.2]
        exact hv a a1 (by omega)
theorem mak_57 {c : Nat} {Q : me_Q} (H : RP p C n m cl A B nx cn ct fc fs mn V M) (CFH : CF B nx cn ct fc fs V m cl) (hc : c < cl) (HQ : ∀ r, (∀ v, v < r → 0 ≤ it nx v (c : Int)) → it nx r (c : Int) < 0 → ∀ x3 : Int, x3 < 0 → me_r x3 → me_W (mt_G N X) 413 d 57 [some (.inr (.inl (some 164, 25, 0))), some (.inl (c : Int)), some (.inl (gs9 nx (KF B ct m) r c : Int)), some (.inl x3)] [] M Q) : ∀ (f v : Nat), 9 - v < f → v ≤ 8 → (∀ a, a < v → 0 ≤ it nx a (c : Int)) → me_W (mt_G N X) 413 d 57 [some (.inr (.inl (some 164, 25, 0))), some (.inl (c : Int)), some (.inl (gs9 nx (KF B ct m) v c : Int)), some (.inl (it nx v (c : Int)))] [] M Q := by
  have c8 := CFH.1.1
  intro f
  induction f with
  | zero => intro v z; omega
  | succ f ih =>
    intro v hf h8 hr
    have rg := it_rg CFH.2.2.2.1 v (c : Int) (by omega) (by omega)
    by_cases ng : it nx v (c : Int) < 0
    · exact HQ v hr ng _ ng ⟨by omega, by omega⟩
    have l := it_long c8 CFH.2.2.2.1 CFH.2.2.2.2.1 (s := v) (k := (c : Int)) (by omega) (by omega)
    obtain ⟨w, hw⟩ : ∃ w : Nat, it nx v (c : Int) = (w : Int) := ⟨(it nx v (c : Int)).toNat, by omega⟩
    have R := H.2.2.1 w
    refine b413_57 ⟨⟨by omega, by omega⟩, fun z => absurd z ng, fun _ => ?_⟩
    have g := gs9_add (nx := nx) (F := KF B ct m) v 1 (c : Int) fun a a1 => hr a a1
    rw [hw] at g
    have g : gs9 nx (KF B ct m) (v + 1) c = gs9 nx (KF B ct m) v c + (fcn B (ct w) m + 0) := g
    rw [H.1.2.1, hw]
    refine dr_s ⟨by omega, by omega, dr_s ⟨by omega, by omega, ?_⟩⟩
    have e36 : me_i M (p + 36) w = it nx (v + 1) (c : Int) := by
      rw [show me_i M (p + 36) w = nx w from R.1, it_last, hw, if_neg (by omega), Int.toNat_natCast]
    rw [Int.toNat_natCast, e36, R.2.2.1, CFH.2.2.2.2.2.2.2.2.2.2.1.1 w (by omega), show ((gs9 nx (KF B ct m) v c : Nat) : Int) + ((fcn B (ct w) m : Nat) : Int) = ((gs9 nx (KF B ct m) (v + 1) c : Nat) : Int) by omega]
    refine ih (v + 1) (by omega) (by omega) fun a a1 => ?_
    by_cases e : a = v
    · rw [e]
      omega
    · exact hr a (by omega)
theorem as_8 {c : Nat} (EV : EVN m cl B nx cn ct fc fs V S F E T MA KA) (I : BA p C n m cl A B nx cn ct fc fs mn V S F E T MA KA Mr nn fu st rd M) (J : FX B nx cn m cl S F E T nn u b lb lo k i su σ H z w hg bs tp self fm M) (hm : rd + mu S T st su i ≤ BD ∧ BD ≤ 2000000000) (h41 : me_i M 164 41 = ((i + 1 : Nat) : Int)) (hik : i < k) (cx0 : H i < m ∧ (B 4 (H i) = 0 → up nx z (hkn B cn (H i))) ∧ (B 0 (H i) = 2 → w = (H i : Int))) {y : cx} (hc : cle (σ (i + 1)) y) (hs : S i = 8) (h2 : y.2 = (σ i).2) (q0 : F i = (c : Int)) (hcl : c < cl) (e : y.1 = (10 + (c : Int)) :: (σ i).1) (hd : 14 ≤ d) : ∃ d', d = d' + 1 ∧ me_W (mt_G N X) 413 d' 0 [some (.inr (.inl (some 164, 25, 0))), some (.inl (F i)), none, none] [] M (sx_qV (fun M' => NXT p C n m cl A B nx cn ct fc fs mn V S F E T MA KA BD Mr (mu S T st su i) M') (fun e M' => e = 167 ∧ RBS Mr M')) := by
  have c8 := EV.1.1.1
  have i9 := I.2.2.2.2.2.2.1.2.2.1
  have sb := I.2.2.2.2.2.2.2.2.1
  have nb := I.2.2.2.2.2.2.2.1
  have fl := I.2.2.2.2.2.2.2.2.2
  have fub := I.2.2.2.2.1.1
  have pkk := J.2.2.1.1.1
  have hgb := J.hgb
  obtain ⟨⟨s42, s10, s40, s25, s26, s28, s27⟩, ⟨b1, b2, b3, b4⟩, ⟨pk, hpc1, hpc2⟩, fd, Kr, fb, ch⟩ := id J
  have lnr := Kr.len
  have l2410 := pk.2.2.1 i hpc1 hpc2
  rw [q0]
  refine ca_V (by omega) (P := fun M' => NXT p C n m cl A B nx cn ct fc fs mn V S F E T MA KA BD Mr (mu S T st su i) M') (F := (fun e M' => e = 167 ∧ RBS Mr M')) ?_ (fun M' _ v => v) (fun a M' _ v => v)
  refine b413_0 (step_w I.GA i9 sb (by omega) (fun M' f => ⟨rfl, I.2.1.fail f⟩) fun M1 lt g1 f1 h9 => ?_)
  have c1 : ∀ j, ¬ j = 9 → me_i M1 164 j = me_i M 164 j := fun j hj => f1.i fun v => hj v.2
  have R1 : RBS Mr M1 := ⟨I.2.1.1.tr (g1.mo (fun b j v => Or.inl ⟨v.1, by have := v.2; omega⟩) no2_mo), by rw [c1 12 (by decide)]; exact I.2.1.2.1, fun a a1 => by
    rw [f1.i fun v => absurd v.1 (by decide), c1 49 (by decide)]
    exact I.2.1.2.2 a a1⟩
  rw [c1 10 (by decide), s10]
  refine ⟨⟨by omega, by omega⟩, ⟨by omega, by omega⟩, fun ne => ?_, fun _ => fail_w (by omega) R1⟩
  have u39 : u ≤ 39 := by omega
  intro M4
  obtain ⟨g4, f4, v4⟩ := cell1 (M1 := M4) (j0 := 10) (x := (u : Int) + 1) g1.GA rfl
  rw [me_to ⟨by omega, by omega⟩] at v4
  clear_value M4
  have c4 : ∀ j, ¬ j = 9 → ¬ j = 10 → me_i M4 164 j = me_i M 164 j := fun j h h' => (f4.i fun v => h' v.2).trans (c1 j h)
  have R4 : RBS Mr M4 := ⟨R1.1.tr (g4.mo (fun b j v => Or.inl ⟨v.1, by have := v.2; omega⟩) no2_mo), by rw [c4 12 (by decide) (by decide)]; exact I.2.1.2.1, fun a a1 => by
    rw [f4.i fun v => absurd v.1 (by decide), f4.i fun v => absurd v.2 (by decide)]
    exact R1.2.2 a a1⟩
  rw [c4 11 (by decide) (by decide), I.2.2.2.2.2.2.1.1]
  refine ⟨⟨by omega, by omega⟩, ⟨by omega, by omega⟩, fun ne2 => ?_, fun _ => fail_w (by omega) R4⟩
  have n399 : nn ≤ 399 := by omega
  intro M5
  obtain ⟨g5, f5, v5⟩ := cell1 (M1 := M5) (j0 := 11) (x := (nn : Int) + 1) g4.GA rfl
  rw [me_to ⟨by omega, by omega⟩] at v5
  clear_value M5
  have c5 : ∀ j, ¬ j = 9 → ¬ j = 10 → ¬ j = 11 → me_i M5 164 j = me_i M 164 j := fun j h h' h2 => (f5.i fun v => h2 v.2).trans (c4 j h h')
  have gP : ∀ {j0 : Nat}, (9 ≤ j0 ∧ j0 ≤ 11 ∨ j0 = 23 ∨ j0 = 28 ∨ 41 ≤ j0 ∧ j0 ≤ 42) → ∀ b j, m1 j0 b j → oP (nn + 1) b j := fun h b j v => Or.inl ⟨v.1, by rw [v.2]; exact h⟩
  have G5 : gx (oP (nn + 1)) no2 M M5 := (g1.mo (gP (by decide)) no2_mo).tr ((g4.mo (gP (by decide)) no2_mo).tr (g5.mo (gP (by decide)) no2_mo))
  have oPr : ∀ b j, oP (nn + 1) b j → rP b j := fun b j v => by
    unfold oP at v
    unfold rP
    omega
  have ME5 : MEMO p C n m cl A B nx cn ct fc fs mn V S F E T MA KA M5 := I.1.gx G5 oPr fun j a v => v.elim
  have z0 : ((gs9 nx (KF B ct m) 0 c : Nat) : Int) = 0 := rfl
  rw [← z0]
  refine mak_57 ME5.1 EV.1 hcl (fun r hr hr2 x3 hx3 rx3 => ?_) 10 0 (by omega) (by omega) fun a z => by omega
  have tot := EV.1.tot hcl hr
  have fu23 : me_i M5 164 23 = (fu : Int) := (c5 23 (by decide) (by decide) (by decide)).trans I.2.2.2.2.2.2.1.2.1
  refine b413_57 ⟨rx3, fun _ => ?_, fun z => by omega⟩
  intro n1 hn1
  cases gn g5.GA g22 hn1
  have gc22 : gcap 22 = 77000 := by decide
  have fsum : fu + gs9 nx (KF B ct m) r c ≤ 77000 := by omega
  rw [gp g5.GA g22, fu23, show (fu : Int) + ((gs9 nx (KF B ct m) r c : Nat) : Int) = ((fu + gs9 nx (KF B ct m) r c : Nat) : Int) by omega]
  refine ca_P (by omega) (c_400 (P := no2) (R := no2) g5.GA g22 (by decide) (by omega) (by omega) (by omega)) (fun o w20 M16 _ qq => ?_) nt_E_no
  obtain ⟨q1, g7, l7⟩ := qq
  refine ⟨q1, ?_⟩
  intro M7
  have g7 : gx no2 no2 M5 M7 := g7
  have l7 : fu + gs9 nx (KF B ct m) r c ≤ gL M7 22 := Int.ofNat_le.mp l7
  clear_value M7
  have k11 : me_i M7 164 11 = (nn : Int) + 1 := (g7.i4 g5.GA fun v => v).trans v5
  rw [k11, show (nn : Int) + 1 = ((nn + 1 : Nat) : Int) by omega, Int.toNat_natCast]
  refine ⟨by omega, by omega, ?_⟩
  intro M8
  have f8 : fr (fun b j => b = 171 ∧ j = nn + 1) M7 M8 := fr_sI ⟨rfl, rfl⟩
  have v8 : me_i M8 171 (nn + 1) = (c : Int) := by
    show me_i (me_sI M7 171 (nn + 1) (Int32.ofInt (c : Int))) 171 (nn + 1) = _
    rw [me_i_sI, if_pos ⟨rfl, rfl⟩, me_to ⟨by omega, by omega⟩]
  clear_value M8
  have g8 : gx (fun b j => b = 171 ∧ j = nn + 1) no2 M7 M8 := gx.of g7.GA f8 fun b j v => by rw [v.1]; exact ok171
  have k11b : me_i M8 164 11 = ((nn + 1 : Nat) : Int) := (f8.i fun v => absurd v.1 (by decide)).trans (k11.trans (by omega))
  rw [k11b, Int.toNat_natCast]
  refine ⟨by omega, by omega, ?_⟩
  have k23 : me_i M8 164 23 = (fu : Int) := (f8.i fun v => absurd v.1 (by decide)).trans ((g7.i4 g5.GA fun v => v).trans fu23)
  rw [k23]
  intro M9
  have f9 : fr (fun b j => b = 172 ∧ j = nn + 1) M8 M9 := fr_sI ⟨rfl, rfl⟩
  have v9 : me_i M9 172 (nn + 1) = (fu : Int) := by
    show me_i (me_sI M8 172 (nn + 1) (Int32.ofInt (fu : Int))) 172 (nn + 1) = _
    rw [me_i_sI, if_pos ⟨rfl, rfl⟩, me_to ⟨by omega, by omega⟩]
  clear_value M9
  have g9 : gx (fun b j => b = 172 ∧ j = nn + 1) no2 M8 M9 := gx.of g8.GA f9 fun b j v => by rw [v.1]; exact ok172
  have G9 : gx (oP (nn + 1)) no2 M5 M9 := (g7.mo no2_mo no2_mo).tr ((g8.mo (fun b j v => Or.inr ⟨Or.inl v.1, v.2⟩) no2_mo).tr (g9.mo (fun b j v => Or.inr ⟨Or.inr v.1, v.2⟩) no2_mo))
  have c9 : ∀ j, me_i M9 164 j = me_i M5 164 j := fun j => (f9.i fun v => absurd v.1 (by decide)).trans ((f8.i fun v => absurd v.1 (by decide)).trans (g7.i4 g5.GA fun v => v))
  have oc9 : me_i M9 171 (nn + 1) = (c : Int) := (f9.i fun v => absurd v.1 (by decide)).trans v8
  obtain ⟨lo', k', σ', H', w1, w2, w3⟩ := EV.2.2.2.2 c hcl
  refine mak_128 g9.GA ((c9 23).trans fu23) (Nat.le_trans l7 (Nat.le_trans (g8.2.2.2.2.1 22 g22).1 (g9.2.2.2.2.1 22 g22).1)) fsum (fun MA1 MA2 hA eA zA gB fB vB => ?_) (gs9 nx (KF B ct m) r c + 1) 0 M9 (by omega) (by omega) (gx.rf g9.GA) (fun _ _ _ _ => rfl) fun a a1 a2 => by omega
  have cB : ∀ j, ¬ j = 23 → me_i MA2 164 j = me_i M5 164 j := fun j hj => (fB.i fun v => hj v.2).trans ((eA 164 j (by decide) ok164).trans (c9 j))
  refine setout_w gB.GA ((cB 42 (by decide)).trans ((c5 42 (by decide) (by decide) (by decide)).trans s42)) b1 (by omega) fun MS so => ?_
  obtain ⟨gS, o42, o43, o44, o45, o46, o47, o48, ol⟩ := so
  have sS : ∀ j, ¬ j = 23 → ¬ j = 9 → ¬ j = 10 → ¬ j = 11 → ¬ j = 42 → me_i MS 164 j = me_i M 164 j := fun j h1 h2' h3 h4 h5 => (gS.i4 gB.GA fun v => h5 v.2).trans ((cB j h1).trans (c5 j h2' h3 h4))
  have sB : ∀ j, ¬ j = 23 → ¬ j = 9 → ¬ j = 10 → ¬ j = 11 → me_i MA2 164 j = me_i M 164 j := fun j h1 h2' h3 h4 => (cB j h1).trans (c5 j h2' h3 h4)
  rw [sB 41 (by decide) (by decide) (by decide) (by decide), h41] at o43
  rw [sB 25 (by decide) (by decide) (by decide) (by decide), s25] at o44
  rw [sB 26 (by decide) (by decide) (by decide) (by decide), s26] at o45
  rw [sB 27 (by decide) (by decide) (by decide) (by decide), s27] at o46
  rw [sB 28 (by decide) (by decide) (by decide) (by decide), s28] at o47
  have t11 : me_i MS 164 11 = ((nn + 1 : Nat) : Int) := (gS.i4 gB.GA fun v => absurd v.2 (by decide)).trans ((cB 11 (by decide)).trans (v5.trans (by omega)))
  intro M5x
  obtain ⟨gx5, fx5, vx5⟩ := cell1 (M1 := M5x) (j0 := 28) (x := me_i MS 164 11) gS.GA rfl
  rw [t11, me_to ⟨by omega, by omega⟩] at vx5
  clear_value M5x
  refine ⟨by omega, by omega, ?_⟩
  intro M'
  obtain ⟨gy, fy, vy⟩ := cell1 (M1 := M') (j0 := 41) (x := me_i M5x (164 + 15) (c : Int).toNat) gx5.GA rfl
  rw [me_to (me_i_r _ _ _), Int.toNat_natCast] at vy
  clear_value M'
  -- all of it
  have GE : gx (oP (nn + 1)) (rO u) MA2 M' := (gS.mo (gP (by decide)) fun _ _ v => v).tr ((gx5.mo (gP (by decide)) no2_mo).tr (gy.mo (gP (by decide)) no2_mo))
  have GB : gx (oP (nn + 1)) (oR fu u) M9 MA2 := (hA.mo no2_mo fun j a v => Or.inl v).tr (gB.mo (gP (by decide)) no2_mo)
  have GM : gx (oP (nn + 1)) (oR fu u) M M' := (G5.mo (fun _ _ v => v) no2_mo).tr ((G9.mo (fun _ _ v => v) no2_mo).tr (GB.tr (GE.mo (fun _ _ v => v) fun j a v => Or.inr v)))
  have GS' : gx (oP (nn + 1)) no2 MS M' := (gx5.mo (gP (by decide)) no2_mo).tr (gy.mo (gP (by decide)) no2_mo)
  have e164 : ∀ j, ¬ j = 28 → ¬ j = 41 → me_i M' 164 j = me_i MS 164 j := fun j h h' => (fy.i fun v => h' v.2).trans (fx5.i fun v => h v.2)
  have oc : ∀ v, 1 ≤ v → v ≤ nn → me_i M' 171 v = me_i M 171 v ∧ me_i M' 172 v = me_i M 172 v := fun v v1 v2 => ⟨GM.i I.GA (by decide) ok171 fun q => by unfold oP at q; omega, GM.i I.GA (by decide) ok172 fun q => by unfold oP at q; omega⟩
  have fix : ∀ b v, b = 171 ∨ b = 172 → me_i M' b v = me_i M9 b v := fun b v hb => by
    have nk : ∀ {j0 : Nat}, ¬ m1 j0 b v := fun q => by
      have := q.1
      omega
    have ob : ¬ oka b := by unfold oka; omega
    exact (fy.i nk).trans ((fx5.i nk).trans ((gS.i gB.GA (by omega) ob nk).trans ((fB.i nk).trans (eA b v (by omega) ob))))
  have ocn : me_i M' 171 (nn + 1) = (c : Int) := (fix 171 _ (Or.inl rfl)).trans oc9
  have ofn : me_i M' 172 (nn + 1) = (fu : Int) := (fix 172 _ (Or.inr rfl)).trans v9
  have hz : ∀ a, fu ≤ a → a < fu + gs9 nx (KF B ct m) r c → gi M' 22 a = 0 := fun a a1 a2 => by
    have lA : a < gL MA1 22 := Nat.lt_of_lt_of_le a2 (Nat.le_trans l7 (Nat.le_trans (g8.2.2.2.2.1 22 g22).1 (Nat.le_trans (g9.2.2.2.2.1 22 g22).1 (hA.2.2.2.2.1 22 g22).1)))
    rw [((gB.mo (P' := oP (nn + 1)) (R' := rO u) (gP (by decide)) no2_mo).tr GE).g g22 lA fun v => by have := v.1; omega]
    exact zA a a1 a2
  have hlo : ∀ a, a < fu → gi M' 22 a = gi M 22 a := fun a a1 => GM.g g22 (Nat.lt_of_lt_of_le a1 fl) fun v => by
    rcases v with v | v
    · omega
    · have := v.1
      omega
  have HP := I.2.2.2.2.1.new EV.1 hcl hr hr2 (oc' := me_i M' 171) (ofs' := me_i M' 172) (cells' := gi M' 22) oc ocn ofn hlo hz
  have k9 : me_i M' 164 9 = ((st + 1 : Nat) : Int) := (e164 9 (by decide) (by decide)).trans ((gS.i4 gB.GA fun v => absurd v.2 (by decide)).trans ((cB 9 (by decide)).trans ((f5.i fun v => absurd v.2 (by decide)).trans ((f4.i fun v => absurd v.2 (by decide)).trans h9))))
  have keepc : ∀ j, ¬ j = 28 → ¬ j = 41 → ¬ j = 23 → ¬ j = 9 → ¬ j = 10 → ¬ j = 11 → ¬ j = 42 → me_i M' 164 j = me_i M 164 j := fun j a1 a2 a3 a4 a5 a6 a7 => (e164 j a1 a2).trans (sS j a3 a4 a5 a6 a7)
  have stay2 : ∀ b v, b = 190 ∨ b = 191 ∨ b = 170 → me_i M' b v = me_i M b v := fun b v hb => GM.i I.GA (by omega) (by unfold oka; omega) fun q => by unfold oP at q; omega
  have oRr : ∀ j a, oR fu u j a → rRun j a := fun j a v => by
    unfold oR rO at v
    unfold rRun
    omega
  have Bn : BA p C n m cl A B nx cn ct fc fs mn V S F E T MA KA Mr (nn + 1) (fu + gs9 nx (KF B ct m) r c) (st + 1) rd M' := by
    obtain ⟨i1, ⟨i21, i22, i23⟩, i3, ⟨ra, rl, r1, r2, r3, r4⟩, i5, i6, ⟨i71, i72, i73, i74⟩, i8⟩ := I
    refine ⟨i1.gx GM oPr oRr, ⟨i21.tr (GM.mo oPr oRr), by rw [keepc 12 (by decide) (by decide) (by decide) (by decide) (by decide) (by decide) (by decide)]; exact i22, fun a a1 => ?_⟩, fun c' a c1' a1 v => ?_, ⟨ra, rl, ?_, r2, ?_, ?_⟩, HP, i6.mo (Nat.le_succ _) (fun v v1 v2 => (oc v v1 v2).1) (fun q _ => stay2 170 q (by omega)), ⟨(e164 11 (by decide) (by decide)).trans t11, (e164 23 (by decide) (by decide)).trans ((gS.i4 gB.GA fun v => absurd v.2 (by decide)).trans vB), k9, (keepc 17 (by decide) (by decide) (by decide) (by decide) (by decide) (by decide) (by decide)).trans i74⟩, by omega, by omega, ?_⟩
    · rw [stay2 190 a (by omega), keepc 49 (by decide) (by decide) (by decide) (by decide) (by decide) (by decide) (by decide)]
      exact i23 a a1
    · rw [stay2 190 _ (by omega), keepc 49 (by decide) (by decide) (by decide) (by decide) (by decide) (by decide) (by decide)] at v
      rw [stay2 191 _ (by omega)]
      exact i3 c' a c1' a1 v
    · have := GM.2.2.2.1 164 16 (by have := i21.GA.2.2.1; omega) fun v => absurd v.2 (by decide)
      unfold me_p at r1 ⊢
      rw [this]
      exact r1
    · rw [GM.2.1 ra (by have := i21.GA.2.2.1; omega)]
      exact r3
    · rw [keepc 18 (by decide) (by decide) (by decide) (by decide) (by decide) (by decide) (by decide)]
      exact r4
    · exact Nat.le_trans l7 (Nat.le_trans (g8.2.2.2.2.1 22 g22).1 (Nat.le_trans (g9.2.2.2.2.1 22 g22).1 (Nat.le_trans (GB.2.2.2.2.1 22 g22).1 (GE.2.2.2.2.1 22 g22).1)))
  have loe : me_i M' 164 41 = (lo' : Int) := by
    rw [vy]
    have : me_i M5x 179 c = me_i M5 179 c := (fx5.i fun v => absurd v.1 (by decide)).trans ((gS.i gB.GA (by decide) ok179 fun v => absurd v.1 (by decide)).trans ((fB.i fun v => absurd v.1 (by decide)).trans ((eA 179 c (by decide) ok179).trans (G9.i g5.GA (by decide) ok179 fun v => by unfold oP at v; omega))))
    have e : me_i M5x (164 + 15) c = me_i M5x 179 c := rfl
    rw [e, this]
    exact (ME5.2.2.2.2 c hcl).trans w1
  have nR : ∀ j a, (j = 24 ∨ j = 39) → ¬ oR fu u j a := fun j a hj v => by
    unfold oR rO at v
    omega
  have pl : ∀ a, a < hg → gi M' 39 a = gi M 39 a := fun a h => GM.g g39 (Nat.lt_of_lt_of_le h b2) (nR 39 a (Or.inr rfl))
  have fr24 : ∀ a, a < tp → gi M' 24 a = gi M 24 a := fun a h => GM.g g24 (Nat.lt_of_lt_of_le h b3) (nR 24 a (Or.inl rfl))
  have rowu : ∀ j, 43 ≤ j → j ≤ 48 → gi M' j u = gi MS j u := fun j j1 j2 => GS'.g (g43 j1 j2) (ol j j1 j2) fun v => v
  have rowv : ∀ j v, 43 ≤ j → j ≤ 48 → v < u → gi M' j v = gi M j v := fun j v j1 j2 hv => GM.g (g43 j1 j2) (Nat.lt_of_lt_of_le hv (b4 j j1 j2 (by omega))) fun q => by
    unfold oR rO at q
    omega
  have len5 : ∀ j, 43 ≤ j → j ≤ 48 → u + 1 ≤ gL M' j := fun j j1 j2 => Nat.le_trans (ol j j1 j2) (GS'.2.2.2.2.1 j (g43 j1 j2)).1
  have rt0 : rtt B (c : Int) (-1) = 10 + (c : Int) := by
    unfold rtt
    rw [if_neg (by omega)]
  have sl : (σ' lo').1 = [] := by
    have := w3.1.len
    exact List.length_eq_zero_iff.mp this
  have mc := mu_call (S := S) (T := T) (st := st) (su := su) (i := i) (j := lo') (by omega) (by omega) lt
  refine ⟨_, mc, nn + 1, fu + gs9 nx (KF B ct m) r c, st + 1, rd, u + 1, hg, tp, lo', k', lo', su + (T - (i + 1)), hg, bs, tp, σ', H', (c : Int), -1, ((nn + 1 : Nat) : Int), fm, Bn, ?_, loe, rfl, by omega⟩
  refine ⟨⟨(e164 42 (by decide) (by decide)).trans o42, (e164 10 (by decide) (by decide)).trans ((gS.i4 gB.GA fun v => absurd v.2 (by decide)).trans ((cB 10 (by decide)).trans ((f5.i fun v => absurd v.2 (by decide)).trans (v4.trans (by omega))))), (keepc 40 (by decide) (by decide) (by decide) (by decide) (by decide) (by decide) (by decide)).trans s40, (keepc 25 (by decide) (by decide) (by decide) (by decide) (by decide) (by decide) (by decide)).trans s25, (keepc 26 (by decide) (by decide) (by decide) (by decide) (by decide) (by decide) (by decide)).trans s26, (fy.i fun v => absurd v.2 (by decide)).trans vx5, (keepc 27 (by decide) (by decide) (by decide) (by decide) (by decide) (by decide) (by decide)).trans s27⟩, ⟨by omega, Nat.le_trans b2 (GM.2.2.2.2.1 39 g39).1, Nat.le_trans b3 (GM.2.2.2.2.1 24 g24).1, fun j j1 j2 _ => len5 j j1 j2⟩, ⟨w2, Nat.le_refl _, w2.1.1⟩, ⟨fun _ => ⟨nn + 1, rfl, by omega, Nat.le_refl _, by rw [ocn]; exact up.rf (by omega)⟩, fun h' hw => by omega⟩, by rw [sl]; rfl, ⟨Nat.le_refl _, fun q => by omega, by omega, by omega, ⟨fun q => by omega, fun q => by omega⟩⟩, ?_⟩
  rw [rt0]
  refine ⟨lo, k, i + 1, bs, tp, b, lb, su, σ, H, z, w, (σ i).1, pk, ⟨(rowu 43 (by decide) (by decide)).trans o43, (rowu 44 (by decide) (by decide)).trans o44, (rowu 45 (by decide) (by decide)).trans o45⟩, ⟨by omega, by omega⟩, ?_, by rw [← e]; exact hc.1, Kr.eq (fun t v q => q.mo (Nat.le_succ _) fun o o1 o2 => (oc o o1 o2).1) (fun a _ a2 => pl a a2), ⟨fb.1, Nat.le_refl _, fb.2.1, fb.2.2.2.2⟩, ⟨fb.2.2.1, fb.2.2.2.1⟩, rfl, ch.mo (Nat.le_succ _) (fun v v1 v2 => (oc v v1 v2).1) (fun j v j1 j2 v1 => rowv j v j1 (by omega) v1) (fun a a1 => pl a (by omega)) (fun a a1 => fr24 a (by have := fb.1; omega))⟩
  rw [(rowu 47 (by decide) (by decide)).trans o47, (rowu 46 (by decide) (by decide)).trans o46]
  exact fd.mo (Nat.le_succ _) (fun v v1 v2 => (oc v v1 v2).1) (fun a _ a2 => fr24 a a2) fun q _ v => by rw [← h2]; exact hc.2 q v
end MAKE
