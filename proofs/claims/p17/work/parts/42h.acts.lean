/-! the run: stores, steps, jumps, prints -/
section ACTS
variable {N : Nat} {X : Nat → Int32} {d p C n m cl : Nat} {A B : Nat → Nat → Int} {nx cn ct fc fs mn : Nat → Int} {V : Nat → Nat → Prop} {S F E : Nat → Int} {T BD : Nat} {MA KA : Nat → Int} {Mr M M1 M2 M' : me_M} {P R : Nat → Nat → Prop}
variable {nn fu st rd u b lb lo k i su hg bs tp : Nat} {σ : Nat → cx} {H : Nat → Nat} {z w self fm : Int}
theorem gi_r (M : me_M) (j i : Nat) : me_r (gi M j i) := me_i_r _ _ _
/-- behind pulls: one row's cell is set -/
theorem store_fin {j0 a0 h1 : Nat} {x : Int} {r : List Int} (EV : EVN m cl B nx cn ct fc fs V S F E T MA KA) (I : BA p C n m cl A B nx cn ct fc fs mn V S F E T MA KA Mr nn fu st rd M) (J : FX B nx cn m cl S F E T nn u b lb lo k i su σ H z w hg bs tp self fm M) (hm : rd + mu S T st su i ≤ BD ∧ BD ≤ 2000000000) (h41 : me_i M 164 41 = ((i + 1 : Nat) : Int)) (g : gx (m1 40) no2 M M1) (f : fr (m1 40) M M1) (h40 : me_i M1 164 40 = (h1 : Int)) (Kr : STK (vt nx (me_i M 171) nn) (gi M 39) r b h1) (hh : h1 ≤ hg) (hl : tle (σ (i + 1)).1 r) (hik : i < k) (h16 : ¬ S i = 16) (hj : j0 = 22 ∨ j0 = 24 ∧ lb ≤ a0) (e2 : M2 = me_sI M1 (ga M1 j0) a0 (Int32.ofInt x)) (hH : HEAP B nx cn ct m cl nn (me_i M2 171) (me_i M2 172) fu (gi M2 22)) (hF : FRD B nx m (gi M2 24) nn (me_i M2 171) σ (i + 1) z w self fm bs tp) : NXT p C n m cl A B nx cn ct fc fs mn V S F E T MA KA BD Mr (mu S T st su i) M2 := by
  have pk := J.2.2.1.1.1
  have jg : j0 ∈ gl := by
    rcases hj with v | v
    · rw [v]
      decide
    · rw [v.1]
      decide
  obtain ⟨r1, r2, r3, r4⟩ := row1 g.GA jg e2
  have e0 : ∀ j, ¬ j = 40 → me_i M2 164 j = me_i M 164 j := fun j hj => (r2 164 j (by decide) ok164).trans (f.i fun v => hj v.2)
  have gg : gx (m1 40) (fun a c => a = j0 ∧ c = a0) M M2 := (g.mo (fun _ _ v => v) no2_mo).tr (r1.mo no2_mo fun _ _ v => v)
  have sP1 : ∀ b j, m1 40 b j → sP b j := fun b j v => kP_sP b j (m1_k (by omega) b j v)
  refine fin I J hm gg (m1_k (by omega)) (fun j a v => ?_) ((e0 9 (by decide)).trans I.2.2.2.2.2.2.1.2.2.1) ((e0 17 (by decide)).trans I.2.2.2.2.2.2.1.2.2.2) (by rw [e0 12 (by decide)]; exact I.2.1.2.1) I.2.2.2.2.2.2.2.2.1 ((r2 164 40 (by decide) ok164).trans h40) (Nat.le_trans hh (Nat.le_trans J.2.1.2.1 (gg.2.2.2.2.1 39 g39).1)) ((e0 41 (by decide)).trans h41) ⟨by have := J.2.2.1.2.1; omega, by omega⟩ hH (I.stat gg sP1 fun a _ v => absurd v.1 (by decide)) hF (STK.tle hl (J.stk I.GA gg (m1_k (by omega)) hh (fun a _ v => by omega) Kr)) (mu_fwd h16 (by omega) (by omega)) (by omega)
  rcases hj with q | q <;> omega
/-- a store's value fits -/
theorem as_17 (EV : EVN m cl B nx cn ct fc fs V S F E T MA KA) (I : BA p C n m cl A B nx cn ct fc fs mn V S F E T MA KA Mr nn fu st rd M) (J : FX B nx cn m cl S F E T nn u b lb lo k i su σ H z w hg bs tp self fm M) (hm : rd + mu S T st su i ≤ BD ∧ BD ≤ 2000000000) (h41 : me_i M 164 41 = ((i + 1 : Nat) : Int)) (hik : i < k) (cx0 : H i < m ∧ (B 4 (H i) = 0 → up nx z (hkn B cn (H i))) ∧ (B 0 (H i) = 2 → w = (H i : Int))) {y : cx} (hc : cle (σ (i + 1)) y) (hs : S i = 17) {q : Nat} {t : Int} {r : List Int} (q0 : F i = (q : Int)) (q1 : q < m) (q2 : B 3 q = (H i : Int)) (q3 : B 0 q = 3 ∨ B 0 q = 4) (hf : fit nx t (B 8 q)) (ex : (σ i).1 = t :: r) (e : y.1 = r) (hy : ∀ a, y.2 a → (σ i).2 a ∨ a = q) (hd : 8 ≤ d) : ∀ n16 : Nat, (∀ b, me_p M 164 24 = some b → M.2.1 b = (0, n16)) → ∃ d', d = d' + 1 ∧ me_W (mt_G N X) 409 d' 0 [some (.inr (.inl (some 164, 25, 0))), some (.inl (F i))] [] M (sx_qI (fun y20 M17 => ∃ d', d = d' + 1 ∧ me_W (mt_G N X) 411 d' 0 [some (.inr (.inl (some 164, 25, 0)))] [] M17 (sx_qI (fun y24 M21 => me_dr (me_p M 164 24) (fun b25 => 0 ≤ y20 ∧ y20 < ((n16 : Nat) : Int) ∧ let M26 : me_M := me_sI M21 b25 y20.toNat (Int32.ofInt y24); NXT p C n m cl A B nx cn ct fc fs mn V S F E T MA KA BD Mr (mu S T st su i) M26)) (fun e M' => e = 167 ∧ RBS Mr M'))) (fun e M' => e = 167 ∧ RBS Mr M')) := fun n16 hn => by
  obtain ⟨w1, w2, w3, w4, w5⟩ := ctxm EV I J hm h41 hik cx0 q1 q2 q3
  obtain ⟨h1, a1, a2, a3, a4, a5⟩ := J.top ex
  have hb := J.hgb
  cases gn I.GA g24 hn
  refine slot_w J.1.2.2.2.1 J.1.2.2.2.2.2.2 (by omega) ?_
  have tl := J.2.1.2.2.1
  have idx : (bs : Int) + F i - fm - 1 = ((bs + (q - H i - 1) : Nat) : Int) := by
    rw [q0, w2]
    clear tl w4 w5 hn a2 a4 a5
    omega
  rw [idx]
  refine pull_w I.GA (J.1.2.2.1.trans (by rw [a1])) (by omega) a2 (by omega) fun M21 P1 _ => ?_
  rw [gp I.GA g24]
  have eg : ga M 24 = ga M21 24 := by
    unfold ga me_p
    rw [P1.2.1.2.2.1]
  rw [eg]
  refine dr_s ⟨Int.natCast_nonneg _, Int.ofNat_lt.mpr (Nat.lt_of_lt_of_le w4 tl), ?_⟩
  rw [Int.toNat_natCast]
  intro M26
  have lbb := J.2.2.2.2.2.1.2.1 (by omega)
  have oc := pul_oc P1
  have g24' := row1 (M1 := M26) (x := gi M 39 h1) P1.1.GA g24 rfl
  obtain ⟨r1, r2, r3, r4⟩ := g24'
  rw [me_to (gi_r M 39 h1)] at r3
  have sP1 : ∀ b j, m1 40 b j → sP b j := fun b j v => kP_sP b j (m1_k (by omega) b j v)
  have gg : gx (m1 40) (fun a c => a = 24 ∧ c = bs + (q - H i - 1)) M M26 := (P1.1.mo (fun _ _ v => v) no2_mo).tr (r1.mo no2_mo fun _ _ v => v)
  refine store_fin (j0 := 24) (a0 := bs + (q - H i - 1)) EV I J hm h41 P1.1 P1.2.1 P1.2.2 a5 (by omega) (by rw [← e]; exact hc.1) hik (by omega) (Or.inr ⟨rfl, by omega⟩) rfl (I.heap gg sP1 fun a _ v => absurd v.1 (by decide)) ?_
  have oc2 : ∀ v, me_i M26 171 v = me_i M 171 v := fun v => (r2 171 v (by decide) ok171).trans (by rw [oc])
  refine ⟨fun zz => ?_, fun h' hw => ⟨(J.2.2.2.1.2 h' hw).1, fun a b1 b2 b3 => ⟨((J.2.2.2.1.2 h' hw).2 a b1 b2 b3).1, fun b4 => ?_⟩⟩⟩
  · obtain ⟨v, v1, v2, v3, v4⟩ := J.2.2.2.1.1 zz
    exact ⟨v, v1, v2, v3, by rw [oc2]; exact v4⟩
  · have hh : h' = H i := by omega
    subst hh
    obtain ⟨a5', a6⟩ := (J.2.2.2.1.2 (H i) hw).2 a b1 b2 b3
    obtain ⟨_, _, c2, _, _⟩ := ctxm EV I J hm h41 hik cx0 b1 b2 b3
    by_cases ea : a = q
    · rw [ea, r3]
      exact (a4.fit hf).mo (Nat.le_refl _) fun o _ _ => oc2 o
    · rw [gg.g g24 (Nat.lt_of_lt_of_le a5' tl) fun v => ea (by have := v.2; omega)]
      refine (a6 ?_).mo (Nat.le_refl _) fun o _ _ => oc2 o
      rcases hy a (hc.2 a b4) with v | v
      · exact v
      · exact absurd v ea
theorem as_18 (EV : EVN m cl B nx cn ct fc fs V S F E T MA KA) (I : BA p C n m cl A B nx cn ct fc fs mn V S F E T MA KA Mr nn fu st rd M) (J : FX B nx cn m cl S F E T nn u b lb lo k i su σ H z w hg bs tp self fm M) (hm : rd + mu S T st su i ≤ BD ∧ BD ≤ 2000000000) (h41 : me_i M 164 41 = ((i + 1 : Nat) : Int)) (hik : i < k) (cx0 : H i < m ∧ (B 4 (H i) = 0 → up nx z (hkn B cn (H i))) ∧ (B 0 (H i) = 2 → w = (H i : Int))) {y : cx} (hc : cle (σ (i + 1)) y) (hs : S i = 18) (h2 : y.2 = (σ i).2) {q : Nat} {t : Int} {r : List Int} (q0 : F i = (q : Int)) (q1 : q < m) (hf : fit nx t (B 8 q)) (ex : (σ i).1 = t :: r) (e : y.1 = r) (hd : 8 ≤ d) : ∃ d', d = d' + 1 ∧ me_W (mt_G N X) 411 d' 0 [some (.inr (.inl (some 164, 25, 0)))] [] M (sx_qI (fun y30 M27 => 0 ≤ F i ∧ F i < ((2408 : Nat) : Int) ∧ let M31 : me_M := me_sI M27 170 (F i).toNat (Int32.ofInt y30); NXT p C n m cl A B nx cn ct fc fs mn V S F E T MA KA BD Mr (mu S T st su i) M31) (fun e M' => e = 167 ∧ RBS Mr M')) := by
  obtain ⟨h1, a1, a2, a3, a4, a5⟩ := J.top ex
  have hb := J.hgb
  have m5 := EV.1.1.2
  have pk := J.2.2.1.1.1
  refine pull_w I.GA (J.1.2.2.1.trans (by rw [a1])) (by omega) a2 (by omega) fun M27 P1 _ => ?_
  refine ⟨by omega, by omega, ?_⟩
  rw [q0, Int.toNat_natCast]
  intro M31
  have f2 : fr (fun b j => b = 170 ∧ j = q) M27 M31 := fr_sI ⟨rfl, rfl⟩
  have v2 : me_i M31 170 q = gi M 39 h1 := by
    show me_i (me_sI M27 170 q (Int32.ofInt (gi M 39 h1))) 170 q = _
    rw [me_i_sI, if_pos ⟨rfl, rfl⟩, me_to (gi_r M 39 h1)]
  have g2 : gx (fun b j => b = 170 ∧ j = q) no2 M27 M31 := gx.of P1.1.GA f2 fun b j v => by
    rw [v.1]
    exact ok170
  clear_value M31
  have gg : gx (fun b j => m1 40 b j ∨ b = 170 ∧ j = q) no2 M M31 := (P1.1.mo (fun b j v => Or.inl v) no2_mo).tr (g2.mo (fun b j v => Or.inr v) no2_mo)
  have hP : ∀ b j, (m1 40 b j ∨ b = 170 ∧ j = q) → kP b j := fun b j v => v.elim (m1_k (by omega) b j) fun v => Or.inr (Or.inr v.1)
  have e0 : ∀ j, ¬ j = 40 → me_i M31 164 j = me_i M 164 j := fun j hj => (f2.i fun v => absurd v.1 (by decide)).trans (P1.2.1.i fun v => hj v.2)
  have oc2 : ∀ v, me_i M31 171 v = me_i M 171 v := fun v => (f2.i fun v => absurd v.1 (by decide)).trans (by rw [pul_oc P1])
  have D : ∀ a, a < m → (σ (i + 1)).2 a → (σ i).2 a := fun q _ v => by
    rw [← h2]
    exact hc.2 q v
  refine fin I J hm gg hP (fun j a v => v.elim) ((e0 9 (by decide)).trans I.2.2.2.2.2.2.1.2.2.1) ((e0 17 (by decide)).trans I.2.2.2.2.2.2.1.2.2.2) (by rw [e0 12 (by decide)]; exact I.2.1.2.1) I.2.2.2.2.2.2.2.2.1 ((f2.i fun v => absurd v.1 (by decide)).trans P1.2.2) (Nat.le_trans (by omega) (Nat.le_trans J.2.1.2.1 (gg.2.2.2.2.1 39 g39).1)) ((e0 41 (by decide)).trans h41) ⟨by have := J.2.2.1.2.1; omega, by omega⟩ (I.heap gg (fun b j v => kP_sP b j (hP b j v)) fun a _ v => v) (fun a b1 b2 b3 => ?_) (J.frd I.GA gg hP (fun a v => v) D) (STK.tle (by rw [← e]; exact hc.1) (J.stk (h := h1) I.GA gg hP (by omega) (fun a _ v => v) a5)) (mu_fwd (by omega) (by omega) (by omega)) (by omega)
  by_cases ea : a = q
  · rw [ea, v2]
    exact (a4.fit hf).mo (Nat.le_refl _) fun o _ _ => oc2 o
  · rw [f2.i fun v => ea v.2, P1.2.1.i fun v => absurd v.1 (by decide)]
    exact (I.2.2.2.2.2.1 a b1 b2 b3).mo (Nat.le_refl _) fun o _ _ => oc2 o
/-- behind pulls: a field is set -/
theorem fset_fin {v c o s q o' h1 : Nat} {x : Int} {r : List Int} (EV : EVN m cl B nx cn ct fc fs V S F E T MA KA) (I : BA p C n m cl A B nx cn ct fc fs mn V S F E T MA KA Mr nn fu st rd M) (J : FX B nx cn m cl S F E T nn u b lb lo k i su σ H z w hg bs tp self fm M) (hm : rd + mu S T st su i ≤ BD ∧ BD ≤ 2000000000) (h41 : me_i M 164 41 = ((i + 1 : Nat) : Int)) (g : gx (m1 40) no2 M M1) (f : fr (m1 40) M M1) (h40 : me_i M1 164 40 = (h1 : Int)) (Kr : STK (vt nx (me_i M 171) nn) (gi M 39) r b h1) (hh : h1 ≤ hg) (hl : tle (σ (i + 1)).1 r) (hik : i < k) (h16 : ¬ S i = 16) (hD : ∀ q, q < m → (σ (i + 1)).2 q → (σ i).2 q) (v1 : 1 ≤ v) (v2 : v ≤ nn) (c1 : me_i M 171 v = (c : Int)) (c3 : me_i M 172 v = (o : Int)) (Kf : OFF B nx cn ct m c s q o') (c5 : o + o' < fu) (hx : vt nx (me_i M 171) nn (B 8 q) x) (rx : me_r x) (e2 : M2 = me_sI M1 (ga M1 22) (o + o') (Int32.ofInt x)) : NXT p C n m cl A B nx cn ct fc fs mn V S F E T MA KA BD Mr (mu S T st su i) M2 := by
  obtain ⟨r1, r2, r3, r4⟩ := row1 g.GA g22 e2
  rw [me_to rx] at r3
  have gg : gx (m1 40) (fun a c => a = 22 ∧ c = o + o') M M2 := (g.mo (fun _ _ v => v) no2_mo).tr (r1.mo no2_mo fun _ _ v => v)
  have fl := I.2.2.2.2.2.2.2.2.2
  have st : ∀ b v, b = 171 ∨ b = 172 → me_i M2 b v = me_i M b v := fun b v hb => by
    rcases hb with hb | hb <;> rw [hb]
    · exact (r2 171 v (by decide) ok171).trans (f.i fun v => absurd v.1 (by decide))
    · exact (r2 172 v (by decide) ok172).trans (f.i fun v => absurd v.1 (by decide))
  refine store_fin (j0 := 22) (a0 := o + o') EV I J hm h41 g f h40 Kr hh hl hik h16 (Or.inl rfl) e2 (I.2.2.2.2.1.set v1 v2 c1 c3 Kf hx (fun v _ _ => ⟨st 171 v (Or.inl rfl), st 172 v (Or.inr rfl)⟩) fun a a1 => ?_) (J.frd I.GA gg (m1_k (by omega)) (fun a v => absurd v.1 (by decide)) hD)
  by_cases ea : a = o + o'
  · rw [if_pos ea, ea]
    exact r3
  · rw [if_neg ea]
    exact gg.g g22 (Nat.lt_of_lt_of_le a1 fl) fun v => ea v.2
theorem as_19 (EV : EVN m cl B nx cn ct fc fs V S F E T MA KA) (I : BA p C n m cl A B nx cn ct fc fs mn V S F E T MA KA Mr nn fu st rd M) (J : FX B nx cn m cl S F E T nn u b lb lo k i su σ H z w hg bs tp self fm M) (hm : rd + mu S T st su i ≤ BD ∧ BD ≤ 2000000000) (h41 : me_i M 164 41 = ((i + 1 : Nat) : Int)) (hik : i < k) (cx0 : H i < m ∧ (B 4 (H i) = 0 → up nx z (hkn B cn (H i))) ∧ (B 0 (H i) = 2 → w = (H i : Int))) {y : cx} (hc : cle (σ (i + 1)) y) (hs : S i = 19) (h2 : y.2 = (σ i).2) {q : Nat} {t : Int} {r : List Int} (q0 : F i = (q : Int)) (q1 : q < m) (q2 : B 0 q = 1) (q3 : B 4 q = 0) (h4 : B 4 (H i) = 0) (q4 : ME8 B nx cn m (hkn B cn (H i)) q) (hf : fit nx t (B 8 q)) (ex : (σ i).1 = t :: r) (e : y.1 = r) (hd : 8 ≤ d) : ∀ n32 : Nat, (∀ b, me_p M 164 22 = some b → M.2.1 b = (0, n32)) → ∃ d', d = d' + 1 ∧ me_W (mt_G N X) 410 d' 0 [some (.inr (.inl (some 164, 25, 0))), some (.inl (me_i M 164 28)), some (.inl (F i)), none, none, none] [] M (sx_qI (fun y36 M33 => ∃ d', d = d' + 1 ∧ me_W (mt_G N X) 411 d' 0 [some (.inr (.inl (some 164, 25, 0)))] [] M33 (sx_qI (fun y40 M37 => me_dr (me_p M 164 22) (fun b41 => 0 ≤ y36 ∧ y36 < ((n32 : Nat) : Int) ∧ let M42 : me_M := me_sI M37 b41 y36.toNat (Int32.ofInt y40); NXT p C n m cl A B nx cn ct fc fs mn V S F E T MA KA BD Mr (mu S T st su i) M42)) (fun e M' => e = 167 ∧ RBS Mr M'))) (fun e M' => e = 167 ∧ RBS Mr M')) := fun n32 hn => by
  obtain ⟨v, v1, v2, v3, v4⟩ := selfv EV I J hm h41 hik cx0 h4
  obtain ⟨c, o, s, o', c1, c2, c3, c4, c5, c6⟩ := fld_at EV I v2 v3 v4 q1 q2 q3 q4
  obtain ⟨h1, a1, a2, a3, a4, a5⟩ := J.top ex
  have hb := J.hgb
  have nb := I.2.2.2.2.2.2.2.1
  have fl := I.2.2.2.2.2.2.2.2.2
  cases gn I.GA g22 hn
  rw [J.1.2.2.2.2.2.1, v1, q0]
  refine fplace_w I.1.1 EV.1 (by omega) c1 c3 c2 c4 (by omega) ?_
  refine pull_w I.GA (J.1.2.2.1.trans (by rw [a1])) (by omega) a2 (by omega) fun M37 P1 _ => ?_
  rw [gp I.GA g22]
  have eg : ga M 22 = ga M37 22 := by
    unfold ga me_p
    rw [P1.2.1.2.2.1]
  rw [eg]
  refine dr_s ⟨Int.natCast_nonneg _, Int.ofNat_lt.mpr (Nat.lt_of_lt_of_le c5 fl), ?_⟩
  rw [Int.toNat_natCast]
  intro M42
  exact fset_fin EV I J hm h41 P1.1 P1.2.1 P1.2.2 a5 (by omega) (by rw [← e]; exact hc.1) hik (by omega) (fun q _ v => by rw [← h2]; exact hc.2 q v) v2 v3 c1 c3 c4 c5 (a4.fit hf) (me_i_r _ _ _) rfl
theorem as_20 {Q : me_M → Prop} (EV : EVN m cl B nx cn ct fc fs V S F E T MA KA) (I : BA p C n m cl A B nx cn ct fc fs mn V S F E T MA KA Mr nn fu st rd M) (J : FX B nx cn m cl S F E T nn u b lb lo k i su σ H z w hg bs tp self fm M) (hm : rd + mu S T st su i ≤ BD ∧ BD ≤ 2000000000) (h41 : me_i M 164 41 = ((i + 1 : Nat) : Int)) (hik : i < k) (cx0 : H i < m ∧ (B 4 (H i) = 0 → up nx z (hkn B cn (H i))) ∧ (B 0 (H i) = 2 → w = (H i : Int))) {y : cx} (hc : cle (σ (i + 1)) y) (hs : S i = 20) (h2 : y.2 = (σ i).2) {q : Nat} {t t1 : Int} {r : List Int} (q0 : F i = (q : Int)) (q1 : q < m) (q2 : B 0 q = 1) (q3 : B 4 q = 0) (hf : fit nx t (B 8 q)) (ht : 10 ≤ t1) (q4 : ME8 B nx cn m (t1 - 10) q) (ex : (σ i).1 = t :: t1 :: r) (e : y.1 = r) (hd : 8 ≤ d) : ∃ d', d = d' + 1 ∧ me_W (mt_G N X) 411 d' 0 [some (.inr (.inl (some 164, 25, 0)))] [] M (sx_qI (fun y46 M43 => ∃ d', d = d' + 1 ∧ me_W (mt_G N X) 411 d' 0 [some (.inr (.inl (some 164, 25, 0)))] [] M43 (sx_qI (fun y50 M47 => me_r y50 ∧ (¬ y50 = 0 → ∀ n51 : Nat, (∀ b, me_p M47 164 22 = some b → M47.2.1 b = (0, n51)) → ∃ d', d = d' + 1 ∧ me_W (mt_G N X) 410 d' 0 [some (.inr (.inl (some 164, 25, 0))), some (.inl y50), some (.inl (F i)), none, none, none] [] M47 (sx_qI (fun y55 M52 => me_dr (me_p M47 164 22) (fun b56 => 0 ≤ y55 ∧ y55 < ((n51 : Nat) : Int) ∧ let M57 : me_M := me_sI M52 b56 y55.toNat (Int32.ofInt y46); NXT p C n m cl A B nx cn ct fc fs mn V S F E T MA KA BD Mr (mu S T st su i) M57)) (fun e M' => e = 167 ∧ RBS Mr M'))) ∧ (y50 = 0 → ∃ d', d = d' + 1 ∧ me_W (mt_G N X) 412 d' 0 [some (.inr (.inl (some 164, 25, 0))), some (.inl 1)] [] M47 (sx_qV (fun M58 => ∀ n61 : Nat, (∀ b, me_p M58 164 22 = some b → M58.2.1 b = (0, n61)) → ∃ d', d = d' + 1 ∧ me_W (mt_G N X) 410 d' 0 [some (.inr (.inl (some 164, 25, 0))), some (.inl y50), some (.inl (F i)), none, none, none] [] M58 (sx_qI (fun y65 M62 => me_dr (me_p M58 164 22) (fun b66 => 0 ≤ y65 ∧ y65 < ((n61 : Nat) : Int) ∧ let M67 : me_M := me_sI M62 b66 y65.toNat (Int32.ofInt y46); NXT p C n m cl A B nx cn ct fc fs mn V S F E T MA KA BD Mr (mu S T st su i) M67)) (fun e M' => e = 167 ∧ RBS Mr M'))) (fun e M' => e = 167 ∧ RBS Mr M')))) (fun e M' => e = 167 ∧ RBS Mr M'))) (fun e M' => e = 167 ∧ RBS Mr M')) := by
  obtain ⟨h1, a1, a2, a3, a4, a5⟩ := J.top ex
  obtain ⟨h0, b1, b2, b3⟩ := a5
  have b4 := b3.len
  have hb := J.hgb
  have lt0 : h0 < gL M 39 := by omega
  refine pull_w I.GA (J.1.2.2.1.trans (by rw [a1])) (by omega) a2 (by omega) fun M43 P1 _ => ?_
  have k0 : gi M43 39 h0 = gi M 39 h0 := P1.1.g g39 lt0 fun v => v
  refine pull_w P1.1.GA (hg := h0) (P1.2.2.trans (by rw [b1])) (by omega) (Nat.lt_of_lt_of_le lt0 (P1.1.2.2.2.2.1 39 g39).1) (by omega) fun M47 P2 _ => ?_
  rw [k0]
  have I2 := (I.low P1).low P2
  have oc : me_i M47 171 = me_i M 171 := (pul_oc P2).trans (pul_oc P1)
  have P12 : fr (m1 40) M M47 := P1.2.1.tr P2.2.1
  refine ⟨me_i_r _ _ _, fun nz n51 hn => ?_, fun _ => fail_w (by omega) I2.2.1⟩
  rcases b2.1 ht with zz | ⟨v, v1, v2, v3, v4⟩
  · exact absurd zz nz
  obtain ⟨c, o, s, o', c1, c2, c3, c4, c5, c6⟩ := fld_at EV I2 v2 v3 (by rw [oc]; exact v4) q1 q2 q3 q4
  have nb := I.2.2.2.2.2.2.2.1
  have fl := I2.2.2.2.2.2.2.2.2.2
  cases gn I2.GA g22 hn
  rw [v1, q0]
  refine fplace_w I2.1.1 EV.1 (by omega) c1 c3 c2 c4 (by omega) ?_
  rw [gp I2.GA g22]
  refine dr_s ⟨Int.natCast_nonneg _, Int.ofNat_lt.mpr (Nat.lt_of_lt_of_le c5 fl), ?_⟩
  rw [Int.toNat_natCast]
  intro M57
  rw [oc] at c1
  exact fset_fin EV I J hm h41 (P1.1.tr P2.1) P12 P2.2.2 b3 (by omega) (by rw [← e]; exact hc.1) hik (by omega) (fun q _ v => by rw [← h2]; exact hc.2 q v) v2 v3 c1 ((P12.i fun v => absurd v.1 (by decide)).symm.trans c3) c4 c5 (a4.fit hf) (me_i_r _ _ _) rfl
theorem as_22 (EV : EVN m cl B nx cn ct fc fs V S F E T MA KA) (I : BA p C n m cl A B nx cn ct fc fs mn V S F E T MA KA Mr nn fu st rd M) (J : FX B nx cn m cl S F E T nn u b lb lo k i su σ H z w hg bs tp self fm M) (hm : rd + mu S T st su i ≤ BD ∧ BD ≤ 2000000000) (h41 : me_i M 164 41 = ((i + 1 : Nat) : Int)) (hik : i < k) (cx0 : H i < m ∧ (B 4 (H i) = 0 → up nx z (hkn B cn (H i))) ∧ (B 0 (H i) = 2 → w = (H i : Int))) (h16 : ¬ S i = 16) {j : Nat} {t : Int} {r : List Int} (fj : F i = (j : Int)) (ij : i < j) (jk : j ≤ k) (ex : (σ i).1 = t :: r) (c1 : cle (σ (i + 1)) (r, (σ i).2)) (c2 : cle (σ j) (r, (σ i).2)) (hd : 8 ≤ d) : ∃ d', d = d' + 1 ∧ me_W (mt_G N X) 411 d' 0 [some (.inr (.inl (some 164, 25, 0)))] [] M (sx_qI (fun y72 M69 => me_r y72 ∧ (¬ y72 = 0 → NXT p C n m cl A B nx cn ct fc fs mn V S F E T MA KA BD Mr (mu S T st su i) M69) ∧ (y72 = 0 → let M73 : me_M := me_sI M69 164 41 (Int32.ofInt (F i)); NXT p C n m cl A B nx cn ct fc fs mn V S F E T MA KA BD Mr (mu S T st su i) M73)) (fun e M' => e = 167 ∧ RBS Mr M')) := by
  obtain ⟨h1, a1, a2, a3, a4, a5⟩ := J.top ex
  have hb := J.hgb
  have pk := J.2.2.1.1.1
  have tb := EV.2.1
  refine pull_w I.GA (J.1.2.2.1.trans (by rw [a1])) (by omega) a2 (by omega) fun M69 P1 _ => ?_
  have f : ∀ j0, ¬ j0 = 40 → me_i M69 164 j0 = me_i M 164 j0 := fun j0 hj => P1.2.1.i fun v => hj v.2
  refine ⟨me_i_r _ _ _, fun _ => ?_, fun _ => ?_⟩
  · exact nxt_low EV I J hm h41 P1.1 (m1_k (by omega)) (fun a v => absurd v.1 (by decide)) (fun j a v => v) a5 (by omega) P1.2.2 c1.1 (fun q _ v => c1.2 q v) ((f 9 (by decide)).trans I.2.2.2.2.2.2.1.2.2.1) I.2.2.2.2.2.2.2.2.1 ((f 17 (by decide)).trans I.2.2.2.2.2.2.1.2.2.2) (by rw [f 12 (by decide)]; exact I.2.1.2.1) ((f 41 (by decide)).trans h41) ⟨by have := J.2.2.1.2.1; omega, by omega⟩ (mu_fwd h16 (by omega) (by omega))
  · intro M73
    obtain ⟨d1, d2, d3⟩ := cell1 (M1 := M73) (j0 := 41) (x := F i) P1.1.GA rfl
    rw [fj, me_to ⟨by omega, by omega⟩] at d3
    clear_value M73
    have f2 : ∀ j0, ¬ j0 = 40 → ¬ j0 = 41 → me_i M73 164 j0 = me_i M 164 j0 := fun j0 hj hj2 => (d2.i fun v => hj2 v.2).trans (f j0 hj)
    have gg : gx (fun b j => m1 40 b j ∨ m1 41 b j) no2 M M73 := (P1.1.mo (fun b j v => Or.inl v) no2_mo).tr (d1.mo (fun b j v => Or.inr v) no2_mo)
    exact nxt_low EV I J hm h41 gg (fun b j v => v.elim (m1_k (by omega) b j) (m1_k (by omega) b j)) (fun a v => v.elim (fun v => absurd v.1 (by decide)) fun v => absurd v.1 (by decide)) (fun j a v => v) a5 (by omega) ((d2.i fun v => absurd v.2 (by decide)).trans P1.2.2) c2.1 (fun q _ v => c2.2 q v) ((f2 9 (by decide) (by decide)).trans I.2.2.2.2.2.2.1.2.2.1) I.2.2.2.2.2.2.2.2.1 ((f2 17 (by decide) (by decide)).trans I.2.2.2.2.2.2.1.2.2.2) (by rw [f2 12 (by decide) (by decide)]; exact I.2.1.2.1) d3 ⟨by have := J.2.2.1.2.1; omega, jk⟩ (mu_fwd h16 ij (by omega))
/-- steps and places -/
theorem as_15 (EV : EVN m cl B nx cn ct fc fs V S F E T MA KA) (I : BA p C n m cl A B nx cn ct fc fs mn V S F E T MA KA Mr nn fu st rd M) (J : FX B nx cn m cl S F E T nn u b lb lo k i su σ H z w hg bs tp self fm M) (hm : rd + mu S T st su i ≤ BD ∧ BD ≤ 2000000000) (h41 : me_i M 164 41 = ((i + 1 : Nat) : Int)) (hik : i < k) (cx0 : H i < m ∧ (B 4 (H i) = 0 → up nx z (hkn B cn (H i))) ∧ (B 0 (H i) = 2 → w = (H i : Int))) {y : cx} (hc : cle (σ (i + 1)) y) (hs : S i = 15 ∨ S i = 16) (h2 : y.2 = (σ i).2) (e : y.1 = (σ i).1) (hd : 8 ≤ d) (e1 : M1 = me_sI M 164 29 (Int32.ofInt (F i))) : ∃ d', d = d' + 1 ∧ me_W (mt_G N X) 414 d' 0 [some (.inr (.inl (some 164, 25, 0)))] [] M1 (sx_qV (fun M' => NXT p C n m cl A B nx cn ct fc fs mn V S F E T MA KA BD Mr (mu S T st su i) M') (fun e M' => e = 167 ∧ RBS Mr M')) := by
  obtain ⟨c1, c2, c3⟩ := cell1 I.GA e1
  have pk := J.2.2.1.1.1
  have i9 := I.2.2.2.2.2.2.1.2.2.1
  have sb := I.2.2.2.2.2.2.2.2.1
  have R1 : RBS Mr M1 := ⟨I.2.1.1.tr (c1.mo (fun b j v => Or.inl ⟨v.1, by have := v.2; omega⟩) no2_mo), by rw [c2.i fun v => absurd v.2 (by decide)]; exact I.2.1.2.1, fun a a1 => by
    rw [c2.i fun v => absurd v.1 (by decide), c2.i fun v => absurd v.2 (by decide)]
    exact I.2.1.2.2 a a1⟩
  refine step_w c1.GA ((c2.i fun v => absurd v.2 (by decide)).trans i9) sb (by omega) (fun M' f => ⟨rfl, R1.fail f⟩) fun M' lt g f h9 => ?_
  have e0 : ∀ j, ¬ j = 29 → ¬ j = 9 → me_i M' 164 j = me_i M 164 j := fun j h h' => (f.i fun v => h' v.2).trans (c2.i fun v => h v.2)
  have gg : gx (fun b j => m1 29 b j ∨ m1 9 b j) no2 M M' := (c1.mo (fun b j v => Or.inl v) no2_mo).tr (g.mo (fun b j v => Or.inr v) no2_mo)
  refine nxt_low EV I J hm h41 gg (fun b j v => v.elim (m1_k (by omega) b j) (m1_k (by omega) b j)) (fun a v => v.elim (fun v => absurd v.1 (by decide)) fun v => absurd v.1 (by decide)) (fun j a v => v) J.2.2.2.2.1 (Nat.le_refl _) ((e0 40 (by decide) (by decide)).trans J.1.2.2.1) (by rw [← e]; exact hc.1) (fun q _ v => by rw [← h2]; exact hc.2 q v) h9 (by omega) ((e0 17 (by decide) (by decide)).trans I.2.2.2.2.2.2.1.2.2.2) (by rw [e0 12 (by decide) (by decide)]; exact I.2.1.2.1) ((e0 41 (by decide) (by decide)).trans h41) ⟨by have := J.2.2.1.2.1; omega, by omega⟩ ?_
  rcases hs with hs | hs
  · exact mu_step (by omega) (by omega) (by omega)
  · exact mu_trial hs (by omega)
theorem as_26 (EV : EVN m cl B nx cn ct fc fs V S F E T MA KA) (I : BA p C n m cl A B nx cn ct fc fs mn V S F E T MA KA Mr nn fu st rd M) (J : FX B nx cn m cl S F E T nn u b lb lo k i su σ H z w hg bs tp self fm M) (hm : rd + mu S T st su i ≤ BD ∧ BD ≤ 2000000000) (h41 : me_i M 164 41 = ((i + 1 : Nat) : Int)) (hik : i < k) (cx0 : H i < m ∧ (B 4 (H i) = 0 → up nx z (hkn B cn (H i))) ∧ (B 0 (H i) = 2 → w = (H i : Int))) {y : cx} (hc : cle (σ (i + 1)) y) (hs : S i = 26) (h2 : y.2 = (σ i).2) (e : y.1 = (σ i).1) (e1 : M1 = me_sI M 164 29 (Int32.ofInt (F i))) : NXT p C n m cl A B nx cn ct fc fs mn V S F E T MA KA BD Mr (mu S T st su i) M1 := by
  obtain ⟨c1, c2, c3⟩ := cell1 I.GA e1
  have pk := J.2.2.1.1.1
  have e0 : ∀ j, ¬ j = 29 → me_i M1 164 j = me_i M 164 j := fun j h => c2.i fun v => h v.2
  exact nxt_low EV I J hm h41 c1 (m1_k (by omega)) (fun a v => absurd v.1 (by decide)) (fun j a v => v) J.2.2.2.2.1 (Nat.le_refl _) ((e0 40 (by decide)).trans J.1.2.2.1) (by rw [← e]; exact hc.1) (fun q _ v => by rw [← h2]; exact hc.2 q v) ((e0 9 (by decide)).trans I.2.2.2.2.2.2.1.2.2.1) I.2.2.2.2.2.2.2.2.1 ((e0 17 (by decide)).trans I.2.2.2.2.2.2.1.2.2.2) (by rw [e0 12 (by decide)]; exact I.2.1.2.1) ((e0 41 (by decide)).trans h41) ⟨by have := J.2.2.1.2.1; omega, by omega⟩ (mu_fwd (by omega) (by omega) (by omega))
theorem as_25 (EV : EVN m cl B nx cn ct fc fs V S F E T MA KA) (I : BA p C n m cl A B nx cn ct fc fs mn V S F E T MA KA Mr nn fu st rd M) (J : FX B nx cn m cl S F E T nn u b lb lo k i su σ H z w hg bs tp self fm M) (hm : rd + mu S T st su i ≤ BD ∧ BD ≤ 2000000000) (h41 : me_i M 164 41 = ((i + 1 : Nat) : Int)) (hik : i < k) (cx0 : H i < m ∧ (B 4 (H i) = 0 → up nx z (hkn B cn (H i))) ∧ (B 0 (H i) = 2 → w = (H i : Int))) {y : cx} (hc : cle (σ (i + 1)) y) (hs : S i = 25) (h2 : y.2 = (σ i).2) {t : Int} {r : List Int} (ex : (σ i).1 = t :: r) (e : y.1 = r) (hd : 8 ≤ d) : ∃ d', d = d' + 1 ∧ me_W (mt_G N X) 411 d' 0 [some (.inr (.inl (some 164, 25, 0)))] [] M (sx_qI (fun y82 M79 => me_r (me_i M79 164 12) ∧ me_r 300 ∧ (¬ me_i M79 164 12 = 300 → 0 ≤ me_i M79 164 12 ∧ me_i M79 164 12 < ((300 : Nat) : Int) ∧ let M83 : me_M := me_sI M79 168 (me_i M79 164 12).toNat (Int32.ofInt y82); let M84 : me_M := me_sI M83 164 12 (Int32.ofInt (me_i M83 164 12 + 1)); NXT p C n m cl A B nx cn ct fc fs mn V S F E T MA KA BD Mr (mu S T st su i) M84) ∧ (me_i M79 164 12 = 300 → ∃ d', d = d' + 1 ∧ me_W (mt_G N X) 412 d' 0 [some (.inr (.inl (some 164, 25, 0))), some (.inl 6)] [] M79 (sx_qV (fun M85 => 0 ≤ me_i M85 164 12 ∧ me_i M85 164 12 < ((300 : Nat) : Int) ∧ let M88 : me_M := me_sI M85 168 (me_i M85 164 12).toNat (Int32.ofInt y82); let M89 : me_M := me_sI M88 164 12 (Int32.ofInt (me_i M88 164 12 + 1)); NXT p C n m cl A B nx cn ct fc fs mn V S F E T MA KA BD Mr (mu S T st su i) M89) (fun e M' => e = 167 ∧ RBS Mr M')))) (fun e M' => e = 167 ∧ RBS Mr M')) := by
  obtain ⟨h1, a1, a2, a3, a4, a5⟩ := J.top ex
  have hb := J.hgb
  have pk := J.2.2.1.1.1
  have pb := I.2.1.2.1
  refine pull_w I.GA (J.1.2.2.1.trans (by rw [a1])) (by omega) a2 (by omega) fun M79 P1 _ => ?_
  have I1 := I.low P1
  have f : ∀ j0, ¬ j0 = 40 → me_i M79 164 j0 = me_i M 164 j0 := fun j0 hj => P1.2.1.i fun v => hj v.2
  have pb1 := I1.2.1.2.1
  refine ⟨me_i_r _ _ _, ⟨by omega, by omega⟩, fun nz => ⟨pb1.1, by clear a2 a4 a5; omega, ?_⟩, fun _ => fail_w (by omega) I1.2.1⟩
  intro M83
  have f3 : fr (fun b _ => b = 168) M79 M83 := fr_sI rfl
  have g3 : gx (fun b _ => b = 168) no2 M79 M83 := gx.of P1.1.GA f3 fun b j v => by
    have v : b = 168 := v
    rw [v]
    exact ok168
  clear_value M83
  intro M84
  obtain ⟨d1, d2, d3⟩ := cell1 (M1 := M84) (j0 := 12) (x := me_i M83 164 12 + 1) g3.GA rfl
  clear_value M84
  have e12 : me_i M83 164 12 = me_i M79 164 12 := f3.i fun v => absurd v (by decide)
  rw [e12, me_to ⟨by clear a2 a4 a5; omega, by clear a2 a4 a5; omega⟩] at d3
  have e0 : ∀ j, ¬ j = 40 → ¬ j = 12 → me_i M84 164 j = me_i M 164 j := fun j h h' => (d2.i fun v => h' v.2).trans ((f3.i fun v => absurd v (by decide)).trans (f j h))
  have gg : gx (fun b j => m1 40 b j ∨ b = 168 ∨ m1 12 b j) no2 M M84 := (P1.1.mo (fun b j v => Or.inl v) no2_mo).tr ((g3.mo (fun b j v => Or.inr (Or.inl v)) no2_mo).tr (d1.mo (fun b j v => Or.inr (Or.inr v)) no2_mo))
  refine nxt_low EV I J hm h41 gg (fun b j v => ?_) (fun a v => ?_) (fun j a v => v) a5 (by omega) ((d2.i fun v => absurd v.2 (by decide)).trans ((f3.i fun v => absurd v (by decide)).trans P1.2.2)) (by rw [← e]; exact hc.1) (fun q _ v => by rw [← h2]; exact hc.2 q v) ((e0 9 (by decide) (by decide)).trans I.2.2.2.2.2.2.1.2.2.1) I.2.2.2.2.2.2.2.2.1 ((e0 17 (by decide) (by decide)).trans I.2.2.2.2.2.2.1.2.2.2) (by rw [d3]; clear a2 a4 a5; omega) ((e0 41 (by decide) (by decide)).trans h41) ⟨by have := J.2.2.1.2.1; omega, by omega⟩ (mu_fwd (by omega) (by omega) (by omega))
  · rcases v with v | v | v
    · exact m1_k (by omega) b j v
    · exact Or.inr (Or.inl v)
    · exact m1_k (by omega) b j v
  · rcases v with v | v | v
    · exact absurd v.1 (by decide)
    · exact absurd v (by decide)
    · exact absurd v.1 (by decide)
end ACTS
