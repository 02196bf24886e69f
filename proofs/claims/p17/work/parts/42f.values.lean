/-! the run: values -/
section VAL
variable {N : Nat} {X : Nat → Int32} {d p C n m cl : Nat} {A B : Nat → Nat → Int} {nx cn ct fc fs mn : Nat → Int} {V : Nat → Nat → Prop} {S F E : Nat → Int} {T BD : Nat} {MA KA : Nat → Int} {Mr M M1 M2 M' : me_M} {P R : Nat → Nat → Prop}
variable {nn fu st rd u b lb lo k i su hg bs tp : Nat} {σ : Nat → cx} {H : Nat → Nat} {z w self fm : Int}
theorem i4 {j : Nat} (G : GA M) (g : gx P R M M') (h : ¬ P 164 j) : me_i M' 164 j = me_i M 164 j := g.i4 G h
/-- one value more -/
theorem nxt_push {rd' h1 : Nat} {r : List Int} {t x : Int} (EV : EVN m cl B nx cn ct fc fs V S F E T MA KA) (I : BA p C n m cl A B nx cn ct fc fs mn V S F E T MA KA Mr nn fu st rd M) (J : FX B nx cn m cl S F E T nn u b lb lo k i su σ H z w hg bs tp self fm M) (hm : rd + mu S T st su i ≤ BD ∧ BD ≤ 2000000000) (h41 : me_i M 164 41 = ((i + 1 : Nat) : Int)) (g : gx P R M M') (hP : ∀ b j, P b j → kP b j) (h170 : ∀ a, ¬ P 170 a) (hR : ∀ j a, R j a → j = 39 ∧ h1 ≤ a) (K : STK (vt nx (me_i M 171) nn) (gi M 39) r b h1) (hh : h1 ≤ hg) (h40 : me_i M' 164 40 = ((h1 + 1 : Nat) : Int)) (hv : gi M' 39 h1 = x) (hl : h1 < gL M' 39) (hx : vt nx (me_i M 171) nn t x) (hc : tle (σ (i + 1)).1 (t :: r)) (hD : ∀ q, q < m → (σ (i + 1)).2 q → (σ i).2 q) (h9 : me_i M' 164 9 = (st : Int)) (h17 : me_i M' 164 17 = (rd' : Int)) (h12 : me_i M' 164 12 = me_i M 164 12) (k41 : me_i M' 164 41 = ((i + 1 : Nat) : Int)) (hik : i < k) (h16 : ¬ S i = 16) (hrd : rd' ≤ rd + 1) : NXT p C n m cl A B nx cn ct fc fs mn V S F E T MA KA BD Mr (mu S T st su i) M' := by
  have ln := K.len
  have pk := J.2.2.1.1.1
  have oc : ∀ v, me_i M' 171 v = me_i M 171 v := fun v => I.stay g (fun b j v => kP_sP b j (hP b j v)) (by omega)
  refine fin I J hm g hP (fun j a v => Or.inr (Or.inl ⟨(hR j a v).1, by have := (hR j a v).2; omega⟩)) h9 h17 (by rw [h12]; exact I.2.1.2.1) I.2.2.2.2.2.2.2.2.1 h40 (by omega) k41 ⟨by have := J.2.2.1.2.1; omega, by omega⟩ (I.heap g (fun b j v => kP_sP b j (hP b j v)) fun a _ v => by have := (hR 22 a v).1; omega) (I.stat g (fun b j v => kP_sP b j (hP b j v)) fun a _ => h170 a) (J.frd I.GA g hP (fun a v => by have := (hR 24 a v).1; omega) hD) (STK.tle hc ⟨h1, rfl, ?_, J.stk I.GA g hP hh (fun a a1 v => by have := (hR 39 a v).2; omega) K⟩) (mu_fwd h16 (by omega) (by omega)) hrd
  rw [hv]
  exact hx.mo (Nat.le_refl _) fun o _ _ => oc o
/-- the pile went down; nothing else -/
theorem nxt_low {st' i' h1 : Nat} {l : List Int} (EV : EVN m cl B nx cn ct fc fs V S F E T MA KA) (I : BA p C n m cl A B nx cn ct fc fs mn V S F E T MA KA Mr nn fu st rd M) (J : FX B nx cn m cl S F E T nn u b lb lo k i su σ H z w hg bs tp self fm M) (hm : rd + mu S T st su i ≤ BD ∧ BD ≤ 2000000000) (h41 : me_i M 164 41 = ((i + 1 : Nat) : Int)) (g : gx P R M M') (hP : ∀ b j, P b j → kP b j) (h170 : ∀ a, ¬ P 170 a) (hR : ∀ j a, ¬ R j a) (K : STK (vt nx (me_i M 171) nn) (gi M 39) l b h1) (hh : h1 ≤ hg) (h40 : me_i M' 164 40 = (h1 : Int)) (hc : tle (σ i').1 l) (hD : ∀ q, q < m → (σ i').2 q → (σ i).2 q) (h9 : me_i M' 164 9 = (st' : Int)) (hs : st' ≤ 20000) (h17 : me_i M' 164 17 = (rd : Int)) (h12 : 0 ≤ me_i M' 164 12 ∧ me_i M' 164 12 ≤ 300) (k41 : me_i M' 164 41 = (i' : Int)) (hi : lo ≤ i' ∧ i' ≤ k) (hmu : mu S T st' su i' < mu S T st su i) : NXT p C n m cl A B nx cn ct fc fs mn V S F E T MA KA BD Mr (mu S T st su i) M' := by
  refine fin I J hm g hP (fun j a v => absurd v (hR j a)) h9 h17 h12 hs h40 (Nat.le_trans hh (Nat.le_trans J.2.1.2.1 (g.2.2.2.2.1 39 g39).1)) k41 hi (I.heap g (fun b j v => kP_sP b j (hP b j v)) fun a _ => hR 22 a) (I.stat g (fun b j v => kP_sP b j (hP b j v)) fun a _ => h170 a) (J.frd I.GA g hP (fun a => hR 24 a) hD) (STK.tle hc (J.stk I.GA g hP hh (fun a _ => hR 39 a) K)) hmu (by omega)
theorem m1_k {j0 : Nat} (h : j0 = 9 ∨ j0 = 12 ∨ j0 = 17 ∨ j0 = 29 ∨ j0 = 40 ∨ j0 = 41) : ∀ b j, m1 j0 b j → kP b j := fun b j v => Or.inl ⟨v.1, by rw [v.2]; exact h⟩
theorem FX.hgb (J : FX B nx cn m cl S F E T nn u b lb lo k i su σ H z w hg bs tp self fm M) : hg < 99000 := by
  have := J.2.2.2.2.1.len
  have := J.2.2.1.1.2.2.1 i J.2.2.1.2.1 J.2.2.1.2.2
  have := J.2.2.2.2.2.1.2.2.1
  have := J.2.1.1
  omega
/-- a push that ends an act -/
theorem push_fin {t x : Int} {r : List Int} {K : Nat → me_M → Prop} (EV : EVN m cl B nx cn ct fc fs V S F E T MA KA) (I : BA p C n m cl A B nx cn ct fc fs mn V S F E T MA KA Mr nn fu st rd M) (J : FX B nx cn m cl S F E T nn u b lb lo k i su σ H z w hg bs tp self fm M) (hm : rd + mu S T st su i ≤ BD ∧ BD ≤ 2000000000) (h41 : me_i M 164 41 = ((i + 1 : Nat) : Int)) (hx : vt nx (me_i M 171) nn t (Int32.ofInt x).toInt) (hc : tle (σ (i + 1)).1 (t :: (σ i).1)) (hD : ∀ q, q < m → (σ (i + 1)).2 q → (σ i).2 q) (hik : i < k) (h16 : ¬ S i = 16) (hd : 6 ≤ d) : ∃ d', d = d' + 1 ∧ me_W (mt_G N X) 408 d' 0 [some (.inr (.inl (some 164, 25, 0))), some (.inl x)] [] M (sx_qV (fun M' => NXT p C n m cl A B nx cn ct fc fs mn V S F E T MA KA BD Mr (mu S T st su i) M') K) := by
  refine push_w I.GA J.1.2.2.1 J.hgb (by omega) fun M' ps => ?_
  obtain ⟨p1, p2, p3, p4⟩ := ps
  have e : ∀ j, ¬ j = 40 → me_i M' 164 j = me_i M 164 j := fun j hj => p1.i4 I.GA fun v => hj v.2
  exact nxt_push EV I J hm h41 p1 (m1_k (by omega)) (fun a v => absurd v.1 (by decide)) (fun j a v => ⟨v.1, by have := v.2; omega⟩) J.2.2.2.2.1 (Nat.le_refl _) p2 p3 p4 hx hc hD ((e 9 (by decide)).trans I.2.2.2.2.2.2.1.2.2.1) ((e 17 (by decide)).trans I.2.2.2.2.2.2.1.2.2.2) (e 12 (by decide)) ((e 41 (by decide)).trans h41) hik h16 (by omega)
/-- the act is c, as the classes tell -/
theorem vt_n {x0 v0 : Int} {oc : Nat → Int} (h : x0 = 0 ∨ x0 = 1 ∨ x0 = 3 ∨ x0 = 2 ∧ v0 = 0) : vt nx oc nn x0 v0 := by
  rcases h with h | h | h | ⟨h1, h2⟩
  · exact vt.any (Or.inl h)
  · exact vt.any (Or.inr (Or.inl h))
  · exact vt.any (Or.inr (Or.inr h))
  · rw [h2]
    exact vt.zero
theorem v_1 (EV : EVN m cl B nx cn ct fc fs V S F E T MA KA) (I : BA p C n m cl A B nx cn ct fc fs mn V S F E T MA KA Mr nn fu st rd M) (J : FX B nx cn m cl S F E T nn u b lb lo k i su σ H z w hg bs tp self fm M) (hm : rd + mu S T st su i ≤ BD ∧ BD ≤ 2000000000) (h41 : me_i M 164 41 = ((i + 1 : Nat) : Int)) (hik : i < k) (cx0 : H i < m ∧ (B 4 (H i) = 0 → up nx z (hkn B cn (H i))) ∧ (B 0 (H i) = 2 → w = (H i : Int))) {y : cx} (hc : cle (σ (i + 1)) y) (hs : S i = 1) (h2 : y.2 = (σ i).2) {t : Int} (e : y.1 = t :: (σ i).1) (ht : t = 0 ∨ t = 1 ∨ t = 3 ∨ t = 2 ∧ F i = 0) (hd : 8 ≤ d) : ∃ d', d = d' + 1 ∧ me_W (mt_G N X) 408 d' 0 [some (.inr (.inl (some 164, 25, 0))), some (.inl (F i))] [] M (sx_qV (fun M' => NXT p C n m cl A B nx cn ct fc fs mn V S F E T MA KA BD Mr (mu S T st su i) M') (fun e M' => e = 167 ∧ RBS Mr M')) := by
  refine push_fin (t := t) (r := []) EV I J hm h41 (vt_n (ht.imp id (Or.imp id (Or.imp id fun v => ⟨v.1, by rw [v.2]; rfl⟩)))) (by rw [← e]; exact hc.1) (fun q _ v => by rw [← h2]; exact hc.2 q v) hik (by omega) (by omega)
theorem selfv (EV : EVN m cl B nx cn ct fc fs V S F E T MA KA) (I : BA p C n m cl A B nx cn ct fc fs mn V S F E T MA KA Mr nn fu st rd M) (J : FX B nx cn m cl S F E T nn u b lb lo k i su σ H z w hg bs tp self fm M) (hm : rd + mu S T st su i ≤ BD ∧ BD ≤ 2000000000) (h41 : me_i M 164 41 = ((i + 1 : Nat) : Int)) (hik : i < k) (cx0 : H i < m ∧ (B 4 (H i) = 0 → up nx z (hkn B cn (H i))) ∧ (B 0 (H i) = 2 → w = (H i : Int))) (h4 : B 4 (H i) = 0) : ∃ v : Nat, self = (v : Int) ∧ 1 ≤ v ∧ v ≤ nn ∧ up nx (me_i M 171 v) (hkn B cn (H i)) := by
  have a := cx0.2.1 h4
  have zp := a.pos
  obtain ⟨v, v1, v2, v3, v4⟩ := J.2.2.2.1.1 zp
  exact ⟨v, v1, v2, v3, v4.tr a⟩
theorem v_2 (EV : EVN m cl B nx cn ct fc fs V S F E T MA KA) (I : BA p C n m cl A B nx cn ct fc fs mn V S F E T MA KA Mr nn fu st rd M) (J : FX B nx cn m cl S F E T nn u b lb lo k i su σ H z w hg bs tp self fm M) (hm : rd + mu S T st su i ≤ BD ∧ BD ≤ 2000000000) (h41 : me_i M 164 41 = ((i + 1 : Nat) : Int)) (hik : i < k) (cx0 : H i < m ∧ (B 4 (H i) = 0 → up nx z (hkn B cn (H i))) ∧ (B 0 (H i) = 2 → w = (H i : Int))) {y : cx} (hc : cle (σ (i + 1)) y) (hs : S i = 2) (h2 : y.2 = (σ i).2) (h4 : B 4 (H i) = 0) (e : y.1 = (10 + (hkn B cn (H i) : Int)) :: (σ i).1) (hd : 8 ≤ d) : ∃ d', d = d' + 1 ∧ me_W (mt_G N X) 408 d' 0 [some (.inr (.inl (some 164, 25, 0))), some (.inl (me_i M 164 28))] [] M (sx_qV (fun M' => NXT p C n m cl A B nx cn ct fc fs mn V S F E T MA KA BD Mr (mu S T st su i) M') (fun e M' => e = 167 ∧ RBS Mr M')) := by
  obtain ⟨v, v1, v2, v3, v4⟩ := selfv EV I J hm h41 hik cx0 h4
  have nb := I.2.2.2.2.2.2.2.1
  refine push_fin (t := 10 + (hkn B cn (H i) : Int)) (r := []) EV I J hm h41 ?_ (by rw [← e]; exact hc.1) (fun q _ v => by rw [← h2]; exact hc.2 q v) hik (by omega) (by omega)
  rw [J.1.2.2.2.2.2.1, v1, me_to ⟨by omega, by omega⟩]
  refine ⟨fun _ => Or.inr ⟨v, rfl, v2, v3, ?_⟩, fun q => by omega⟩
  rw [show 10 + (hkn B cn (H i) : Int) - 10 = (hkn B cn (H i) : Int) by omega]
  exact v4
/-- a value is read -/
theorem read_fin {t x : Int} (EV : EVN m cl B nx cn ct fc fs V S F E T MA KA) (I : BA p C n m cl A B nx cn ct fc fs mn V S F E T MA KA Mr nn fu st rd M) (J : FX B nx cn m cl S F E T nn u b lb lo k i su σ H z w hg bs tp self fm M) (hm : rd + mu S T st su i ≤ BD ∧ BD ≤ 2000000000) (h41 : me_i M 164 41 = ((i + 1 : Nat) : Int)) (ht : t = 0 ∨ t = 1) (hc : tle (σ (i + 1)).1 (t :: (σ i).1)) (hD : ∀ q, q < m → (σ (i + 1)).2 q → (σ i).2 q) (hik : i < k) (h16 : ¬ S i = 16) (hd : 6 ≤ d) : ∃ d', d = d' + 1 ∧ me_W (mt_G N X) 408 d' 0 [some (.inr (.inl (some 164, 25, 0))), some (.inl x)] [] M (sx_qV (fun M10 => let M13 : me_M := me_sI M10 164 17 (Int32.ofInt (me_i M10 164 17 + 1)); NXT p C n m cl A B nx cn ct fc fs mn V S F E T MA KA BD Mr (mu S T st su i) M13) (fun e M' => e = 167 ∧ RBS Mr M')) := by
  refine push_w I.GA J.1.2.2.1 J.hgb (by omega) fun M10 ps => ?_
  obtain ⟨p1, p2, p3, p4⟩ := ps
  intro M13
  have e : ∀ j, ¬ j = 40 → me_i M10 164 j = me_i M 164 j := fun j hj => p1.i4 I.GA fun v => hj v.2
  have h17 := (e 17 (by decide)).trans I.2.2.2.2.2.2.1.2.2.2
  obtain ⟨c1, c2, c3⟩ := cell1 (M1 := M13) (j0 := 17) (x := me_i M10 164 17 + 1) p1.GA rfl
  have hr : me_r ((rd : Int) + 1) := ⟨by omega, by omega⟩
  rw [h17, me_to hr] at c3
  clear_value M13
  have f : ∀ j, ¬ j = 40 → ¬ j = 17 → me_i M13 164 j = me_i M 164 j := fun j hj hj2 => (c2.i fun v => hj2 v.2).trans (e j hj)
  have g : gx (fun b j => m1 40 b j ∨ m1 17 b j) (fun j a => j = 39 ∧ a = hg) M M13 := (p1.mo (fun b j v => Or.inl v) fun _ _ v => v).tr (c1.mo (fun b j v => Or.inr v) no2_mo)
  exact nxt_push (rd' := rd + 1) EV I J hm h41 g (fun b j v => v.elim (m1_k (by omega) b j) (m1_k (by omega) b j)) (fun a v => v.elim (fun v => absurd v.1 (by decide)) fun v => absurd v.1 (by decide)) (fun j a v => ⟨v.1, Nat.le_of_eq v.2.symm⟩) J.2.2.2.2.1 (Nat.le_refl _) ((c2.i fun v => absurd v.2 (by decide)).trans p2) ((c1.g g39 p4 fun v => v).trans p3) (Nat.lt_of_lt_of_le p4 (c1.2.2.2.2.1 39 g39).1) (vt.any (ht.imp id Or.inl)) hc hD ((f 9 (by decide) (by decide)).trans I.2.2.2.2.2.2.1.2.2.1) c3 (f 12 (by decide) (by decide)) ((f 41 (by decide) (by decide)).trans h41) hik h16 (Nat.le_refl _)
theorem v_3 {Q : me_Q} (EV : EVN m cl B nx cn ct fc fs V S F E T MA KA) (I : BA p C n m cl A B nx cn ct fc fs mn V S F E T MA KA Mr nn fu st rd M) (J : FX B nx cn m cl S F E T nn u b lb lo k i su σ H z w hg bs tp self fm M) (hm : rd + mu S T st su i ≤ BD ∧ BD ≤ 2000000000) (h41 : me_i M 164 41 = ((i + 1 : Nat) : Int)) (hik : i < k) (cx0 : H i < m ∧ (B 4 (H i) = 0 → up nx z (hkn B cn (H i))) ∧ (B 0 (H i) = 2 → w = (H i : Int))) {y : cx} (hc : cle (σ (i + 1)) y) (hs : S i = 3) (h2 : y.2 = (σ i).2) {t : Int} (e : y.1 = t :: (σ i).1) (ht : t = 0 ∨ t = 1) (hd : 8 ≤ d) : me_r (me_i M 164 17) ∧ me_r (me_i M 164 18) ∧ (me_i M 164 18 ≤ me_i M 164 17 → ∃ d', d = d' + 1 ∧ me_W (mt_G N X) 408 d' 0 [some (.inr (.inl (some 164, 25, 0))), some (.inl 0)] [] M (sx_qV (fun M10 => let M13 : me_M := me_sI M10 164 17 (Int32.ofInt (me_i M10 164 17 + 1)); NXT p C n m cl A B nx cn ct fc fs mn V S F E T MA KA BD Mr (mu S T st su i) M13) (fun e M' => e = 167 ∧ RBS Mr M'))) ∧ (me_i M 164 17 < me_i M 164 18 → ∀ n14 : Nat, (∀ b, me_p M 164 16 = some b → M.2.1 b = (0, n14)) → me_dr (me_p M 164 16) (fun b15 => 0 ≤ me_i M 164 17 ∧ me_i M 164 17 < ((n14 : Nat) : Int) ∧ ∃ d', d = d' + 1 ∧ me_W (mt_G N X) 408 d' 0 [some (.inr (.inl (some 164, 25, 0))), some (.inl (me_i M b15 (me_i M 164 17).toNat))] [] M (sx_qV (fun M16 => let M19 : me_M := me_sI M16 164 17 (Int32.ofInt (me_i M16 164 17 + 1)); NXT p C n m cl A B nx cn ct fc fs mn V S F E T MA KA BD Mr (mu S T st su i) M19) (fun e M' => e = 167 ∧ RBS Mr M')))) := by
  have go := fun x => read_fin (N := N) (X := X) (d := d) (x := x) EV I J hm h41 ht (by rw [← e]; exact hc.1) (fun q _ v => by rw [← h2]; exact hc.2 q v) hik (by omega) (by omega)
  obtain ⟨ra, rl, r1, r2, r3, r4⟩ := I.2.2.2.1
  have h17 := I.2.2.2.2.2.2.1.2.2.2
  refine ⟨me_i_r _ _ _, me_i_r _ _ _, fun _ => go 0, fun lt n14 hn => ?_⟩
  have e14 := hn ra r1
  rw [r3] at e14
  have : rl = n14 := congrArg Prod.snd e14
  rw [r1]
  exact dr_s ⟨by omega, by omega, go _⟩
theorem ctxm (EV : EVN m cl B nx cn ct fc fs V S F E T MA KA) (I : BA p C n m cl A B nx cn ct fc fs mn V S F E T MA KA Mr nn fu st rd M) (J : FX B nx cn m cl S F E T nn u b lb lo k i su σ H z w hg bs tp self fm M) (hm : rd + mu S T st su i ≤ BD ∧ BD ≤ 2000000000) (h41 : me_i M 164 41 = ((i + 1 : Nat) : Int)) (hik : i < k) (cx0 : H i < m ∧ (B 4 (H i) = 0 → up nx z (hkn B cn (H i))) ∧ (B 0 (H i) = 2 → w = (H i : Int))) {q : Nat} (q1 : q < m) (q2 : B 3 q = (H i : Int)) (q3 : B 0 q = 3 ∨ B 0 q = 4) : w = (H i : Int) ∧ fm = (H i : Int) ∧ H i < q ∧ bs + (q - H i - 1) < tp ∧ ((σ i).2 q → vt nx (me_i M 171) nn (B 8 q) (gi M 24 (bs + (q - H i - 1)))) := by
  obtain ⟨h', a1, a2, a3, _⟩ := EV.1.2.2.2.2.2.2.1 q q1 q3
  have e : h' = H i := by omega
  rw [e] at a2 a3
  have hw := cx0.2.2 a3
  obtain ⟨f1, f2⟩ := J.2.2.2.1.2 (H i) hw
  exact ⟨hw, f1, a2, f2 q q1 q2 q3⟩
theorem v_4 (EV : EVN m cl B nx cn ct fc fs V S F E T MA KA) (I : BA p C n m cl A B nx cn ct fc fs mn V S F E T MA KA Mr nn fu st rd M) (J : FX B nx cn m cl S F E T nn u b lb lo k i su σ H z w hg bs tp self fm M) (hm : rd + mu S T st su i ≤ BD ∧ BD ≤ 2000000000) (h41 : me_i M 164 41 = ((i + 1 : Nat) : Int)) (hik : i < k) (cx0 : H i < m ∧ (B 4 (H i) = 0 → up nx z (hkn B cn (H i))) ∧ (B 0 (H i) = 2 → w = (H i : Int))) {y : cx} (hc : cle (σ (i + 1)) y) (hs : S i = 4) (h2 : y.2 = (σ i).2) {q : Nat} (q0 : F i = (q : Int)) (q1 : q < m) (q2 : B 3 q = (H i : Int)) (q3 : B 0 q = 3 ∨ B 0 q = 4) (q4 : (σ i).2 q) (e : y.1 = B 8 q :: (σ i).1) (hd : 8 ≤ d) : ∀ n20 : Nat, (∀ b, me_p M 164 24 = some b → M.2.1 b = (0, n20)) → ∃ d', d = d' + 1 ∧ me_W (mt_G N X) 409 d' 0 [some (.inr (.inl (some 164, 25, 0))), some (.inl (F i))] [] M (sx_qI (fun y24 M21 => me_dr (me_p M 164 24) (fun b25 => 0 ≤ y24 ∧ y24 < ((n20 : Nat) : Int) ∧ ∃ d', d = d' + 1 ∧ me_W (mt_G N X) 408 d' 0 [some (.inr (.inl (some 164, 25, 0))), some (.inl (me_i M21 b25 y24.toNat))] [] M21 (sx_qV (fun M' => NXT p C n m cl A B nx cn ct fc fs mn V S F E T MA KA BD Mr (mu S T st su i) M') (fun e M' => e = 167 ∧ RBS Mr M')))) (fun e M' => e = 167 ∧ RBS Mr M')) := fun n20 hn => by
  obtain ⟨w1, w2, w3, w4, w5⟩ := ctxm EV I J hm h41 hik cx0 q1 q2 q3
  cases gn I.GA g24 hn
  refine slot_w J.1.2.2.2.1 J.1.2.2.2.2.2.2 (by omega) ?_
  have tl := J.2.1.2.2.1
  have idx : (bs : Int) + F i - fm - 1 = ((bs + (q - H i - 1) : Nat) : Int) := by
    rw [q0, w2]
    clear tl w4 w5 hn
    omega
  rw [gp I.GA g24, idx]
  refine dr_s ⟨Int.natCast_nonneg _, Int.ofNat_lt.mpr (Nat.lt_of_lt_of_le w4 tl), ?_⟩
  rw [Int.toNat_natCast]
  refine push_fin (t := B 8 q) (r := []) EV I J hm h41 ?_ (by rw [← e]; exact hc.1) (fun q _ v => by rw [← h2]; exact hc.2 q v) hik (by omega) (by omega)
  rw [me_to (me_i_r _ _ _)]
  exact w5 q4
theorem v_5 (EV : EVN m cl B nx cn ct fc fs V S F E T MA KA) (I : BA p C n m cl A B nx cn ct fc fs mn V S F E T MA KA Mr nn fu st rd M) (J : FX B nx cn m cl S F E T nn u b lb lo k i su σ H z w hg bs tp self fm M) (hm : rd + mu S T st su i ≤ BD ∧ BD ≤ 2000000000) (h41 : me_i M 164 41 = ((i + 1 : Nat) : Int)) (hik : i < k) (cx0 : H i < m ∧ (B 4 (H i) = 0 → up nx z (hkn B cn (H i))) ∧ (B 0 (H i) = 2 → w = (H i : Int))) {y : cx} (hc : cle (σ (i + 1)) y) (hs : S i = 5) (h2 : y.2 = (σ i).2) {q : Nat} (q0 : F i = (q : Int)) (q1 : q < m) (q2 : B 0 q = 1) (q3 : B 4 q = 1) (e : y.1 = B 8 q :: (σ i).1) (hd : 8 ≤ d) : 0 ≤ F i ∧ F i < ((2408 : Nat) : Int) ∧ ∃ d', d = d' + 1 ∧ me_W (mt_G N X) 408 d' 0 [some (.inr (.inl (some 164, 25, 0))), some (.inl (me_i M 170 (F i).toNat))] [] M (sx_qV (fun M' => NXT p C n m cl A B nx cn ct fc fs mn V S F E T MA KA BD Mr (mu S T st su i) M') (fun e M' => e = 167 ∧ RBS Mr M')) := by
  have m5 := EV.1.1.2
  refine ⟨by omega, by omega, ?_⟩
  rw [q0, Int.toNat_natCast]
  refine push_fin (t := B 8 q) (r := []) EV I J hm h41 ?_ (by rw [← e]; exact hc.1) (fun q _ v => by rw [← h2]; exact hc.2 q v) hik (by omega) (by omega)
  rw [me_to (me_i_r _ _ _)]
  exact I.2.2.2.2.2.1 q q1 q2 q3
/-- a field of an object: where it lies -/
theorem fld_at (EV : EVN m cl B nx cn ct fc fs V S F E T MA KA) (I : BA p C n m cl A B nx cn ct fc fs mn V S F E T MA KA Mr nn fu st rd M) {v q : Nat} {c0 : Int} (v1 : 1 ≤ v) (v2 : v ≤ nn) (hu : up nx (me_i M 171 v) c0) (q1 : q < m) (q2 : B 0 q = 1) (q3 : B 4 q = 0) (hq : ME8 B nx cn m c0 q) : ∃ c o s o' : Nat, me_i M 171 v = (c : Int) ∧ c < cl ∧ me_i M 172 v = (o : Int) ∧ OFF B nx cn ct m c s q o' ∧ o + o' < fu ∧ vt nx (me_i M 171) nn (B 8 q) (gi M 22 (o + o')) := by
  obtain ⟨i', o'', a1, a2, a3, a4⟩ := hq
  obtain ⟨c, o, c1, c2, c3, c4⟩ := I.2.2.2.2.1.2.1 v v1 v2
  have k := EV.1.cls q1 (Or.inl q2)
  rw [a1, Int.toNat_natCast, a3] at k
  have up1 := hu.tr a4
  rw [c1] at up1
  obtain ⟨_, s, us⟩ := up1
  have K : OFF B nx cn ct m c s q (gs9 nx (KF B ct m) s c + fcn B (B 3 q) q) := ⟨q1, q2, q3, us.trans k.2.2, rfl⟩
  exact ⟨c, o, s, _, c1, c2, c3, K, I.2.2.2.2.1.get v1 v2 c1 c3 K⟩
theorem v_6 (EV : EVN m cl B nx cn ct fc fs V S F E T MA KA) (I : BA p C n m cl A B nx cn ct fc fs mn V S F E T MA KA Mr nn fu st rd M) (J : FX B nx cn m cl S F E T nn u b lb lo k i su σ H z w hg bs tp self fm M) (hm : rd + mu S T st su i ≤ BD ∧ BD ≤ 2000000000) (h41 : me_i M 164 41 = ((i + 1 : Nat) : Int)) (hik : i < k) (cx0 : H i < m ∧ (B 4 (H i) = 0 → up nx z (hkn B cn (H i))) ∧ (B 0 (H i) = 2 → w = (H i : Int))) {y : cx} (hc : cle (σ (i + 1)) y) (hs : S i = 6) (h2 : y.2 = (σ i).2) {q : Nat} (q0 : F i = (q : Int)) (q1 : q < m) (q2 : B 0 q = 1) (q3 : B 4 q = 0) (h4 : B 4 (H i) = 0) (q4 : ME8 B nx cn m (hkn B cn (H i)) q) (e : y.1 = B 8 q :: (σ i).1) (hd : 8 ≤ d) : ∀ n32 : Nat, (∀ b, me_p M 164 22 = some b → M.2.1 b = (0, n32)) → ∃ d', d = d' + 1 ∧ me_W (mt_G N X) 410 d' 0 [some (.inr (.inl (some 164, 25, 0))), some (.inl (me_i M 164 28)), some (.inl (F i)), none, none, none] [] M (sx_qI (fun y36 M33 => me_dr (me_p M 164 22) (fun b37 => 0 ≤ y36 ∧ y36 < ((n32 : Nat) : Int) ∧ ∃ d', d = d' + 1 ∧ me_W (mt_G N X) 408 d' 0 [some (.inr (.inl (some 164, 25, 0))), some (.inl (me_i M33 b37 y36.toNat))] [] M33 (sx_qV (fun M' => NXT p C n m cl A B nx cn ct fc fs mn V S F E T MA KA BD Mr (mu S T st su i) M') (fun e M' => e = 167 ∧ RBS Mr M')))) (fun e M' => e = 167 ∧ RBS Mr M')) := fun n32 hn => by
  obtain ⟨v, v1, v2, v3, v4⟩ := selfv EV I J hm h41 hik cx0 h4
  obtain ⟨c, o, s, o', c1, c2, c3, c4, c5, c6⟩ := fld_at EV I v2 v3 v4 q1 q2 q3 q4
  have nb := I.2.2.2.2.2.2.2.1
  have fl := I.2.2.2.2.2.2.2.2.2
  cases gn I.GA g22 hn
  rw [J.1.2.2.2.2.2.1, v1, q0]
  refine fplace_w I.1.1 EV.1 (by omega) c1 c3 c2 c4 (by omega) ?_
  rw [gp I.GA g22]
  refine dr_s ⟨Int.natCast_nonneg _, Int.ofNat_lt.mpr (Nat.lt_of_lt_of_le c5 fl), ?_⟩
  rw [Int.toNat_natCast]
  refine push_fin (t := B 8 q) (r := []) EV I J hm h41 ?_ (by rw [← e]; exact hc.1) (fun q _ v => by rw [← h2]; exact hc.2 q v) hik (by omega) (by omega)
  rw [me_to (me_i_r _ _ _)]
  exact c6
end VAL
