/-! the run: values, the rest -/
section VAL2
variable {N : Nat} {X : Nat → Int32} {d p C n m cl : Nat} {A B : Nat → Nat → Int} {nx cn ct fc fs mn : Nat → Int} {V : Nat → Nat → Prop} {S F E : Nat → Int} {T BD : Nat} {MA KA : Nat → Int} {Mr M M1 M2 M' : me_M} {P R : Nat → Nat → Prop}
variable {nn fu st rd u b lb lo k i su hg bs tp : Nat} {σ : Nat → cx} {H : Nat → Nat} {z w self fm : Int}
/-- only the height changed -/
theorem BA.low {h1 : Nat} (I : BA p C n m cl A B nx cn ct fc fs mn V S F E T MA KA Mr nn fu st rd M) (P1 : pul M M1 h1) : BA p C n m cl A B nx cn ct fc fs mn V S F E T MA KA Mr nn fu st rd M1 := by
  obtain ⟨g, f, e⟩ := P1
  have s : ∀ b j, m1 40 b j → sP b j := fun b j v => kP_sP b j (m1_k (by omega) b j v)
  exact I.go g s (fun j a v => v.elim) ((f.i fun v => absurd v.2 (by decide)).trans I.2.2.2.2.2.2.1.2.2.1) ((f.i fun v => absurd v.2 (by decide)).trans I.2.2.2.2.2.2.1.2.2.2) (by rw [f.i fun v => absurd v.2 (by decide)]; exact I.2.1.2.1) I.2.2.2.2.2.2.2.2.1 (I.heap g s fun a _ v => v) (I.stat g s fun a _ v => absurd v.1 (by decide))
theorem pul_oc {h1 : Nat} (P1 : pul M M1 h1) : me_i M1 171 = me_i M 171 := by
  funext v
  exact P1.2.1.i fun v => absurd v.1 (by decide)
/-- fails, in a call -/
theorem fail_w {x1 : Int} {K : me_M → Prop} (hd : 1 ≤ d) (I : RBS Mr M) : ∃ d', d = d' + 1 ∧ me_W (mt_G N X) 412 d' 0 [some (.inr (.inl (some 164, 25, 0))), some (.inl x1)] [] M (sx_qV K (fun e M' => e = 167 ∧ RBS Mr M')) := fails_w hd fun M' f => ⟨rfl, I.fail f⟩
/-- the top of the pile, and below -/
theorem FX.top {t : Int} {r : List Int} (J : FX B nx cn m cl S F E T nn u b lb lo k i su σ H z w hg bs tp self fm M) (e : (σ i).1 = t :: r) : ∃ h1, hg = h1 + 1 ∧ h1 < gL M 39 ∧ b ≤ h1 ∧ vt nx (me_i M 171) nn t (gi M 39 h1) ∧ STK (vt nx (me_i M 171) nn) (gi M 39) r b h1 := by
  have K := J.2.2.2.2.1
  rw [e] at K
  obtain ⟨h1, a1, a2, a3⟩ := K
  have := a3.len
  exact ⟨h1, a1, Nat.lt_of_lt_of_le (by omega) J.2.1.2.1, by omega, a2, a3⟩
/-- behind pulls: a push that ends an act -/
theorem push_fin2 {t x : Int} {r : List Int} {h1 : Nat} {K : Nat → me_M → Prop} (EV : EVN m cl B nx cn ct fc fs V S F E T MA KA) (I : BA p C n m cl A B nx cn ct fc fs mn V S F E T MA KA Mr nn fu st rd M) (J : FX B nx cn m cl S F E T nn u b lb lo k i su σ H z w hg bs tp self fm M) (hm : rd + mu S T st su i ≤ BD ∧ BD ≤ 2000000000) (h41 : me_i M 164 41 = ((i + 1 : Nat) : Int)) (g : gx (m1 40) no2 M M1) (f : fr (m1 40) M M1) (h40 : me_i M1 164 40 = (h1 : Int)) (Kr : STK (vt nx (me_i M 171) nn) (gi M 39) r b h1) (hh : h1 ≤ hg) (hx : vt nx (me_i M 171) nn t (Int32.ofInt x).toInt) (hc : tle (σ (i + 1)).1 (t :: r)) (hD : ∀ q, q < m → (σ (i + 1)).2 q → (σ i).2 q) (hik : i < k) (h16 : ¬ S i = 16) (hd : 6 ≤ d) : ∃ d', d = d' + 1 ∧ me_W (mt_G N X) 408 d' 0 [some (.inr (.inl (some 164, 25, 0))), some (.inl x)] [] M1 (sx_qV (fun M' => NXT p C n m cl A B nx cn ct fc fs mn V S F E T MA KA BD Mr (mu S T st su i) M') K) := by
  refine push_w g.GA h40 (Nat.lt_of_le_of_lt hh J.hgb) (by omega) fun M' ps => ?_
  obtain ⟨p1, p2, p3, p4⟩ := ps
  have e : ∀ j, ¬ j = 40 → me_i M' 164 j = me_i M 164 j := fun j hj => (p1.i4 g.GA fun v => hj v.2).trans (f.i fun v => hj v.2)
  have gg : gx (m1 40) (fun j a => j = 39 ∧ a = h1) M M' := (g.mo (fun _ _ v => v) no2_mo).tr p1
  exact nxt_push EV I J hm h41 gg (m1_k (by omega)) (fun a v => absurd v.1 (by decide)) (fun j a v => ⟨v.1, Nat.le_of_eq v.2.symm⟩) Kr hh p2 p3 p4 hx hc hD ((e 9 (by decide)).trans I.2.2.2.2.2.2.1.2.2.1) ((e 17 (by decide)).trans I.2.2.2.2.2.2.1.2.2.2) (e 12 (by decide)) ((e 41 (by decide)).trans h41) hik h16 (by omega)
theorem v_7 (EV : EVN m cl B nx cn ct fc fs V S F E T MA KA) (I : BA p C n m cl A B nx cn ct fc fs mn V S F E T MA KA Mr nn fu st rd M) (J : FX B nx cn m cl S F E T nn u b lb lo k i su σ H z w hg bs tp self fm M) (hm : rd + mu S T st su i ≤ BD ∧ BD ≤ 2000000000) (h41 : me_i M 164 41 = ((i + 1 : Nat) : Int)) (hik : i < k) (cx0 : H i < m ∧ (B 4 (H i) = 0 → up nx z (hkn B cn (H i))) ∧ (B 0 (H i) = 2 → w = (H i : Int))) {y : cx} (hc : cle (σ (i + 1)) y) (hs : S i = 7) (h2 : y.2 = (σ i).2) {q : Nat} {t : Int} {r : List Int} (q0 : F i = (q : Int)) (q1 : q < m) (q2 : B 0 q = 1) (q3 : B 4 q = 0) (ht : 10 ≤ t) (q4 : ME8 B nx cn m (t - 10) q) (ex : (σ i).1 = t :: r) (e : y.1 = B 8 q :: r) (hd : 8 ≤ d) : ∃ d', d = d' + 1 ∧ me_W (mt_G N X) 411 d' 0 [some (.inr (.inl (some 164, 25, 0)))] [] M (sx_qI (fun y44 M41 => me_r y44 ∧ (¬ y44 = 0 → ∀ n45 : Nat, (∀ b, me_p M41 164 22 = some b → M41.2.1 b = (0, n45)) → ∃ d', d = d' + 1 ∧ me_W (mt_G N X) 410 d' 0 [some (.inr (.inl (some 164, 25, 0))), some (.inl y44), some (.inl (F i)), none, none, none] [] M41 (sx_qI (fun y49 M46 => me_dr (me_p M41 164 22) (fun b50 => 0 ≤ y49 ∧ y49 < ((n45 : Nat) : Int) ∧ ∃ d', d = d' + 1 ∧ me_W (mt_G N X) 408 d' 0 [some (.inr (.inl (some 164, 25, 0))), some (.inl (me_i M46 b50 y49.toNat))] [] M46 (sx_qV (fun M' => NXT p C n m cl A B nx cn ct fc fs mn V S F E T MA KA BD Mr (mu S T st su i) M') (fun e M' => e = 167 ∧ RBS Mr M')))) (fun e M' => e = 167 ∧ RBS Mr M'))) ∧ (y44 = 0 → ∃ d', d = d' + 1 ∧ me_W (mt_G N X) 412 d' 0 [some (.inr (.inl (some 164, 25, 0))), some (.inl 1)] [] M41 (sx_qV (fun M54 => ∀ n57 : Nat, (∀ b, me_p M54 164 22 = some b → M54.2.1 b = (0, n57)) → ∃ d', d = d' + 1 ∧ me_W (mt_G N X) 410 d' 0 [some (.inr (.inl (some 164, 25, 0))), some (.inl y44), some (.inl (F i)), none, none, none] [] M54 (sx_qI (fun y61 M58 => me_dr (me_p M54 164 22) (fun b62 => 0 ≤ y61 ∧ y61 < ((n57 : Nat) : Int) ∧ ∃ d', d = d' + 1 ∧ me_W (mt_G N X) 408 d' 0 [some (.inr (.inl (some 164, 25, 0))), some (.inl (me_i M58 b62 y61.toNat))] [] M58 (sx_qV (fun M' => NXT p C n m cl A B nx cn ct fc fs mn V S F E T MA KA BD Mr (mu S T st su i) M') (fun e M' => e = 167 ∧ RBS Mr M')))) (fun e M' => e = 167 ∧ RBS Mr M'))) (fun e M' => e = 167 ∧ RBS Mr M')))) (fun e M' => e = 167 ∧ RBS Mr M')) := by
  obtain ⟨h1, a1, a2, a3, a4, a5⟩ := J.top ex
  have hb := J.hgb
  refine pull_w I.GA (J.1.2.2.1.trans (by rw [a1])) (by omega) a2 (by omega) fun M41 P1 _ => ?_
  have I1 := I.low P1
  have oc := pul_oc P1
  refine ⟨me_i_r _ _ _, fun nz n45 hn => ?_, fun _ => fail_w (by omega) I1.2.1⟩
  rcases a4.1 ht with zz | ⟨v, v1, v2, v3, v4⟩
  · exact absurd zz nz
  obtain ⟨c, o, s, o', c1, c2, c3, c4, c5, c6⟩ := fld_at EV I1 v2 v3 (by rw [oc]; exact v4) q1 q2 q3 q4
  have nb := I.2.2.2.2.2.2.2.1
  have fl := I1.2.2.2.2.2.2.2.2.2
  cases gn I1.GA g22 hn
  rw [v1, q0]
  refine fplace_w I1.1.1 EV.1 (by omega) c1 c3 c2 c4 (by omega) ?_
  rw [gp I1.GA g22]
  refine dr_s ⟨Int.natCast_nonneg _, Int.ofNat_lt.mpr (Nat.lt_of_lt_of_le c5 fl), ?_⟩
  rw [Int.toNat_natCast]
  refine push_fin2 (t := B 8 q) (r := r) EV I J hm h41 P1.1 P1.2.1 P1.2.2 a5 (by omega) ?_ (by rw [← e]; exact hc.1) (fun q _ v => by rw [← h2]; exact hc.2 q v) hik (by omega) (by omega)
  rw [me_to (me_i_r _ _ _), ← oc]
  exact c6
/-- the top of the pile is written anew -/
theorem top_fin {x t0 t : Int} {r : List Int} {y : cx} (EV : EVN m cl B nx cn ct fc fs V S F E T MA KA) (I : BA p C n m cl A B nx cn ct fc fs mn V S F E T MA KA Mr nn fu st rd M) (J : FX B nx cn m cl S F E T nn u b lb lo k i su σ H z w hg bs tp self fm M) (hm : rd + mu S T st su i ≤ BD ∧ BD ≤ 2000000000) (h41 : me_i M 164 41 = ((i + 1 : Nat) : Int)) (hc : cle (σ (i + 1)) y) (h2 : y.2 = (σ i).2) (ht : t = 0 ∨ t = 1) (ex : (σ i).1 = t0 :: r) (e : y.1 = t :: r) (hik : i < k) (h16 : ¬ S i = 16) (e1 : M1 = me_sI M (ga M 39) (hg - 1) (Int32.ofInt x)) : NXT p C n m cl A B nx cn ct fc fs mn V S F E T MA KA BD Mr (mu S T st su i) M1 := by
  obtain ⟨h1, a1, a2, a3, a4, a5⟩ := J.top ex
  rw [a1, Nat.add_sub_cancel] at e1
  obtain ⟨r1, r2, r3, r4⟩ := row1 I.GA g39 e1
  have e0 : ∀ j, me_i M1 164 j = me_i M 164 j := fun j => r2 164 j (by decide) ok164
  have h40 := J.1.2.2.1
  rw [a1] at h40
  exact nxt_push EV I J hm h41 r1 (fun b j v => v.elim) (fun a v => v) (fun j a v => ⟨v.1, Nat.le_of_eq v.2.symm⟩) a5 (by omega) ((e0 40).trans h40) r3 (by rw [r4]; exact a2) (vt.any (ht.imp id Or.inl)) (by rw [← e]; exact hc.1) (fun q _ v => by rw [← h2]; exact hc.2 q v) ((e0 9).trans I.2.2.2.2.2.2.1.2.2.1) ((e0 17).trans I.2.2.2.2.2.2.1.2.2.2) (e0 12) ((e0 41).trans h41) hik h16 (by omega)
theorem v_9 {f : Int → Int} (EV : EVN m cl B nx cn ct fc fs V S F E T MA KA) (I : BA p C n m cl A B nx cn ct fc fs mn V S F E T MA KA Mr nn fu st rd M) (J : FX B nx cn m cl S F E T nn u b lb lo k i su σ H z w hg bs tp self fm M) (hm : rd + mu S T st su i ≤ BD ∧ BD ≤ 2000000000) (h41 : me_i M 164 41 = ((i + 1 : Nat) : Int)) (hik : i < k) (cx0 : H i < m ∧ (B 4 (H i) = 0 → up nx z (hkn B cn (H i))) ∧ (B 0 (H i) = 2 → w = (H i : Int))) {y : cx} (hc : cle (σ (i + 1)) y) (hs : S i = 9 ∨ S i = 10) (h2 : y.2 = (σ i).2) {t0 t : Int} {r : List Int} (ht : t = 0 ∨ t = 1) (ex : (σ i).1 = t0 :: r) (e : y.1 = t :: r) : ∀ n69 : Nat, (∀ b, me_p M 164 39 = some b → M.2.1 b = (0, n69)) → ∀ n70 : Nat, (∀ b, me_p M 164 39 = some b → M.2.1 b = (0, n70)) → me_dr (me_p M 164 39) (fun b71 => 0 ≤ me_i M 164 40 - 1 ∧ me_i M 164 40 - 1 < ((n70 : Nat) : Int) ∧ me_dr (me_p M 164 39) (fun b72 => 0 ≤ me_i M 164 40 - 1 ∧ me_i M 164 40 - 1 < ((n69 : Nat) : Int) ∧ let M73 : me_M := me_sI M b72 (me_i M 164 40 - 1).toNat (Int32.ofInt (f (me_i M b71 (me_i M 164 40 - 1).toNat))); NXT p C n m cl A B nx cn ct fc fs mn V S F E T MA KA BD Mr (mu S T st su i) M73)) := fun n69 hn69 n70 hn70 => by
  obtain ⟨h1, a1, a2, a3, a4, a5⟩ := J.top ex
  cases gn I.GA g39 hn69
  cases gn I.GA g39 hn70
  rw [gp I.GA g39, J.1.2.2.1]
  have i1 : (hg : Int) - 1 = (h1 : Int) := by omega
  rw [i1]
  refine dr_s ⟨Int.natCast_nonneg _, Int.ofNat_lt.mpr a2, dr_s ⟨Int.natCast_nonneg _, Int.ofNat_lt.mpr a2, ?_⟩⟩
  intro M73
  exact top_fin EV I J hm h41 hc h2 ht ex e hik (by omega) (by rw [a1, Nat.add_sub_cancel]; rfl)
theorem v_11 (EV : EVN m cl B nx cn ct fc fs V S F E T MA KA) (I : BA p C n m cl A B nx cn ct fc fs mn V S F E T MA KA Mr nn fu st rd M) (J : FX B nx cn m cl S F E T nn u b lb lo k i su σ H z w hg bs tp self fm M) (hm : rd + mu S T st su i ≤ BD ∧ BD ≤ 2000000000) (h41 : me_i M 164 41 = ((i + 1 : Nat) : Int)) (hik : i < k) (cx0 : H i < m ∧ (B 4 (H i) = 0 → up nx z (hkn B cn (H i))) ∧ (B 0 (H i) = 2 → w = (H i : Int))) {y : cx} (hc : cle (σ (i + 1)) y) (hs : S i = 11) (h2 : y.2 = (σ i).2) {t0 t1 t : Int} {r : List Int} (ht : t = 0 ∨ t = 1) (ex : (σ i).1 = t0 :: t1 :: r) (e : y.1 = t :: r) (rF : me_r (F i)) (hd : 8 ≤ d) : ∃ d', d = d' + 1 ∧ me_W (mt_G N X) 411 d' 0 [some (.inr (.inl (some 164, 25, 0)))] [] M (sx_qI (fun y82 M79 => ∃ d', d = d' + 1 ∧ me_W (mt_G N X) 411 d' 0 [some (.inr (.inl (some 164, 25, 0)))] [] M79 (sx_qI (fun y86 M83 => ∃ d', d = d' + 1 ∧ me_W (mt_G N X) 416 d' 0 [some (.inr (.inl (some 164, 25, 0))), some (.inl (F i)), some (.inl y86), some (.inl y82)] [] M83 (sx_qI (fun y90 M87 => ∃ d', d = d' + 1 ∧ me_W (mt_G N X) 408 d' 0 [some (.inr (.inl (some 164, 25, 0))), some (.inl y90)] [] M87 (sx_qV (fun M' => NXT p C n m cl A B nx cn ct fc fs mn V S F E T MA KA BD Mr (mu S T st su i) M') (fun e M' => e = 167 ∧ RBS Mr M'))) (fun e M' => e = 167 ∧ RBS Mr M'))) (fun e M' => e = 167 ∧ RBS Mr M'))) (fun e M' => e = 167 ∧ RBS Mr M')) := by
  obtain ⟨h1, a1, a2, a3, a4, a5⟩ := J.top ex
  obtain ⟨h0, b1, b2, b3⟩ := a5
  have b4 := b3.len
  have hb := J.hgb
  refine pull_w I.GA (J.1.2.2.1.trans (by rw [a1])) (by omega) a2 (by omega) fun M79 P1 _ => ?_
  refine pull_w P1.1.GA (hg := h0) (P1.2.2.trans (by rw [b1])) (by omega) (Nat.lt_of_lt_of_le (by omega) (P1.1.2.2.2.2.1 39 g39).1) (by omega) fun M83 P2 _ => ?_
  have I2 := (I.low P1).low P2
  refine both_w rF (me_i_r _ _ _) (me_i_r _ _ _) (by omega) (fun M' f => ⟨rfl, I2.2.1.fail f⟩) fun y90 => ?_
  exact push_fin2 (t := t) (r := r) EV I J hm h41 (P1.1.tr P2.1) (P1.2.1.tr P2.2.1) P2.2.2 b3 (by omega) (vt.any (ht.imp id Or.inl)) (by rw [← e]; exact hc.1) (fun q _ v => by rw [← h2]; exact hc.2 q v) hik (by omega) (by omega)
/-- the next act is another -/
theorem jump_fin {j : Nat} {l : List Int} (EV : EVN m cl B nx cn ct fc fs V S F E T MA KA) (I : BA p C n m cl A B nx cn ct fc fs mn V S F E T MA KA Mr nn fu st rd M) (J : FX B nx cn m cl S F E T nn u b lb lo k i su σ H z w hg bs tp self fm M) (hm : rd + mu S T st su i ≤ BD ∧ BD ≤ 2000000000) (h41 : me_i M 164 41 = ((i + 1 : Nat) : Int)) (hl : tle (σ j).1 l) (K : STK (vt nx (me_i M 171) nn) (gi M 39) l b hg) (hD : ∀ q, q < m → (σ j).2 q → (σ i).2 q) (hj : lo ≤ j ∧ j ≤ k) (hmu : mu S T st su j < mu S T st su i) (e1 : M1 = me_sI M 164 41 (Int32.ofInt (j : Int))) : NXT p C n m cl A B nx cn ct fc fs mn V S F E T MA KA BD Mr (mu S T st su i) M1 := by
  have pk := J.2.2.1.1.1
  have tb := EV.2.1
  obtain ⟨c1, c2, c3⟩ := cell1 I.GA e1
  rw [me_to ⟨by omega, by omega⟩] at c3
  have f : ∀ j0, ¬ j0 = 41 → me_i M1 164 j0 = me_i M 164 j0 := fun j0 hj => c2.i fun v => hj v.2
  exact nxt_low EV I J hm h41 c1 (m1_k (by omega)) (fun a v => absurd v.1 (by decide)) (fun j a v => v) K (Nat.le_refl _) ((f 40 (by decide)).trans J.1.2.2.1) hl hD ((f 9 (by decide)).trans I.2.2.2.2.2.2.1.2.2.1) I.2.2.2.2.2.2.2.2.1 ((f 17 (by decide)).trans I.2.2.2.2.2.2.1.2.2.2) (by rw [f 12 (by decide)]; exact I.2.1.2.1) c3 hj hmu
/-- the pile goes down by one -/
theorem drop_fin {t : Int} {r : List Int} (EV : EVN m cl B nx cn ct fc fs V S F E T MA KA) (I : BA p C n m cl A B nx cn ct fc fs mn V S F E T MA KA Mr nn fu st rd M) (J : FX B nx cn m cl S F E T nn u b lb lo k i su σ H z w hg bs tp self fm M) (hm : rd + mu S T st su i ≤ BD ∧ BD ≤ 2000000000) (h41 : me_i M 164 41 = ((i + 1 : Nat) : Int)) (ex : (σ i).1 = t :: r) (hl : tle (σ (i + 1)).1 r) (hD : ∀ q, q < m → (σ (i + 1)).2 q → (σ i).2 q) (hik : i < k) (h16 : ¬ S i = 16) (e1 : M1 = me_sI M 164 40 (Int32.ofInt (me_i M 164 40 - 1))) : NXT p C n m cl A B nx cn ct fc fs mn V S F E T MA KA BD Mr (mu S T st su i) M1 := by
  obtain ⟨h1, a1, a2, a3, a4, a5⟩ := J.top ex
  have pk := J.2.2.1.1.1
  have hb := J.hgb
  obtain ⟨c1, c2, c3⟩ := cell1 I.GA e1
  rw [J.1.2.2.1, show (hg : Int) - 1 = (h1 : Int) by omega, me_to ⟨by omega, by omega⟩] at c3
  have f : ∀ j0, ¬ j0 = 40 → me_i M1 164 j0 = me_i M 164 j0 := fun j0 hj => c2.i fun v => hj v.2
  exact nxt_low EV I J hm h41 c1 (m1_k (by omega)) (fun a v => absurd v.1 (by decide)) (fun j a v => v) a5 (by omega) c3 hl hD ((f 9 (by decide)).trans I.2.2.2.2.2.2.1.2.2.1) I.2.2.2.2.2.2.2.2.1 ((f 17 (by decide)).trans I.2.2.2.2.2.2.1.2.2.2) (by rw [f 12 (by decide)]; exact I.2.1.2.1) ((f 41 (by decide)).trans h41) ⟨by have := J.2.2.1.2.1; omega, by omega⟩ (mu_fwd h16 (by omega) (by omega))
theorem v_12 {o : Int} (EV : EVN m cl B nx cn ct fc fs V S F E T MA KA) (I : BA p C n m cl A B nx cn ct fc fs mn V S F E T MA KA Mr nn fu st rd M) (J : FX B nx cn m cl S F E T nn u b lb lo k i su σ H z w hg bs tp self fm M) (hm : rd + mu S T st su i ≤ BD ∧ BD ≤ 2000000000) (h41 : me_i M 164 41 = ((i + 1 : Nat) : Int)) (hik : i < k) (cx0 : H i < m ∧ (B 4 (H i) = 0 → up nx z (hkn B cn (H i))) ∧ (B 0 (H i) = 2 → w = (H i : Int))) (h16 : ¬ S i = 16) {j : Nat} {t : Int} {r : List Int} (fj : F i = (j : Int)) (ij : i < j) (jk : j ≤ k) (ex : (σ i).1 = t :: r) (c1 : cle (σ (i + 1)) (r, (σ i).2)) (c2 : cle (σ j) (σ i)) (ro : me_r o) : ∀ n94 : Nat, (∀ b, me_p M 164 39 = some b → M.2.1 b = (0, n94)) → ∀ {A0 : Int → Prop}, (∀ x, me_r x → me_r o ∧ (¬ x = o → let M96 : me_M := me_sI M 164 40 (Int32.ofInt (me_i M 164 40 - 1)); NXT p C n m cl A B nx cn ct fc fs mn V S F E T MA KA BD Mr (mu S T st su i) M96) ∧ (x = o → let M97 : me_M := me_sI M 164 41 (Int32.ofInt (F i)); NXT p C n m cl A B nx cn ct fc fs mn V S F E T MA KA BD Mr (mu S T st su i) M97) → A0 x) → me_dr (me_p M 164 39) (fun b95 => 0 ≤ me_i M 164 40 - 1 ∧ me_i M 164 40 - 1 < ((n94 : Nat) : Int) ∧ A0 (me_i M b95 (me_i M 164 40 - 1).toNat)) := fun n94 hn A0 hA => by
  obtain ⟨h1, a1, a2, a3, a4, a5⟩ := J.top ex
  have pk := J.2.2.1.1.1
  cases gn I.GA g39 hn
  rw [gp I.GA g39, J.1.2.2.1]
  have i1 : (hg : Int) - 1 = (h1 : Int) := by omega
  refine dr_s ⟨by omega, by rw [i1]; exact Int.ofNat_lt.mpr a2, hA _ (me_i_r _ _ _) ⟨ro, fun _ => ?_, fun _ => ?_⟩⟩
  · intro M96
    exact drop_fin EV I J hm h41 ex c1.1 (fun q _ v => c1.2 q v) hik h16 rfl
  · intro M97
    exact jump_fin (j := j) EV I J hm h41 c2.1 J.2.2.2.2.1 (fun q _ v => c2.2 q v) ⟨by have := J.2.2.1.2.1; omega, jk⟩ (mu_fwd h16 ij (by omega)) (by rw [← fj])
end VAL2
