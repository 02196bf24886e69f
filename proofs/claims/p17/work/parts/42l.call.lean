/-! the run: calls -/
section CALL
variable {N : Nat} {X : Nat → Int32} {d p C n m cl : Nat} {A B : Nat → Nat → Int} {nx cn ct fc fs mn : Nat → Int} {V : Nat → Nat → Prop} {S F E : Nat → Int} {T BD : Nat} {MA KA : Nat → Int} {Mr M M1 M2 M' : me_M} {P R : Nat → Nat → Prop}
variable {nn fu st rd u b lb lo k i su hg bs tp : Nat} {σ : Nat → cx} {H : Nat → Nat} {z w self fm : Int}
theorem gi_cp {x j : Nat} (G : GA M) (f : fr (cP x) M M') (hj : j ∈ gl) (a : Nat) : gi M' j a = gi M j a := by
  have e : ga M' j = ga M j := by
    unfold ga me_p
    rw [f.2.2.1]
  unfold gi
  rw [e]
  refine f.i fun v => ?_
  have := (G.1 j hj).2.2.2.1
  exact ok19x v.1 this
theorem gL_cp {x j : Nat} (f : fr (cP x) M M') : gL M' j = gL M j := by
  unfold gL ga me_p
  rw [f.2.2.1, f.2.1]
theorem FX.cp {x : Nat} (J : FX B nx cn m cl S F E T nn u b lb lo k i su σ H z w hg bs tp self fm M) (G : GA M) (f : fr (cP x) M M') : FX B nx cn m cl S F E T nn u b lb lo k i su σ H z w hg bs tp self fm M' := by
  have c : ∀ j, me_i M' 164 j = me_i M 164 j := fun j => f.i fun v => by have := v.1; omega
  have oc : ∀ v, me_i M' 171 v = me_i M 171 v := fun v => f.i fun v => by have := v.1; omega
  obtain ⟨⟨h1, h2, h3, h4, h5, h6, h7⟩, ⟨u1, u2, u3, u4⟩, h8, h9, h10, h11, h12⟩ := J
  refine ⟨⟨(c _).trans h1, (c _).trans h2, (c _).trans h3, (c _).trans h4, (c _).trans h5, (c _).trans h6, (c _).trans h7⟩, ⟨u1, by rw [gL_cp f]; exact u2, by rw [gL_cp f]; exact u3, fun j j1 j2 j3 => by rw [gL_cp f]; exact u4 j j1 j2 j3⟩, h8, h9.mo (Nat.le_refl _) (fun v _ _ => oc v) (fun a _ _ => gi_cp G f g24 a) (fun q _ v => v), h10.eq (fun t v y => y.mo (Nat.le_refl _) fun o _ _ => oc o) (fun a _ _ => gi_cp G f g39 a), h11, h12.mo (Nat.le_refl _) (fun v _ _ => oc v) (fun j v j1 j2 _ => gi_cp G f (g43 j1 (by omega)) v) (fun a _ => gi_cp G f g39 a) (fun a _ => gi_cp G f g24 a)⟩
theorem BA.cp {x : Nat} (I : BA p C n m cl A B nx cn ct fc fs mn V S F E T MA KA Mr nn fu st rd M) (g : gx (cP x) no2 M M') (f : fr (cP x) M M') (e : me_i M' 190 x = me_i M 164 49) (ch : CHO B nx cn V m cl M') : BA p C n m cl A B nx cn ct fc fs mn V S F E T MA KA Mr nn fu st rd M' := by
  have G := I.GA
  have c : ∀ j, me_i M' 164 j = me_i M 164 j := fun j => f.i fun v => by have := v.1; omega
  have oc : ∀ b v, b = 171 ∨ b = 172 ∨ b = 170 → me_i M' b v = me_i M b v := fun b v hb => f.i fun q => by have := q.1; omega
  have cr : ∀ b j, cP x b j → rP b j := fun b j v => by
    have := v.1
    unfold rP
    omega
  obtain ⟨h1, ⟨b1, b2, b3⟩, h3, ⟨ra, rl, r1, r2, r3, r4⟩, h5, h6, ⟨s1, s2, s3, s4⟩, t1, t2, t3⟩ := I
  refine ⟨h1.gx g cr fun j a v => v.elim, ⟨b1.tr (g.mo cr no2_mo), by rw [c]; exact b2, fun a a1 => ?_⟩, ch, ⟨ra, rl, ?_, r2, ?_, by rw [c]; exact r4⟩, h5.eq (fun v _ _ => ⟨oc 171 v (by omega), oc 172 v (by omega)⟩) (fun a _ => gi_cp G f g22 a), h6.mo (Nat.le_refl _) (fun v _ _ => oc 171 v (by omega)) (fun q _ => oc 170 q (by omega)), ⟨(c _).trans s1, (c _).trans s2, (c _).trans s3, (c _).trans s4⟩, t1, t2, by rw [gL_cp f]; exact t3⟩
  · rw [c]
    by_cases ea : a = x
    · rw [ea, e]
      exact Int.le_refl _
    · rw [f.i fun v => ea v.2]
      exact b3 a a1
  · unfold me_p at r1 ⊢
    rw [f.2.2.1]
    exact r1
  · rw [f.2.1]
    exact r3
/-- a method that is found in a class is called as the one that is meant -/
theorem chs_is {c a q : Nat} (CFH : CF B nx cn ct fc fs V m cl) (ha : a < m) (h2 : B 0 a = 2) (Z : CHS B nx cn V m c a q) : q < m ∧ B 0 q = 2 ∧ B 8 q = B 8 a ∧ B 9 q = B 9 a ∧ (∀ i : Nat, (i : Int) < B 9 a → B 8 (q + 1 + i) = B 8 (a + 1 + i)) ∧ (q = a ∨ up nx c (hkn B cn q)) := by
  obtain ⟨z1, z2⟩ := Z
  rcases z2 with z2 | ⟨z2, z3, z4⟩
  · rw [z2]
    exact ⟨ha, h2, rfl, rfl, fun _ _ => rfl, Or.inl rfl⟩
  · obtain ⟨_, _, v3, v4, v5, _⟩ := CFH.2.2.2.2.2.2.2.2.2.2.2.2 q a z1 ha z2 h2 z3
    exact ⟨z1, z2, v3, v4, fun i i1 => v5 i (by omega), Or.inr z4⟩
/-- from the act to the method's begin -/
theorem go_in {q be bn : Nat} {ob x3 x4 : Int} {r l : List Int} (EV : EVN m cl B nx cn ct fc fs V S F E T MA KA) (I : BA p C n m cl A B nx cn ct fc fs mn V S F E T MA KA Mr nn fu st rd M) (J : FX B nx cn m cl S F E T nn u b lb lo k i su σ H z w hg bs tp self fm M) (hm : rd + mu S T st su i ≤ BD ∧ BD ≤ 2000000000) (h41 : me_i M 164 41 = ((i + 1 : Nat) : Int)) (hik : i < k) (cx0 : H i < m ∧ (B 4 (H i) = 0 → up nx z (hkn B cn (H i))) ∧ (B 0 (H i) = 2 → w = (H i : Int))) {y : cx} (hc : cle (σ (i + 1)) y) (hs : S i = 14) (h2 : y.2 = (σ i).2) (e : y.1 = B 8 q :: r) (Kl : STK (vt nx (me_i M 171) nn) (gi M 39) l.reverse (bn + be) hg) (Kr : STK (vt nx (me_i M 171) nn) (gi M 39) r b bn) (qm : q < m) (q2 : B 0 q = 2) (q9 : B 9 q = (l.length : Int)) (hbe : be ≤ 1) (ar : ∀ (i : Nat) (t : Int), l[i]? = some t → fit nx t (B 8 (q + 1 + i))) (rob : me_r ob) (hob : B 4 q = 0 → ∃ v : Nat, ob = (v : Int) ∧ 1 ≤ v ∧ v ≤ nn ∧ up nx (me_i M 171 v) (hkn B cn q)) (e3 : x3 = (l.length : Int)) (e4 : x4 = (be : Int)) (hd : 14 ≤ d) : ∃ d', d = d' + 1 ∧ me_W (mt_G N X) 418 d' 0 [some (.inr (.inl (some 164, 25, 0))), some (.inl (q : Int)), some (.inl ob), some (.inl x3), some (.inl x4), none] [] M (sx_qV (fun M' => NXT p C n m cl A B nx cn ct fc fs mn V S F E T MA KA BD Mr (mu S T st su i) M') (fun e M' => e = 167 ∧ RBS Mr M')) := by
  have ll := Kl.len
  rw [List.length_reverse] at ll
  have pkk := J.2.2.1.1.1
  obtain ⟨sc, bb, ⟨pk, hpc1, hpc2⟩, fd, Ks, fb, ch⟩ := id J
  refine enter_w (na := l.length) EV I sc h41 bb pk ⟨by omega, by omega⟩ (fd.mo (Nat.le_refl _) (fun _ _ _ => rfl) (fun _ _ _ => rfl) fun q _ v => by rw [← h2]; exact hc.2 q v) fb ch (by rw [← e]; exact hc.1) Kr qm q2 q9 hbe (by omega) (fun j j1 => ?_) rob hob e3 e4 (by omega) fun M' lo' k' bs' tp' σ' H' lt I' J' e41 => ?_
  · obtain ⟨t, ht⟩ : ∃ t, l[j]? = some t := ⟨l[j], List.getElem?_eq_getElem j1⟩
    exact (Kl.rev j t ht).fit (ar j t ht)
  · have mc := mu_call (S := S) (T := T) (st := st) (su := su) (i := i) (j := lo') (by omega) (by omega) lt
    exact ⟨_, mc, nn, fu, st + 1, rd, u + 1, bn, tp, lo', k', lo', su + (T - (i + 1)), bn, bs', tp', σ', H', zf B cn q, (q : Int), ob, (q : Int), I', J', e41, rfl, by omega⟩
/-- the method is looked for, and entered -/
theorem find_in {q be bn v : Nat} {bi x3 : Int} {r l : List Int} (EV : EVN m cl B nx cn ct fc fs V S F E T MA KA) (I : BA p C n m cl A B nx cn ct fc fs mn V S F E T MA KA Mr nn fu st rd M) (J : FX B nx cn m cl S F E T nn u b lb lo k i su σ H z w hg bs tp self fm M) (hm : rd + mu S T st su i ≤ BD ∧ BD ≤ 2000000000) (h41 : me_i M 164 41 = ((i + 1 : Nat) : Int)) (hik : i < k) (cx0 : H i < m ∧ (B 4 (H i) = 0 → up nx z (hkn B cn (H i))) ∧ (B 0 (H i) = 2 → w = (H i : Int))) {y : cx} (hc : cle (σ (i + 1)) y) (hs : S i = 14) (h2 : y.2 = (σ i).2) (e : y.1 = B 8 q :: r) (Kl : STK (vt nx (me_i M 171) nn) (gi M 39) l.reverse (bn + be) hg) (Kr : STK (vt nx (me_i M 171) nn) (gi M 39) r b bn) (q0 : F i = (q : Int)) (qm : q < m) (q2 : B 0 q = 2) (q9 : B 9 q = (l.length : Int)) (hbe : be ≤ 1) (ebi : bi = (be : Int)) (ar : ∀ (i : Nat) (t : Int), l[i]? = some t → fit nx t (B 8 (q + 1 + i))) (v1 : 1 ≤ v) (v2 : v ≤ nn) (v3 : up nx (me_i M 171 v) (hkn B cn q)) (e3 : x3 = (l.length : Int)) (hd : 16 ≤ d) : ∃ d', d = d' + 1 ∧ me_W (mt_G N X) 420 d' 0 [some (.inr (.inl (some 164, 25, 0))), some (.inl (F i)), some (.inl (me_i M 171 v)), none, none, none, none, none, none] [] M (sx_qI (fun y5 M2 => me_r bi ∧ (bi = 0 → ∃ d', d = d' + 1 ∧ me_W (mt_G N X) 418 d' 0 [some (.inr (.inl (some 164, 25, 0))), some (.inl y5), some (.inl (v : Int)), some (.inl x3), some (.inl 0), none] [] M2 (sx_qV (fun M' => NXT p C n m cl A B nx cn ct fc fs mn V S F E T MA KA BD Mr (mu S T st su i) M') (fun e M' => e = 167 ∧ RBS Mr M'))) ∧ (¬ bi = 0 → ∃ d', d = d' + 1 ∧ me_W (mt_G N X) 418 d' 0 [some (.inr (.inl (some 164, 25, 0))), some (.inl y5), some (.inl (v : Int)), some (.inl x3), some (.inl 1), none] [] M2 (sx_qV (fun M' => NXT p C n m cl A B nx cn ct fc fs mn V S F E T MA KA BD Mr (mu S T st su i) M') (fun e M' => e = 167 ∧ RBS Mr M')))) (fun e M' => e = 167 ∧ RBS Mr M')) := by
  obtain ⟨c, o, c1, c2, _⟩ := I.2.2.2.2.1.2.1 v v1 v2
  have nb := I.2.2.2.2.2.2.2.1
  rw [c1, q0]
  rw [c1] at v3
  refine chosen_w I.1.1 EV.1 c2 qm q2 (by omega) I.2.2.1 fun q' M2 Z hM ch => ?_
  obtain ⟨z1, z2, z3, z4, z5, z6⟩ := chs_is EV.1 qm q2 Z
  have up' : up nx c (hkn B cn q') := by
    rcases z6 with z6 | z6
    · rw [z6]
      exact v3
    · exact z6
  have ar' : ∀ (i : Nat) (t : Int), l[i]? = some t → fit nx t (B 8 (q' + 1 + i)) := fun i t ht => by
    have hi : i < l.length := by
      rcases Nat.lt_or_ge i l.length with z | z
      · exact z
      · rw [List.getElem?_eq_none z] at ht
        cases ht
    rw [z5 i (by omega)]
    exact ar i t ht
  have e' : y.1 = B 8 q' :: r := by rw [e, z3]
  -- at the memory M2
  have key : BA p C n m cl A B nx cn ct fc fs mn V S F E T MA KA Mr nn fu st rd M2 ∧ FX B nx cn m cl S F E T nn u b lb lo k i su σ H z w hg bs tp self fm M2 ∧ me_i M2 164 41 = ((i + 1 : Nat) : Int) ∧ (∀ o, me_i M2 171 o = me_i M 171 o) ∧ ∀ a, gi M2 39 a = gi M 39 a := by
    rcases hM with rfl | ⟨g, f, e9⟩
    · exact ⟨I, J, h41, fun _ => rfl, fun _ => rfl⟩
    · exact ⟨I.cp g f e9 ch, J.cp I.GA f, (f.i fun v => by have := v.1; omega).trans h41, fun o => f.i fun v => by have := v.1; omega, fun a => gi_cp I.GA f g39 a⟩
  obtain ⟨I2, J2, k41, oc2, pl2⟩ := key
  have Kl2 : STK (vt nx (me_i M2 171) nn) (gi M2 39) l.reverse (bn + be) hg := Kl.eq (fun t v y => y.mo (Nat.le_refl _) fun o _ _ => oc2 o) fun a _ _ => pl2 a
  have Kr2 : STK (vt nx (me_i M2 171) nn) (gi M2 39) r b bn := Kr.eq (fun t v y => y.mo (Nat.le_refl _) fun o _ _ => oc2 o) fun a _ _ => pl2 a
  have hob : B 4 q' = 0 → ∃ v' : Nat, (v : Int) = (v' : Int) ∧ 1 ≤ v' ∧ v' ≤ nn ∧ up nx (me_i M2 171 v') (hkn B cn q') := fun _ => ⟨v, rfl, v1, v2, by rw [oc2, c1]; exact up'⟩
  refine ⟨⟨by omega, by omega⟩, fun b0 => ?_, fun b0 => ?_⟩
  · have : be = 0 := by omega
    subst this
    exact go_in EV I2 J2 hm k41 hik cx0 hc hs h2 e' Kl2 Kr2 z1 z2 (z4.trans q9) hbe ar' ⟨by omega, by omega⟩ hob e3 rfl (by omega)
  · have : be = 1 := by omega
    subst this
    exact go_in EV I2 J2 hm k41 hik cx0 hc hs h2 e' Kl2 Kr2 z1 z2 (z4.trans q9) hbe ar' ⟨by omega, by omega⟩ hob e3 rfl (by omega)
theorem tdiv2 {n z : Nat} (h : z ≤ 1) : (2 * (n : Int) + (z : Int)).tdiv 2 = (n : Int) := by
  rw [Int.tdiv_eq_ediv_of_nonneg (by omega)]
  omega
theorem as_14 {q : Nat} {l r : List Int} {zz : Int} (EV : EVN m cl B nx cn ct fc fs V S F E T MA KA) (I : BA p C n m cl A B nx cn ct fc fs mn V S F E T MA KA Mr nn fu st rd M) (J : FX B nx cn m cl S F E T nn u b lb lo k i su σ H z w hg bs tp self fm M) (hm : rd + mu S T st su i ≤ BD ∧ BD ≤ 2000000000) (h41 : me_i M 164 41 = ((i + 1 : Nat) : Int)) (hik : i < k) (cx0 : H i < m ∧ (B 4 (H i) = 0 → up nx z (hkn B cn (H i))) ∧ (B 0 (H i) = 2 → w = (H i : Int))) {y : cx} (hc : cle (σ (i + 1)) y) (hs : S i = 14) (h2 : y.2 = (σ i).2) (q0 : F i = (q : Int)) (qm : q < m) (q2 : B 0 q = 2) (q9 : (l.length : Int) = B 9 q) (ar : ∀ (i : Nat) (t : Int), l[i]? = some t → fit nx t (B 8 (q + 1 + i))) (ee : E i = 2 * (l.length : Int) + zz ∧ (zz = 0 ∨ zz = 1)) (hx : B 4 q = 1 ∧ (σ i).1 = l.reverse ++ r ∨ B 4 q = 0 ∧ zz = 0 ∧ B 4 (H i) = 0 ∧ ME8 B nx cn m (hkn B cn (H i)) q ∧ (σ i).1 = l.reverse ++ r ∨ B 4 q = 0 ∧ zz = 1 ∧ ∃ t, 10 ≤ t ∧ ME8 B nx cn m (t - 10) q ∧ (σ i).1 = l.reverse ++ t :: r) (e : y.1 = B 8 q :: r) (hd : 18 ≤ d) : me_W (mt_G N X) 417 d 0 [some (.inr (.inl (some 164, 25, 0))), some (.inl (F i)), some (.inl (E i)), none, none, none] [] M (sx_qV (fun M' => NXT p C n m cl A B nx cn ct fc fs mn V S F E T MA KA BD Mr (mu S T st su i) M') (fun e M' => e = 167 ∧ RBS Mr M')) := by
  have m5 := EV.1.1.2
  have b9 := (EV.1.2.2.2.2.2.2.2.2.1 q qm q2).1
  have nb := I.2.2.2.2.2.2.2.1
  have Ks := J.2.2.2.2.1
  have bb := EV.1.2.2.2.2.2.2.2.1 q qm
  have td : (E i).tdiv 2 = (l.length : Int) := by
    obtain ⟨e1, e2⟩ := ee
    rcases e2 with z | z
    · rw [e1, z]
      exact tdiv2 (n := l.length) (z := 0) (by omega)
    · rw [e1, z]
      exact tdiv2 (n := l.length) (z := 1) (by omega)
  have rE : me_r (E i) := ⟨by omega, by omega⟩
  have r2 : me_r 2 := ⟨by omega, by omega⟩
  have b29 : me_i M (p + 29) q = B 4 q := I.1.1.1.2.2.2.2.1 4 q (by omega)
  have toc : ∀ {c0 : Int}, ME8 B nx cn m c0 q → ∀ {v : Nat}, up nx (me_i M 171 v) c0 → up nx (me_i M 171 v) (hkn B cn q) := fun hq v hu => by
    obtain ⟨i', o'', a1, a2, a3, a4⟩ := hq
    have k := (EV.1.cls qm (Or.inr q2)).2.2
    rw [a1, Int.toNat_natCast, a3] at k
    rw [← k]
    exact hu.tr a4
  refine b417_0 ⟨rE, r2, by omega, ?_⟩
  rw [I.1.1.1.2.1, q0, td]
  refine dr_s ⟨by omega, by omega, ?_⟩
  rw [Int.toNat_natCast, b29]
  refine fun b4 => ⟨⟨by omega, by omega⟩, fun z4 => ?_, fun z4 => ?_⟩
  · -- a method of an object
    rcases hx with hx | ⟨_, x1, x2, x3, x4⟩ | ⟨_, x1, t, x2, x3, x4⟩
    · have := hx.1
      omega
    · -- of self
      refine ⟨rE, r2, by omega, ⟨by omega, by omega⟩, ⟨by omega, by omega⟩, fun _ => ⟨⟨by omega, by omega⟩, fun _ => ⟨me_i_r _ _ _, fun nz => ?_, fun zs => ?_⟩, fun nn0 => absurd rfl nn0⟩, fun one => by omega⟩
      · obtain ⟨v, v1, v2, v3, v4⟩ := selfv EV I J hm h41 hik cx0 x2
        rw [x4] at Ks
        obtain ⟨bn, k1, k2⟩ := Ks.app
        rw [J.1.2.2.2.2.2.1, v1, Int.toNat_natCast]
        refine ⟨by omega, by omega, ?_⟩
        rw [← q0]
        exact find_in (be := 0) EV I J hm h41 hik cx0 hc hs h2 e k1 k2 q0 qm q2 q9.symm (by omega) rfl ar v2 v3 (toc x3 v4) rfl (by omega)
      · obtain ⟨v, v1, v2, v3, v4⟩ := selfv EV I J hm h41 hik cx0 x2
        rw [J.1.2.2.2.2.2.1, v1] at zs
        omega
    · -- of an object on the pile
      refine ⟨rE, r2, by omega, ⟨by omega, by omega⟩, ⟨by omega, by omega⟩, fun no => by omega, fun one => ⟨⟨by omega, by omega⟩, fun zo => absurd zo (by decide), fun _ => ?_⟩⟩
      rw [x4] at Ks
      obtain ⟨b1, k1, k2⟩ := Ks.app
      obtain ⟨bn, y1, y2, y3⟩ := k2
      have ll := k1.len
      rw [List.length_reverse] at ll
      have lt39 : bn < gL M 39 := Nat.lt_of_lt_of_le (by omega) J.2.1.2.1
      intro n73 hn
      cases gn I.GA g39 hn
      rw [gp I.GA g39, J.1.2.2.1, show (hg : Int) - (l.length : Int) - 1 = (bn : Int) by omega]
      refine dr_s ⟨Int.natCast_nonneg _, Int.ofNat_lt.mpr lt39, me_i_r _ _ _, ?_, fun _ => fail_w (by omega) I.2.1⟩
      rw [Int.toNat_natCast]
      intro nz
      rcases y2.1 x2 with zz' | ⟨v, v1, v2, v3, v4⟩
      · exact absurd zz' nz
      have v1 : me_i M (ga M 39) bn = (v : Int) := v1
      rw [v1, Int.toNat_natCast]
      refine ⟨by omega, by omega, ?_⟩
      rw [← q0]
      exact find_in (be := 1) EV I J hm h41 hik cx0 hc hs h2 e (by rw [← y1]; exact k1) y3 q0 qm q2 q9.symm (by omega) rfl ar v2 v3 (toc x3 v4) rfl (by omega)
  · -- a static method
    rcases hx with ⟨_, x4⟩ | ⟨x0, _⟩ | ⟨x0, _⟩
    · rw [x4] at Ks
      obtain ⟨bn, k1, k2⟩ := Ks.app
      exact go_in (be := 0) EV I J hm h41 hik cx0 hc hs h2 e k1 k2 qm q2 q9.symm (by omega) ar ⟨by omega, by omega⟩ (fun z => absurd z z4) rfl rfl (by omega)
    · exact absurd x0 z4
    · exact absurd x0 z4
end CALL
