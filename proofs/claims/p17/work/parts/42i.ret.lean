/-! the run: coming back -/
section RET
variable {N : Nat} {X : Nat → Int32} {d p C n m cl : Nat} {A B : Nat → Nat → Int} {nx cn ct fc fs mn : Nat → Int} {V : Nat → Nat → Prop} {S F E : Nat → Int} {T BD : Nat} {MA KA : Nat → Int} {Mr M M1 M2 M' : me_M} {P R : Nat → Nat → Prop}
variable {nn fu st rd u b lb lo k i su hg bs tp : Nat} {σ : Nat → cx} {H : Nat → Nat} {z w self fm : Int}
/-- cells that coming back changes -/
def bP : Nat → Nat → Prop := fun b j => b = 164 ∧ (j = 10 ∨ 25 ≤ j ∧ j ≤ 29 ∨ 40 ≤ j ∧ j ≤ 42)
theorem bP_sP : ∀ b j, bP b j → sP b j := fun b j v => by
  unfold bP at v
  unfold sP
  omega
/-- the frame that waits goes on -/
theorem back_at {u' : Nat} (I : BA p C n m cl A B nx cn ct fc fs mn V S F E T MA KA Mr nn fu st rd M) (J : FX B nx cn m cl S F E T nn u b lb lo k i su σ H z w hg bs tp self fm M) (hu : u = u' + 1) (g : gx P R M M2) (hP : ∀ b j, P b j → bP b j) (hR : ∀ j a, R j a → j = 39 ∧ b ≤ a) (e42 : me_i M2 164 42 = (u' : Int)) (e10 : me_i M2 164 10 = (u' : Int)) (e41 : me_i M2 164 41 = gi M 43 u') (e25 : me_i M2 164 25 = gi M 44 u') (e26 : me_i M2 164 26 = gi M 45 u') (e27 : me_i M2 164 27 = gi M 46 u') (e28 : me_i M2 164 28 = gi M 47 u') : ∃ (lo' k' pc b' lb' su' bs' tp' : Nat) (σ' : Nat → cx) (H' : Nat → Nat) (z' w' : Int) (r : List Int), me_i M2 164 41 = (pc : Int) ∧ su = su' + (T - pc) ∧ tle (σ' pc).1 (rtt B z w :: r) ∧ STK (vt nx (me_i M2 171) nn) (gi M2 39) r b' b ∧ ∀ hg' : Nat, me_i M2 164 40 = (hg' : Int) → hg' ≤ gL M2 39 → STK (vt nx (me_i M2 171) nn) (gi M2 39) (σ' pc).1 b' hg' → FX B nx cn m cl S F E T nn u' b' lb' lo' k' pc su' σ' H' z' w' hg' bs' tp' (gi M 47 u') (gi M 46 u') M2 := by
  obtain ⟨⟨h1, h2, h3, h4, h5, h6, h7⟩, ⟨u1, u2, u3, u4⟩, h8, h9, h10, h11, h12⟩ := J
  have ln := h10.len
  have G := I.GA
  have oc : ∀ v, me_i M2 171 v = me_i M 171 v := fun v => I.stay g (fun b j v => bP_sP b j (hP b j v)) (by omega)
  rw [hu] at h12
  obtain ⟨lo', k', pc, bs', tp', b', lb', su', σ', H', z', w', r, p1, ⟨p2, p3, p4⟩, p5, p6, p7, p8, p9, p10, p11, p12⟩ := h12
  have rowk : ∀ j v, 43 ≤ j → j ≤ 48 → v < u → gi M2 j v = gi M j v := fun j v j1 j2 v1 => g.g (g43 j1 j2) (Nat.lt_of_lt_of_le v1 (u4 j j1 j2 (by omega))) fun y => by have := (hR j v y).1; omega
  have fr24 : ∀ a, a < tp → gi M2 24 a = gi M 24 a := fun a a1 => g.g g24 (Nat.lt_of_lt_of_le a1 u3) fun y => absurd (hR 24 a y).1 (by decide)
  have pl : ∀ a, a < b → gi M2 39 a = gi M 39 a := fun a a1 => g.g g39 (Nat.lt_of_lt_of_le (by omega) u2) fun y => by have := (hR 39 a y).2; omega
  have tpl : tp' ≤ tp := by omega
  have lr := p8.len
  refine ⟨lo', k', pc, b', lb', su', bs', tp', σ', H', z', w', r, e41.trans p2, p11, p7, p8.eq (fun t v y => y.mo (Nat.le_refl _) fun o _ _ => oc o) (fun a _ a2 => pl a a2), fun hg' q1 q2 q3 => ?_⟩
  refine ⟨⟨e42, e10, q1, e25.trans p3, e26.trans p4, e28, e27⟩, ⟨by omega, q2, Nat.le_trans tpl (Nat.le_trans u3 (g.2.2.2.2.1 24 g24).1), fun j j1 j2 _ => Nat.le_trans (by omega) (Nat.le_trans (u4 j j1 j2 (by omega)) (g.2.2.2.2.1 j (g43 j1 j2)).1)⟩, ⟨p1, p5⟩, p6.mo (Nat.le_refl _) (fun v _ _ => oc v) (fun a _ a2 => fr24 a (by omega)) (fun q _ v => v), q3, ⟨p9.1, p9.2.2.1, p10.1, p10.2, p9.2.2.2⟩, ?_⟩
  exact p12.mo (Nat.le_refl _) (fun v _ _ => oc v) (fun j v j1 j2 v1 => rowk j v j1 (by omega) (by omega)) (fun a a1 => pl a (by omega)) (fun a a1 => fr24 a (by omega))
theorem BA.keep (I : BA p C n m cl A B nx cn ct fc fs mn V S F E T MA KA Mr nn fu st rd M) (g : gx P R M M') (hP : ∀ b j, P b j → bP b j) (hR : ∀ j a, R j a → j = 39 ∨ j = 24 ∨ 43 ≤ j ∧ j ≤ 48) : BA p C n m cl A B nx cn ct fc fs mn V S F E T MA KA Mr nn fu st rd M' := by
  have e : ∀ j, (j = 9 ∨ j = 17 ∨ j = 12) → me_i M' 164 j = me_i M 164 j := fun j hj => g.i4 I.GA fun v => by
    have := hP 164 j v
    unfold bP at this
    omega
  have s : ∀ b j, P b j → sP b j := fun b j v => bP_sP b j (hP b j v)
  exact I.go g s (fun j a v => by
    have := hR j a v
    unfold rRun
    omega) ((e 9 (by decide)).trans I.2.2.2.2.2.2.1.2.2.1) ((e 17 (by decide)).trans I.2.2.2.2.2.2.1.2.2.2) (by rw [e 12 (by decide)]; exact I.2.1.2.1) I.2.2.2.2.2.2.2.2.1 (I.heap g s fun a _ v => by have := hR 22 a v; omega) (I.stat g s fun a _ v => by
    have := hP 170 a v
    unfold bP at this
    omega)
theorem cB_bP : ∀ b j, cB b j → bP b j := fun b j v => by
  unfold cB at v
  unfold bP
  omega
/-- calls is one less, and then comeBack -/
theorem comes_w {K : me_M → Prop} {EE : Nat → me_M → Prop} (EV : EVN m cl B nx cn ct fc fs V S F E T MA KA) (I : BA p C n m cl A B nx cn ct fc fs mn V S F E T MA KA Mr nn fu st rd M) (J : FX B nx cn m cl S F E T nn u b lb lo k i su σ H z w hg bs tp self fm M) (hm : rd + mu S T st su i ≤ BD ∧ BD ≤ 2000000000) (h41 : me_i M 164 41 = ((i + 1 : Nat) : Int)) (hw : ¬ w = -1 ∨ ¬ z = -1) (hd : 8 ≤ d) (e1 : M1 = me_sI M 164 10 (Int32.ofInt (me_i M 164 10 - 1))) (hK : ∀ M2 u', u = u' + 1 → gx bP no2 M M2 → me_i M2 164 40 = (hg : Int) → me_i M2 164 42 = (u' : Int) → me_i M2 164 10 = (u' : Int) → me_i M2 164 41 = gi M 43 u' → me_i M2 164 25 = gi M 44 u' → me_i M2 164 26 = gi M 45 u' → me_i M2 164 27 = gi M 46 u' → me_i M2 164 28 = gi M 47 u' → K M2) : ∃ d', d = d' + 1 ∧ me_W (mt_G N X) 422 d' 0 [some (.inr (.inl (some 164, 25, 0)))] [] M1 (sx_qV K EE) := by
  obtain ⟨c1, c2, c3⟩ := cell1 I.GA e1
  obtain ⟨u', hu⟩ : ∃ u', u = u' + 1 := by
    cases u with
    | zero =>
      have := J.2.2.2.2.2.1.2.2.2.2.mp rfl
      omega
    | succ u' => exact ⟨u', rfl⟩
  have u40 := J.2.1.1
  have h10 := J.1.2.1
  rw [h10, show (u : Int) - 1 = (u' : Int) by omega, me_to ⟨by omega, by omega⟩] at c3
  have rows : ∀ j v, j ∈ gl → v < gL M j → gi M1 j v = gi M j v := fun j v hj hv => c1.g hj hv fun y => y
  have len : ∀ j, 43 ≤ j → j ≤ 48 → u' < gL M j := fun j j1 j2 => Nat.lt_of_lt_of_le (by omega) (J.2.1.2.2.2 j j1 j2 (by omega))
  refine back_w c1.GA ((c2.i fun v => absurd v.2 (by decide)).trans (J.1.1.trans (by rw [hu]))) (by omega) (fun j j1 j2 => Nat.lt_of_lt_of_le (len j j1 j2) (c1.2.2.2.2.1 j (g43 j1 j2)).1) (by omega) fun M2 cb => ?_
  obtain ⟨f, k42, k41, k25, k26, k27, k28⟩ := cb
  have g2 : gx cB no2 M1 M2 := gx.of c1.GA f fun b j v => by
    rw [v.1]
    exact ok164
  refine hK M2 u' hu ((c1.mo (fun b j v => ⟨v.1, Or.inl v.2⟩) no2_mo).tr (g2.mo cB_bP no2_mo)) ((f.i fun v => by have := v.2; omega).trans ((c2.i fun v => absurd v.2 (by decide)).trans J.1.2.2.1)) k42 ((f.i fun v => by have := v.2; omega).trans c3) (k41.trans (rows 43 u' (g43 (by decide) (by decide)) (len 43 (by decide) (by decide)))) (k25.trans (rows 44 u' (g43 (by decide) (by decide)) (len 44 (by decide) (by decide)))) (k26.trans (rows 45 u' (g43 (by decide) (by decide)) (len 45 (by decide) (by decide)))) (k27.trans (rows 46 u' (g43 (by decide) (by decide)) (len 46 (by decide) (by decide)))) (k28.trans (rows 47 u' (g43 (by decide) (by decide)) (len 47 (by decide) (by decide))))
/-- RETURN -/
theorem as_24 {h : Nat} {t : Int} (EV : EVN m cl B nx cn ct fc fs V S F E T MA KA) (I : BA p C n m cl A B nx cn ct fc fs mn V S F E T MA KA Mr nn fu st rd M) (J : FX B nx cn m cl S F E T nn u b lb lo k i su σ H z w hg bs tp self fm M) (hm : rd + mu S T st su i ≤ BD ∧ BD ≤ 2000000000) (h41 : me_i M 164 41 = ((i + 1 : Nat) : Int)) (hs : S i = 24) (hw : w = (h : Int)) (hx : (σ i).1 = [t]) (hf : fit nx t (B 8 h)) (hd : 8 ≤ d) (e1 : M1 = me_sI M 164 10 (Int32.ofInt (me_i M 164 10 - 1))) : ∃ d', d = d' + 1 ∧ me_W (mt_G N X) 422 d' 0 [some (.inr (.inl (some 164, 25, 0)))] [] M1 (sx_qV (fun M' => NXT p C n m cl A B nx cn ct fc fs mn V S F E T MA KA BD Mr (mu S T st su i) M') (fun e M' => e = 167 ∧ RBS Mr M')) := by
  refine comes_w EV I J hm h41 (by omega) hd e1 fun M2 u' hu g e40 e42 e10 e41 e25 e26 e27 e28 => ?_
  have pk := J.2.2.1.1.1
  have ik := J.2.2.1.2.2
  obtain ⟨h1, a1, a2, a3, a4, a5⟩ := J.top hx
  have a5 : h1 = b := a5
  obtain ⟨lo', k', pc, b', lb', su', bs', tp', σ', H', z', w', r, q1, q2, q3, q4, q5⟩ := back_at I J hu g (fun _ _ v => v) (fun j a v => v.elim) e42 e10 e41 e25 e26 e27 e28
  have oc : ∀ v, me_i M2 171 v = me_i M 171 v := fun v => I.stay g bP_sP (by omega)
  have rt0 : rtt B z w = B 8 h := by
    unfold rtt
    rw [if_pos (by omega), hw, Int.toNat_natCast]
  have hl : hg ≤ gL M2 39 := Nat.le_trans J.2.1.2.1 (g.2.2.2.2.1 39 g39).1
  refine ⟨_, mu_ret (i := i) (j := pc) (by omega) (by omega) q2, nn, fu, st, rd, u', b', lb', lo', k', pc, su', hg, bs', tp', σ', H', z', w', _, _, I.keep g (fun _ _ v => v) (fun j a v => v.elim), q5 hg e40 hl (STK.tle q3 ⟨h1, a1, ?_, by rw [a5]; exact q4⟩), q1, rfl, ?_⟩
  · rw [g.g g39 a2 fun v => v, rt0]
    exact (a4.fit hf).mo (Nat.le_refl _) fun o _ _ => oc o
  · have := mu_ret (S := S) (T := T) (st := st) (i := i) (j := pc) (by omega) (by omega) q2
    omega
/-- MADE -/
theorem as_27 {c : Nat} (EV : EVN m cl B nx cn ct fc fs V S F E T MA KA) (I : BA p C n m cl A B nx cn ct fc fs mn V S F E T MA KA Mr nn fu st rd M) (J : FX B nx cn m cl S F E T nn u b lb lo k i su σ H z w hg bs tp self fm M) (hm : rd + mu S T st su i ≤ BD ∧ BD ≤ 2000000000) (h41 : me_i M 164 41 = ((i + 1 : Nat) : Int)) (hs : S i = 27) (hw : w = -1) (hz : z = (c : Int)) (hx : (σ i).1 = []) (hd : 8 ≤ d) (e1 : M1 = me_sI M 164 10 (Int32.ofInt (me_i M 164 10 - 1))) : ∃ d', d = d' + 1 ∧ me_W (mt_G N X) 422 d' 0 [some (.inr (.inl (some 164, 25, 0)))] [] M1 (sx_qV (fun M2 => ∃ d', d = d' + 1 ∧ me_W (mt_G N X) 408 d' 0 [some (.inr (.inl (some 164, 25, 0))), some (.inl (me_i M 164 28))] [] M2 (sx_qV (fun M' => NXT p C n m cl A B nx cn ct fc fs mn V S F E T MA KA BD Mr (mu S T st su i) M') (fun e M' => e = 167 ∧ RBS Mr M'))) (fun e M' => e = 167 ∧ RBS Mr M')) := by
  refine comes_w EV I J hm h41 (by omega) hd e1 fun M2 u' hu g e40 e42 e10 e41 e25 e26 e27 e28 => ?_
  have pk := J.2.2.1.1.1
  have ik := J.2.2.1.2.2
  have K0 := J.2.2.2.2.1
  rw [hx] at K0
  have K0 : hg = b := K0
  obtain ⟨v, v1, v2, v3, v4⟩ := J.2.2.2.1.1 (by omega)
  have nb := I.2.2.2.2.2.2.2.1
  refine push_w g.GA e40 J.hgb (by omega) fun M3 ps => ?_
  obtain ⟨p1, p2, p3, p4⟩ := ps
  have g3 : gx bP (fun j a => j = 39 ∧ a = hg) M M3 := (g.mo (fun _ _ v => v) no2_mo).tr (p1.mo (fun b j v => ⟨v.1, by have := v.2; omega⟩) fun _ _ v => v)
  have s : ∀ j, ¬ j = 40 → me_i M3 164 j = me_i M2 164 j := fun j hj => p1.i4 g.GA fun v => hj v.2
  obtain ⟨lo', k', pc, b', lb', su', bs', tp', σ', H', z', w', r, q1, q2, q3, q4, q5⟩ := back_at I J hu g3 (fun _ _ v => v) (fun j a v => ⟨v.1, by have := v.2; omega⟩) ((s 42 (by decide)).trans e42) ((s 10 (by decide)).trans e10) ((s 41 (by decide)).trans e41) ((s 25 (by decide)).trans e25) ((s 26 (by decide)).trans e26) ((s 27 (by decide)).trans e27) ((s 28 (by decide)).trans e28)
  have oc : ∀ v, me_i M3 171 v = me_i M 171 v := fun v => I.stay g3 bP_sP (by omega)
  have rt0 : rtt B z w = 10 + (c : Int) := by
    unfold rtt
    rw [if_neg (by omega), hz]
  refine ⟨_, mu_ret (i := i) (j := pc) (by omega) (by omega) q2, nn, fu, st, rd, u', b', lb', lo', k', pc, su', hg + 1, bs', tp', σ', H', z', w', _, _, I.keep g3 (fun _ _ v => v) (fun j a v => Or.inl v.1), q5 (hg + 1) p2 p4 (STK.tle q3 ⟨hg, rfl, ?_, by rw [K0]; exact q4⟩), q1, rfl, ?_⟩
  · rw [p3, J.1.2.2.2.2.2.1, v1, me_to ⟨by omega, by omega⟩, rt0]
    refine ⟨fun _ => Or.inr ⟨v, rfl, v2, v3, ?_⟩, fun q => by omega⟩
    rw [show 10 + (c : Int) - 10 = (c : Int) by omega, oc, ← hz]
    exact v4
  · have := mu_ret (S := S) (T := T) (st := st) (i := i) (j := pc) (by omega) (by omega) q2
    omega
end RET
