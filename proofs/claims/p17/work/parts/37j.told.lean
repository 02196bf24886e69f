/-! the reference's parser: what is told, its state while statements are read -/
/-- a telling more -/
def td_put (M : me_M) (p n : Nat) (v : Nat → Int) : me_M := me_sI (me_sI (me_sI (me_sI (me_sI (me_sI (me_sI (me_sI (me_sI (me_sI (me_sI M p 16 (Int32.ofInt ((n : Int) + 1))) (p + 25) n (Int32.ofInt (v 0))) (p + 26) n (Int32.ofInt (v 1))) (p + 27) n (Int32.ofInt (v 2))) (p + 28) n (Int32.ofInt (v 3))) (p + 29) n (me_nar 2 (v 4))) (p + 30) n (Int32.ofInt (v 5))) (p + 31) n (Int32.ofInt (v 6))) (p + 32) n (Int32.ofInt (v 7))) (p + 33) n (Int32.ofInt (v 8))) (p + 34) n (Int32.ofInt (v 9))
def tv (x1 x2 x3 x4 x5 x6 : Int) (i : Nat) : Int := if i = 0 then x1 else if i = 1 then x2 else if i = 2 then x3 else if i = 3 then x4 else if i = 4 then x5 else if i = 5 then -1 else if i = 6 then x6 else if i = 7 then x6 else if i = 8 then -5 else 0
theorem me_nar_b {x : Int} (h : x = 0 ∨ x = 1) : (me_nar 2 x).toInt = x := by
  rcases h with rfl | rfl <;> decide +kernel
section TELL
variable {M : me_M} {p n : Nat} {v : Nat → Int}
theorem td_put_fr : fr (fun b j => b = p ∧ j = 16 ∨ p + 25 ≤ b ∧ b ≤ p + 34 ∧ j = n) M (td_put M p n v) := by
  unfold td_put
  iterate 10 refine fr.tr ?_ (fr_sI (Or.inr ⟨by omega, by omega, rfl⟩))
  exact fr_sI (Or.inl ⟨rfl, rfl⟩)
theorem td_put_n (hn : n < 2147483647) : me_i (td_put M p n v) p 16 = ((n + 1 : Nat) : Int) := by
  unfold td_put
  iterate 10 rw [me_i_sI, if_neg (by omega)]
  rw [me_i_sI, if_pos ⟨rfl, rfl⟩, me_to ⟨by omega, by omega⟩]
  omega
theorem td_put_v (hv : ∀ i, me_r (v i)) (h4 : v 4 = 0 ∨ v 4 = 1) (i : Nat) (hi : i < 10) : tA p (td_put M p n v) i n = v i := by
  have h : i = 0 ∨ i = 1 ∨ i = 2 ∨ i = 3 ∨ i = 4 ∨ i = 5 ∨ i = 6 ∨ i = 7 ∨ i = 8 ∨ i = 9 := by omega
  unfold tA td_put
  rcases h with rfl | rfl | rfl | rfl | rfl | rfl | rfl | rfl | rfl | rfl
  · iterate 9 rw [me_i_sI, if_neg (by omega)]
    rw [me_i_sI, if_pos ⟨rfl, rfl⟩, me_to (hv _)]
  · iterate 8 rw [me_i_sI, if_neg (by omega)]
    rw [me_i_sI, if_pos ⟨rfl, rfl⟩, me_to (hv _)]
  · iterate 7 rw [me_i_sI, if_neg (by omega)]
    rw [me_i_sI, if_pos ⟨rfl, rfl⟩, me_to (hv _)]
  · iterate 6 rw [me_i_sI, if_neg (by omega)]
    rw [me_i_sI, if_pos ⟨rfl, rfl⟩, me_to (hv _)]
  · iterate 5 rw [me_i_sI, if_neg (by omega)]
    rw [me_i_sI, if_pos ⟨rfl, rfl⟩, me_nar_b h4]
  · iterate 4 rw [me_i_sI, if_neg (by omega)]
    rw [me_i_sI, if_pos ⟨rfl, rfl⟩, me_to (hv _)]
  · iterate 3 rw [me_i_sI, if_neg (by omega)]
    rw [me_i_sI, if_pos ⟨rfl, rfl⟩, me_to (hv _)]
  · iterate 2 rw [me_i_sI, if_neg (by omega)]
    rw [me_i_sI, if_pos ⟨rfl, rfl⟩, me_to (hv _)]
  · rw [me_i_sI, if_neg (by omega)]
    rw [me_i_sI, if_pos ⟨rfl, rfl⟩, me_to (hv _)]
  · rw [me_i_sI, if_pos ⟨rfl, rfl⟩, me_to (hv _)]
theorem c_302 {N : Nat} {X : Nat → Int32} {d : Nat} {x1 x2 x3 x4 x5 x6 : Int} (hn : me_i M p 16 = (n : Int)) (h8 : n < 2408) (r1 : me_r x1) (r2 : me_r x2) (r3 : me_r x3) (r4 : me_r x4) (r5 : x5 = 0 ∨ x5 = 1) (r6 : me_r x6) :
    me_W (mt_G N X) 302 d 0 [some (.inr (.inl (some p, 29, 0))), some (.inl x1), some (.inl x2), some (.inl x3), some (.inl x4), some (.inl x5), some (.inl x6), none] [] M (sx_qI (fun y M' => y = (n : Int) ∧ fr (fun b j => b = p ∧ j = 16 ∨ p + 25 ≤ b ∧ b ≤ p + 34 ∧ j = n) M M' ∧ me_i M' p 16 = ((n + 1 : Nat) : Int) ∧ ∀ i, i < 10 → tA p M' i n = tv x1 x2 x3 x4 x5 x6 i) nt_E) := by
  have hvr : ∀ i, me_r (tv x1 x2 x3 x4 x5 x6 i) := fun i => by
    unfold tv
    (repeat' split) <;> first | assumption | exact ⟨by omega, by omega⟩
  refine b302_0 ?_
  rw [hn, Int.toNat_natCast]
  intro M1
  refine ⟨by omega, by omega, ?_⟩
  intro M2
  refine ⟨by omega, by omega, ?_⟩
  intro M3
  refine ⟨by omega, by omega, ?_⟩
  intro M4
  refine ⟨by omega, by omega, ?_⟩
  intro M5
  refine ⟨by omega, by omega, ?_⟩
  intro M6
  refine ⟨by omega, by omega, ?_⟩
  intro M7
  refine ⟨by omega, by omega, ?_⟩
  intro M8
  refine ⟨by omega, by omega, ?_⟩
  intro M9
  refine ⟨by omega, by omega, ?_⟩
  intro M10
  refine ⟨by omega, by omega, ?_⟩
  intro M11
  have e : M11 = td_put M p n (tv x1 x2 x3 x4 x5 x6) := rfl
  rw [e]
  exact ⟨rfl, td_put_fr, td_put_n (by omega), fun i hi => td_put_v hvr r5 i hi⟩
end TELL
/-- where reading statements changes ints -/
def rS (p n0 d0 : Nat) : Nat → Nat → Prop := fun b j => rE p n0 b j ∨ b = p ∧ j = 16 ∨ p + 25 ≤ b ∧ b ≤ p + 34 ∧ d0 ≤ j
theorem rS_mo {p n0 n1 d0 d1 : Nat} (h : n0 ≤ n1) (h' : d0 ≤ d1) : ∀ b j, rS p n1 d1 b j → rS p n0 d0 b j := fun b j z => by
  rcases z with z | z | z
  · exact Or.inl (rE_mo h b j z)
  · exact Or.inr (Or.inl z)
  · exact Or.inr (Or.inr ⟨z.1, z.2.1, by omega⟩)
theorem rS_E {p n0 n1 d0 : Nat} (h : n0 ≤ n1) : ∀ b j, rE p n1 b j → rS p n0 d0 b j := fun b j z => Or.inl (rE_mo h b j z)
theorem rS_F {p n0 d0 : Nat} : ∀ b j, fF b j → rS p n0 d0 b j := fun _ _ z => Or.inl (rE_F _ _ z)
theorem rS_W {p n0 d0 : Nat} : ∀ b j, (fF b j ∨ b = p ∧ j = 37) → rS p n0 d0 b j := fun _ _ z => Or.inl (rE_W _ _ z)
/-- a local's telling -/
def ld (A B : Nat → Nat → Int) (s c : Nat → Int) (h : Int) (t0 n0 n t d : Nat) : Prop := B 0 d = 4 ∧ ((t0 : Int) ≤ B 6 d ∧ B 6 d ≤ B 2 d ∧ B 2 d < B 1 d ∧ B 1 d ≤ B 7 d ∧ B 7 d < t) ∧ s (B 1 d).toNat = 1 ∧ g_ty s c (B 2 d).toNat ∧ B 3 d = h ∧ B 4 d = 0 ∧ ((n0 : Int) ≤ B 5 d ∧ B 5 d < n ∧ A 0 (B 5 d).toNat = 21 ∧ A 2 (B 5 d).toNat = d) ∧ B 8 d = -5 ∧ B 9 d = 0
theorem ld.mo {A A' B B' : Nat → Nat → Int} {s c : Nat → Int} {h : Int} {t0 t0' n0 n0' n n' t t' d : Nat} (H : ld A B s c h t0 n0 n t d) (h00 : t0' ≤ t0) (h0 : n0' ≤ n0) (hn : n ≤ n') (ht : t ≤ t') (eA : ∀ i j, i < 11 → ¬ i = 8 → ¬ i = 7 → n0 ≤ j → j < n → A' i j = A i j) (eB : ∀ i, i < 10 → B' i d = B i d) : ld A' B' s c h t0' n0' n' t' d := by
  obtain ⟨h1, h2, h3, h4, h5, h6, ⟨h7, h8, h9, h10⟩, h11, h12⟩ := H
  unfold ld
  rw [eB 0 (by omega), eB 1 (by omega), eB 2 (by omega), eB 3 (by omega), eB 4 (by omega), eB 5 (by omega), eB 6 (by omega), eB 7 (by omega), eB 8 (by omega), eB 9 (by omega), eA 0 _ (by omega) (by omega) (by omega) (by omega) (by omega), eA 2 _ (by omega) (by omega) (by omega) (by omega) (by omega)]
  exact ⟨h1, ⟨by omega, h2.2.1, h2.2.2.1, h2.2.2.2.1, by omega⟩, h3, h4, h5, h6, ⟨by omega, by omega, h9, h10⟩, h11, h12⟩
/-- NAMES that are told -/
def tc (B : Nat → Nat → Int) (d0 D k : Nat) : Prop := ∃ d, d0 ≤ d ∧ d < D ∧ (B 1 d = k ∨ B 2 d = k)
theorem tc.mo {B B' : Nat → Nat → Int} {d0 d1 D D' k : Nat} (H : tc B d0 D k) (h0 : d1 ≤ d0) (hD : D ≤ D') (e : ∀ i j, i < 10 → d0 ≤ j → j < D → B' i j = B i j) : tc B' d1 D' k := by
  obtain ⟨d, h1, h2, h3⟩ := H
  exact ⟨d, by omega, by omega, by rw [e 1 d (by omega) h1 h2, e 2 d (by omega) h1 h2]; exact h3⟩
def ps (p : Nat) (s c : Nat → Int) (e0 : Nat) (h : Int × Nat) (D dp : Nat) (M0 : me_M) (n0 t0 d0 : Nat) (w : Nat → Prop) (M : me_M) (t n : Nat) : Prop := fr (rS p n0 d0) M0 M ∧ pe p s e0 h D dp M n0 t0 (fun k => w k ∨ tc (tA p M) d0 D k) M t n ∧ me_i M p 16 = (D : Int) ∧ d0 ≤ D ∧ D + t0 ≤ d0 + t ∧ (∀ d, d0 ≤ d → d < D → ld (nA p M) (tA p M) s c h.1 t0 n0 n t d) ∧ ∀ d d', d0 ≤ d → d < d' → d' < D → tA p M 7 d < tA p M 6 d'
section PS
variable {p e0 D D1 dp dp' n0 t0 d0 t n t1 n1 lim : Nat} {s c : Nat → Int} {h : Int × Nat} {M0 M M1 : me_M} {w w' : Nat → Prop}
theorem pe.re (Q : pe p s e0 h D dp M0 n0 t0 w M t n) : pe p s e0 h D dp M n0 t0 w M t n := ⟨fr.rf, Q.2⟩
theorem pr.ps (P : pr p s c lim e0 h M0 t0 n0 dp D) : ps p s c e0 h D dp M0 n0 t0 D w M0 t0 n0 := ⟨fr.rf, P.st, P.2.2.2.2.2.2.2.2.1, Nat.le_refl _, by omega, fun d _ _ => by omega, fun d d' _ _ _ => by omega⟩
theorem pk_s (k : pk p s c lim M0) (hp : 164 < p) (f : fr (rS p n0 d0) M0 M) : pk p s c lim M := by
  refine k.fr f (fun j => ?_) (fun j => ?_) ?_ ?_ <;> unfold rS rE fF <;> omega
theorem ps.pr (Q : ps p s c e0 h D dp M0 n0 t0 d0 w M t n) (hp : 164 < p) (P : pr p s c lim e0 h M0 t0 n0 dp' d0) (hd1 : dp ≤ 21) (hd : 20 < dp → s t = 4 ∧ (c t = 125 ∨ c t = 41)) : pr p s c lim e0 h M t n dp D := by
  obtain ⟨f, ⟨_, q1, q2, q3, q4, q5, q6, _⟩, g1, g2, _⟩ := Q
  obtain ⟨k, _, _, _, _, _, p6, p7, p8, p9⟩ := P
  refine ⟨pk_s k hp f, q1, q4.2, q2, hd1, q3, by omega, ?_, g1, hd, by have := p9.2; omega⟩
  exact ⟨by rw [f.i (by unfold rS rE fF; omega), p7.1], by omega⟩
/-- names may wait -/
theorem ps.wk (Q : ps p s c e0 h D dp M0 n0 t0 d0 w M t n) (hw : ∀ k, w k → w' k) (hn : ∀ k, t0 ≤ k → k < t → w' k → w k) : ps p s c e0 h D dp M0 n0 t0 d0 w' M t n := ⟨Q.1, Q.2.1.wk (fun k z => z.imp (hw k) id) (fun k k1 k2 z => z.imp (hn k k1 k2) id), Q.2.2⟩
theorem ps.pass (Q : ps p s c e0 h D dp M0 n0 t0 d0 w M t n) (hp : 164 < p) (ht : t < 2147483646) (he : t < e0) (hw : s t = 1 → w t) : ps p s c e0 h D dp M0 n0 t0 d0 w (pT M p t) (t + 1) n := by
  obtain ⟨f, Q, g1, g2, g3, g4, g5⟩ := Q
  have f1 : fr (fun b j => b = p ∧ j = 35) M (pT M p t) := fr_sI ⟨rfl, rfl⟩
  have eB : ∀ i j, tA p (pT M p t) i j = tA p M i j := fun i j => f1.i (by omega)
  refine ⟨f.tr (f1.mo fun b j z => Or.inl (Or.inr (Or.inl ⟨z.1, by omega⟩))), ((Q.pass hp ht he fun z => Or.inl (hw z)).wk (fun k z => z.imp id fun v => v.mo (Nat.le_refl _) (Nat.le_refl _) fun i j _ _ _ => eB i j) (fun k _ _ z => z.imp id fun v => v.mo (Nat.le_refl _) (Nat.le_refl _) fun i j _ _ _ => (eB i j).symm)).re, by rw [f1.i (by omega), g1], g2, by omega, fun d d1 d2 => (g4 d d1 d2).mo (Nat.le_refl _) (Nat.le_refl _) (Nat.le_refl _) (by omega) (fun i j _ _ _ _ _ => pT_A p t M i j) fun i _ => eB i d, fun d d' d1 d2 d3 => by rw [eB, eB]; exact g5 d d' d1 d2 d3⟩
theorem ps.deep (Q : ps p s c e0 h D dp M0 n0 t0 d0 w M t n) (hp : 164 < p) (hd : dp' < 1000) : ps p s c e0 h D dp' M0 n0 t0 d0 w (me_sI M p 37 (Int32.ofInt (dp' : Int))) t n := by
  obtain ⟨f, Q, g1, g2, g3, g4, g5⟩ := Q
  have f1 : fr (fun b j => b = p ∧ j = 37) M (me_sI M p 37 (Int32.ofInt (dp' : Int))) := fr_sI ⟨rfl, rfl⟩
  have eB : ∀ i j, tA p (me_sI M p 37 (Int32.ofInt (dp' : Int))) i j = tA p M i j := fun i j => f1.i (by omega)
  refine ⟨f.tr (f1.mo fun b j z => Or.inl (Or.inr (Or.inl ⟨z.1, by omega⟩))), ((Q.deep (dp' := dp') hp hd).wk (fun k z => z.imp id fun v => v.mo (Nat.le_refl _) (Nat.le_refl _) fun i j _ _ _ => eB i j) (fun k _ _ z => z.imp id fun v => v.mo (Nat.le_refl _) (Nat.le_refl _) fun i j _ _ _ => (eB i j).symm)).re, by rw [f1.i (by omega), g1], g2, g3, fun d d1 d2 => (g4 d d1 d2).mo (Nat.le_refl _) (Nat.le_refl _) (Nat.le_refl _) (Nat.le_refl _) (fun i j _ _ _ _ _ => dp_A p M _ i j) fun i _ => eB i d, fun d d' d1 d2 d3 => by rw [eB, eB]; exact g5 d d' d1 d2 d3⟩
/-- exps behind -/
theorem ps.exp (hp : 164 < p) (Q : ps p s c e0 h D dp M0 n0 t0 d0 w M t n) (R : pe p s e0 h D dp' M n t (fun _ => False) M1 t1 n1) (hfw : ∀ k, t ≤ k → ¬ w k) : ps p s c e0 h D dp' M0 n0 t0 d0 w M1 t1 n1 := by
  obtain ⟨f, Q, g1, g2, g3, g4, g5⟩ := Q
  have eB : ∀ i j, i < 10 → tA p M1 i j = tA p M i j := fun i j _ => R.1.i (by unfold rE fF; omega)
  have nn := Q.2.2.2.2.2.1
  have rr := R.2.2.2.2
  refine ⟨f.tr (R.1.mo (rS_E nn)), ((Q.seq hp R w0 (fun k k1 z => by
    rcases z with z | ⟨d, d1, d2, d3⟩
    · exact hfw k k1 z
    · have := (g4 d d1 d2).2.1
      omega)).wk (fun k z => z.imp id fun v => v.mo (Nat.le_refl _) (Nat.le_refl _) fun i j i1 _ _ => eB i j i1) (fun k _ _ z => z.imp id fun v => v.mo (Nat.le_refl _) (Nat.le_refl _) fun i j i1 _ _ => (eB i j i1).symm)).re, by rw [R.1.i (by unfold rE fF; omega), g1], g2, by omega, fun d d1 d2 => (g4 d d1 d2).mo (Nat.le_refl _) (Nat.le_refl _) rr.2.1 rr.1.1 (fun i j i1 _ _ _ j1 => R.keep hp i1 j1) fun i i1 => eB i d i1, fun d d' d1 d2 d3 => by rw [eB 7 d (by omega), eB 6 d' (by omega)]; exact g5 d d' d1 d2 d3⟩
/-- statements behind -/
theorem ps.seq (hp : 164 < p) (Q : ps p s c e0 h D dp M0 n0 t0 d0 w M t n) (R : ps p s c e0 h D1 dp' M n t D (fun _ => False) M1 t1 n1) (hfw : ∀ k, t ≤ k → ¬ w k) : ps p s c e0 h D1 dp' M0 n0 t0 d0 w M1 t1 n1 := by
  obtain ⟨f, Q, g1, g2, g3, g4, g5⟩ := Q
  obtain ⟨f', R, r1, r2, r3, r4, r5⟩ := R
  obtain ⟨_, q1, q2, q3, q4, q5, q6, q7, q8, q9⟩ := Q
  obtain ⟨_, u1, u2, u3, u4, u5, u6, u7, u8, u9⟩ := R
  have eB : ∀ i j, i < 10 → j < D → tA p M1 i j = tA p M i j := fun i j _ _ => f'.i (by unfold rS rE fF; omega)
  have eA : ∀ i j, i < 11 → j < n → nA p M1 i j = nA p M i j := fun i j _ _ => f'.i (by unfold rS rE fF; omega)
  refine ⟨f.tr (f'.mo (rS_mo q5 g2)), ⟨fr.rf, u1, u2, u3, by omega, by omega, by omega, ?_, fun k k1 k2 k3 => ?_, (q9.eq fun m _ m2 => eA 4 m (by omega) m2).app u9 q4.1 u4.1 (fun k k1 k2 z => ?_) (fun k k1 k2 z => ?_)⟩, r1, by omega, by omega, fun d d1 d2 => ?_, fun d d' d1 d2 d3 => ?_⟩
  · exact (q7.eq (fun i j i1 _ j2 => eA i j i1 j2) fun j j1 => eB 0 j (by omega) j1).app u7 q5 u5 r2 u4.1
  · by_cases e : k < t
    · rcases q8 k k1 e k3 with (z | z) | ⟨m, z1, z2, z3⟩
      · exact Or.inl (Or.inl z)
      · exact Or.inl (Or.inr (z.mo (Nat.le_refl _) r2 fun i j i1 _ j2 => eB i j i1 j2))
      · exact Or.inr ⟨m, z1, by omega, by rw [eA 4 m (by omega) z2]; exact z3⟩
    · rcases u8 k (by omega) k2 k3 with (z | z) | ⟨m, z1, z2, z3⟩
      · exact z.elim
      · exact Or.inl (Or.inr (z.mo g2 (Nat.le_refl _) fun i j _ _ _ => rfl))
      · exact Or.inr ⟨m, by omega, z2, z3⟩
  · rcases z with z | ⟨d, d1, d2, d3⟩
    · exact Or.inl z
    · by_cases e : d < D
      · exact Or.inr ⟨d, d1, e, by rw [← eB 1 d (by omega) e, ← eB 2 d (by omega) e]; exact d3⟩
      · have := (r4 d (by omega) d2).2.1
        omega
  · rcases z with z | ⟨d, d1, d2, d3⟩
    · exact absurd z (hfw k k1)
    · by_cases e : d < D
      · rw [eB 1 d (by omega) e, eB 2 d (by omega) e] at d3
        have := (g4 d d1 e).2.1
        omega
      · exact Or.inr ⟨d, by omega, d2, d3⟩
  · by_cases e : d < D
    · exact (g4 d d1 e).mo (Nat.le_refl _) (Nat.le_refl _) u5 u4.1 (fun i j i1 _ _ _ j1 => eA i j i1 j1) fun i i1 => eB i d i1 e
    · exact (r4 d (by omega) d2).mo q4.1 q5 (Nat.le_refl _) (Nat.le_refl _) (fun _ _ _ _ _ _ _ => rfl) fun _ _ => rfl
  · by_cases e : d' < D
    · rw [eB 7 d (by omega) (by omega), eB 6 d' (by omega) e]
      exact g5 d d' d1 d2 e
    · by_cases e2 : d < D
      · rw [eB 7 d (by omega) e2]
        have x1 := (g4 d d1 e2).2.1
        have x2 := (r4 d' (by omega) d3).2.1
        omega
      · exact r5 d d' (by omega) d2 d3
theorem ps.keep (hp : 164 < p) (R : ps p s c e0 h D1 dp M n t D w M1 t1 n1) {i j : Nat} (hi : i < 11) (hj : j < n) : nA p M1 i j = nA p M i j := R.1.i (by unfold rS rE fF; omega)
theorem ps.link (hp : 164 < p) (Q : ps p s c e0 h D dp M0 n0 t0 d0 w M t n) {l r : Nat} (h8 : n < 2147483647) (l1 : n0 ≤ l) (l2 : l < r) (l3 : r < n) (rl : nA p M 8 l = -1) (rr : nA p M 8 r = -1) (ko : nA p M 0 l ≤ 16 ∧ nA p M 0 r ≤ 16 ∨ 20 ≤ nA p M 0 l ∧ 20 ≤ nA p M 0 r) (lt : nA p M 6 l < nA p M 5 r) (nl : nA p M 7 l = -1) : ps p s c e0 h D dp M0 n0 t0 d0 w (me_sI M (p + 21) l (Int32.ofInt (r : Int))) t n := by
  obtain ⟨f, Q, g1, g2, g3, g4, g5⟩ := Q
  have f1 : fr (fun b j => b = p + 21 ∧ j = l) M (me_sI M (p + 21) l (Int32.ofInt (r : Int))) := fr_sI ⟨rfl, rfl⟩
  have eB : ∀ i j, i < 10 → tA p (me_sI M (p + 21) l (Int32.ofInt (r : Int))) i j = tA p M i j := fun i j _ => f1.i (by omega)
  refine ⟨f.tr (f1.mo fun b j z => Or.inl (Or.inr (Or.inr (Or.inl ⟨by omega, by omega, by omega⟩)))), ((Q.link hp h8 l1 l2 l3 rl rr ko lt nl).wk (fun k z => z.imp id fun v => v.mo (Nat.le_refl _) (Nat.le_refl _) fun i j i1 _ _ => eB i j i1) (fun k _ _ z => z.imp id fun v => v.mo (Nat.le_refl _) (Nat.le_refl _) fun i j i1 _ _ => (eB i j i1).symm)).re, by rw [f1.i (by omega), g1], g2, g3, fun d d1 d2 => (g4 d d1 d2).mo (Nat.le_refl _) (Nat.le_refl _) (Nat.le_refl _) (Nat.le_refl _) (fun i j i1 _ i7 _ _ => lk_A i j (fun v => i7 v.1) i1) fun i i1 => eB i d i1, fun d d' d1 d2 d3 => by rw [eB 7 d (by omega), eB 6 d' (by omega)]; exact g5 d d' d1 d2 d3⟩
/-- a node behind: from pe_nodeL or pe_node over the memory there -/
theorem ps.node (hp : 164 < p) (Q : ps p s c e0 h D dp M0 n0 t0 d0 w M t n) (V : pe p s e0 h D dp M n0 t0 (fun k => w' k ∨ tc (tA p M) d0 D k) M1 t (n + 1)) (eN : ∀ i j, i < 11 → ¬ i = 8 → j < n → nA p M1 i j = nA p M i j) : ps p s c e0 h D dp M0 n0 t0 d0 w' M1 t (n + 1) := by
  obtain ⟨f, Q, g1, g2, g3, g4, g5⟩ := Q
  have eB : ∀ i j, i < 10 → tA p M1 i j = tA p M i j := fun i j _ => V.1.i (by unfold rE fF; omega)
  refine ⟨f.tr (V.1.mo (rS_E (Nat.le_refl _))), (V.wk (fun k z => z.imp id fun v => v.mo (Nat.le_refl _) (Nat.le_refl _) fun i j i1 _ _ => eB i j i1) (fun k _ _ z => z.imp id fun v => v.mo (Nat.le_refl _) (Nat.le_refl _) fun i j i1 _ _ => (eB i j i1).symm)).re, by rw [V.1.i (by unfold rE fF; omega), g1], g2, g3, fun d d1 d2 => (g4 d d1 d2).mo (Nat.le_refl _) (Nat.le_refl _) (by omega) (Nat.le_refl _) (fun i j i1 i8 _ _ j1 => eN i j i1 i8 j1) fun i i1 => eB i d i1, fun d d' d1 d2 d3 => by rw [eB 7 d (by omega), eB 6 d' (by omega)]; exact g5 d d' d1 d2 d3⟩
end PS
