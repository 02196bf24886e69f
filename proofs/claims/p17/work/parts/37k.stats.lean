/-! the reference's parser: statements -/
section DEFS
variable (N : Nat) (X : Nat → Int32) (p : Nat) (s c : Nat → Int) (lim : Nat) (gd : Nat → Option Nat) (e0 : Nat) (h : Int × Nat)
def ST (o1 o2 : Int) (d0 dp : Nat) (M0 : me_M) (n0 t0 : Nat) (go : Option Nat) : Int → me_M → Prop := fun r M => ∃ t n D, go = some t ∧ t0 < t ∧ n0 < n ∧ r = (n : Int) - 1 ∧ ps p s c e0 h D dp M0 n0 t0 d0 (fun _ => False) M t n ∧ RL (nA p M) n0 n [n - 1] ∧ o1 ≤ nA p M 0 (n - 1) ∧ nA p M 0 (n - 1) ≤ o2 ∧ nA p M 5 (n - 1) = t0 ∧ nA p M 6 (n - 1) = (t : Int) - 1
def CN (D dp : Nat) (M0 : me_M) (n0 t0 : Nat) (go : Option Nat) : Int → me_M → Prop := fun r M => ∃ t n, go = some t ∧ n0 < n ∧ n + t0 + 2 ≤ n0 + t ∧ r = (n : Int) - 1 ∧ pe p s e0 h D dp M0 n0 t0 (fun _ => False) M t n ∧ RL (nA p M) n0 n [n - 1] ∧ 1 ≤ nA p M 0 (n - 1) ∧ nA p M 0 (n - 1) ≤ 16
def C7 (k : Nat) : Prop := ∀ (M : me_M) (t n dp D d : Nat), pr p s c lim e0 h M t n dp D → D ≤ t → 32 * (e0 + 1 - t) + 15 ≤ k → 20 * (22 - dp) + 19 ≤ d →
  me_W (mt_G N X) 312 d 0 [some (.inr (.inl (some p, 29, 0))), none, none, none, none, none, none] [] M (sx_qI (ST p s c e0 h 20 27 D dp M n t (g s c lim gd k 7 0 t dp)) (px (g s c lim gd k 7 0 t dp = none) (rS p n D) M))
def C8 (k : Nat) : Prop := ∀ (M : me_M) (t n dp D d : Nat), pr p s c lim e0 h M t n dp D → D ≤ t → 32 * (e0 + 1 - t) + 5 ≤ k → 20 * (22 - dp) + 18 ≤ d →
  me_W (mt_G N X) 310 d 0 [some (.inr (.inl (some p, 29, 0))), none, none, none, none] [] M (sx_qI (ST p s c e0 h 20 20 D dp M n t (g s c lim gd k 8 0 t dp)) (px (g s c lim gd k 8 0 t dp = none) (rS p n D) M))
def C9 (k : Nat) : Prop := ∀ (M0 M : me_M) (t0 n0 d0 t n dp D d : Nat) (bg la : Int), pr p s c lim e0 h M0 t0 n0 dp d0 → d0 ≤ t0 → dp ≤ 20 → t0 + 1 ≤ t → n + t0 + 1 ≤ n0 + t → ps p s c e0 h D (dp + 1) M0 n0 t0 d0 (fun _ => False) M t n → CH 20 27 (nA p M) n0 n bg → (la = -1 ∧ n = n0 ∨ (n0 : Int) ≤ la ∧ la < n ∧ nA p M 8 la.toNat = -1 ∧ nA p M 7 la.toNat = -1) → (20 < dp + 1 → s t = 4 ∧ (c t = 125 ∨ c t = 41)) → 32 * (e0 + 1 - t) + 16 ≤ k → 20 * (22 - dp) + 18 ≤ d →
  me_W (mt_G N X) 310 d 19 [some (.inr (.inl (some p, 29, 0))), some (.inl (t0 : Int)), some (.inl bg), some (.inl la), none] [] M (sx_qI (ST p s c e0 h 20 20 d0 dp M0 n0 t0 (g s c lim gd k 9 0 t (dp + 1))) (px (g s c lim gd k 9 0 t (dp + 1) = none) (rS p n0 d0) M0))
def C10 (k : Nat) : Prop := ∀ (M : me_M) (t n dp D d : Nat), pr p s c lim e0 h M t n dp D → D ≤ t → dp ≤ 20 → 32 * (e0 + 1 - t) + 16 ≤ k → 20 * (22 - dp) + 18 ≤ d →
  me_W (mt_G N X) 330 d 0 [some (.inr (.inl (some p, 29, 0))), none] [] M (sx_qI (ST p s c e0 h 20 27 D dp M n t (g s c lim gd k 10 0 t dp)) (px (g s c lim gd k 10 0 t dp = none) (rS p n D) M))
def C11 (k : Nat) : Prop := ∀ (M : me_M) (t n dp D d : Nat), pr p s c lim e0 h M t n dp D → dp ≤ 20 → 32 * (e0 + 1 - t) ≤ k → 20 * (22 - dp) + 18 ≤ d →
  me_W (mt_G N X) 329 d 0 [some (.inr (.inl (some p, 29, 0))), none] [] M (sx_qI (CN p s e0 h D dp M n t (g s c lim gd k 11 0 t dp)) (px (g s c lim gd k 11 0 t dp = none) (rE p n) M))
end DEFS
section STATS
variable {N : Nat} {X : Nat → Int32} {p : Nat} {s c : Nat → Int} {lim : Nat} {gd : Nat → Option Nat} {e0 : Nat} {h : Int × Nat} {k : Nat}
theorem e11 (hp : 164 < p) (he : e0 ≤ 2405) (hl : lim < 2408) (z0 : s e0 = 0) (H0 : C0 N X p s c lim gd e0 h k) : C11 N X p s c lim gd e0 h (k + 1) := by
  intro M t n dp D d P hdp hk hd
  have ht := P.2.1
  have he1 := P.2.2.1
  rw [g]
  refine b329_0 (ca_V (by omega) (c_305 (by omega) P.1 ht (by omega) hl ⟨by omega, by omega⟩) (fun M1 _ q => ?_) (fun _ _ _ q => q.mo (fun z => by rw [g_need, if_neg z]; rfl) rE_F fr.rf))
  obtain ⟨rfl, q1, q2, q3⟩ := q
  have te := te_of z0 he1 (by omega)
  have T := (P.st (w := fun _ => False)).pass hp (by omega) te (fun v => by omega)
  have PT := T.pr hp P (by omega) (by omega)
  rw [show g_need s c lim 40 t = some (t + 1) by rw [g_need, if_pos ⟨q1, q2, q3⟩], Option.bind_some]
  refine ca_V (by omega) (c_311 (by omega) PT.1 hp PT.2.1 (by omega) PT.2.2.2.1 (by omega)) (fun M2 _ q => ?_) (fun a M' _ q => q.mo (fun z => by rw [if_neg z]) rE_W T.1)
  obtain ⟨rfl, gi⟩ := q
  have W := T.deep (dp' := dp + 1) hp (by omega)
  rw [show ((dp : Int) + 1) = ((dp + 1 : Nat) : Int) by omega, if_pos gi]
  have PW := W.pr hp P (by omega) (fun v => by unfold g_in at gi; omega)
  refine ca_I (by omega) (c_314 (d := d - 1) H0 PW (by omega) (by omega)) (fun y M3 _ q => ?_) (fun _ _ _ q => q.mo (fun z => by rw [z]; rfl) (fun _ _ z => z) W.1)
  obtain ⟨t2, n2, g2, t12, n12, rfl, R, R6, o1, o2, o5, o6⟩ := q
  rw [g2, Option.bind_some]
  have U := (W.seq hp R w0 (fun _ _ z => z)).deep (dp' := dp) hp (by omega)
  have b1 := R.2.2.2.2.1
  have b2 := R.2.2.2.2.2.2.1
  have PU := U.pr hp P (by omega) (by omega)
  intro M11
  have e20 : M11 = me_sI M3 p 37 (Int32.ofInt (dp : Int)) := by
    show me_sI _ _ _ _ = _
    rw [R.2.2.1, show ((dp + 1 : Nat) : Int) - 1 = (dp : Int) by omega]
  rw [e20]
  clear e20
  clear M11
  refine ca_V (by omega) (c_305 (by omega) PU.1 PU.2.1 (by omega) hl ⟨by omega, by omega⟩) (fun M6 _ q => ?_) (fun _ _ _ q => q.mo (fun z => by rw [g_need, if_neg z]) rE_F U.1)
  obtain ⟨rfl, b3, b4, b5⟩ := q
  have te2 := te_of z0 (by omega) (show ¬ s t2 = 0 by omega)
  have V := U.pass hp (by omega) te2 (fun v => by omega)
  have fA : ∀ i j, nA p (pT (me_sI M3 p 37 (Int32.ofInt (dp : Int))) p t2) i j = nA p M3 i j := fun i j => (pT_A p _ _ i j).trans (dp_A p _ _ i j)
  exact ⟨t2 + 1, n2, by rw [g_need, if_pos ⟨b3, b4, b5⟩], by omega, by omega, rfl, V, R6.eq fun i j _ _ => fA i j, by rw [fA]; exact o1, by rw [fA]; exact o2⟩
theorem e10 (hp : 164 < p) (he : e0 ≤ 2405) (H7 : C7 N X p s c lim gd e0 h k) : C10 N X p s c lim gd e0 h (k + 1) := by
  intro M t n dp D d P hD hdp hk hd
  have ht := P.2.1
  have he1 := P.2.2.1
  rw [g]
  refine b330_0 (ca_V (by omega) (c_311 (by omega) P.1 hp ht (by omega) P.2.2.2.1 (by omega)) (fun M2 _ q => ?_) (fun a M' _ q => q.mo (fun z => by rw [if_neg z]) rS_W fr.rf))
  obtain ⟨rfl, gi⟩ := q
  have W := (P.ps (w := fun _ => False)).deep (dp' := dp + 1) hp (by omega)
  rw [show ((dp : Int) + 1) = ((dp + 1 : Nat) : Int) by omega, if_pos gi]
  have PW := W.pr hp P (by omega) (fun v => by unfold g_in at gi; omega)
  refine ca_I (by omega) (H7 _ t n (dp + 1) D (d - 1) PW hD (by omega) (by omega)) (fun y M3 _ q => ?_) (fun _ _ _ q => q.mo (fun z => z) (fun _ _ z => z) W.1)
  obtain ⟨t2, n2, D2, g2, t12, n12, rfl, R, R6, o1, o2, o5, o6⟩ := q
  have U := (W.seq hp R (fun _ _ z => z)).deep (dp' := dp) hp (by omega)
  intro M11
  have e20 : M11 = me_sI M3 p 37 (Int32.ofInt (dp : Int)) := by
    show me_sI _ _ _ _ = _
    rw [R.2.1.2.2.1, show ((dp + 1 : Nat) : Int) - 1 = (dp : Int) by omega]
  rw [e20]
  have fA := fun i j => dp_A p M3 (Int32.ofInt (dp : Int)) i j
  exact ⟨t2, n2, D2, g2, t12, n12, rfl, U, R6.eq fun i j _ _ => fA i j, by rw [fA]; exact o1, by rw [fA]; exact o2, by rw [fA]; exact o5, by rw [fA]; exact o6⟩
/-- a statement's node -/
theorem st_node {x1 x2 x3 x4 : Int} {d D d0 dp dp' n0 t0 t n : Nat} {M0 M : me_M} {L : List Nat} (hd : 1 ≤ d) (hp : 164 < p) (he : e0 ≤ 2405) (P : pr p s c lim e0 h M0 t0 n0 dp' d0) (Q : ps p s c e0 h D dp M0 n0 t0 d0 (fun _ => False) M t n) (R : RL (nA p M) n0 n L) (t1 : t0 < t) (hn : n + t0 < n0 + t) (ho : 22 ≤ x1 ∧ x1 ≤ 27)
    (k1 : opk (nA p M) x1 x2 x3 x4) (q1 : x2 = -1 ∨ 0 ≤ x2 ∧ x2.toNat ∈ L) (q2 : x3 = -1 ∨ 0 ≤ x3 ∧ x3.toNat ∈ L) (q3 : x4 = -1 ∨ 0 ≤ x4 ∧ x4.toNat ∈ L) (q4 : ∀ k, k ∈ L → (k : Int) = x2 ∨ (k : Int) = x3 ∨ (k : Int) = x4) :
    me_W (mt_G N X) 317 d 0 [some (.inr (.inl (some p, 29, 0))), some (.inl x1), some (.inl x2), some (.inl x3), some (.inl x4), some (.inl (-1)), some (.inl (t0 : Int)), none] [] M (sx_qI (ST p s c e0 h x1 x1 d0 dp M0 n0 t0 (some t)) nt_E) := by
  have b1 := Q.2.1.2.2.2.2.1
  have b2 := P.2.2.2.2.2.2.1
  have b3 := Q.2.1.2.2.2.2.2.1
  have hm : me_i M p 38 = h.1 ∧ h.2 ≤ t0 := by
    rw [Q.1.i (by unfold rS rE fF; omega)]
    exact P.2.2.2.2.2.2.2.1
  have rr : ∀ x : Int, (x = -1 ∨ 0 ≤ x ∧ x.toNat ∈ L) → me_r x := fun x z => by
    rcases z with z | z
    · exact ⟨by omega, by omega⟩
    · have := R.2 _ z.2
      exact ⟨by omega, by omega⟩
  refine (pe_nodeL hd hp Q.2.1 R (by omega) (by omega) t1 hn hm ⟨by omega, by omega⟩ (rr _ q3) k1 (nm_no (by omega)) (rr _ q2) (fun v => by omega) q1 (fun _ => q2) (fun _ => q3) (fun m mv => ?_) (fun m z => Or.inl z) (Or.inl rfl) (fun _ z => z) (fun v => by omega)).mono fun o M' _ g => ?_
  · rcases q4 m mv with z | z | z
    · exact Or.inl z
    · exact Or.inr (Or.inl ⟨by omega, z⟩)
    · exact Or.inr (Or.inr ⟨by omega, z⟩)
  · rcases o with a | _ | x | ⟨q, u⟩ | j <;> first | exact g.elim | skip
    obtain ⟨rfl, V, VL, v0, v2, v5, v6, _, eN⟩ := g
    exact ⟨t, n + 1, D, rfl, t1, by omega, by omega, Q.node hp V eN, VL, by show x1 ≤ nA p M' 0 n; omega, by show nA p M' 0 n ≤ x1; omega, v5, v6⟩
theorem ST.mo {o1 o2 p1 p2 : Int} {d0 dp n0 t0 : Nat} {M0 M : me_M} {go : Option Nat} {r : Int} (H : ST p s c e0 h o1 o2 d0 dp M0 n0 t0 go r M) (h1 : p1 ≤ o1) (h2 : o2 ≤ p2) : ST p s c e0 h p1 p2 d0 dp M0 n0 t0 go r M := by
  obtain ⟨t, n, D, a1, a2, a3, a4, a5, a6, a7, a8, a9⟩ := H
  exact ⟨t, n, D, a1, a2, a3, a4, a5, a6, by omega, by omega, a9⟩
theorem e8 (hp : 164 < p) (he : e0 ≤ 2405) (hl : lim < 2408) (z0 : s e0 = 0) (H9 : C9 N X p s c lim gd e0 h k) : C8 N X p s c lim gd e0 h (k + 1) := by
  intro M t n dp D d P hD hk hd
  have ht := P.2.1
  have he1 := P.2.2.1
  have hz := P.2.2.2.2.2.2.2.2.2.1
  rw [g]
  refine b310_0 (ca_V (by omega) (c_305 (by omega) P.1 ht (by omega) hl ⟨by omega, by omega⟩) (fun M1 _ q => ?_) (fun _ _ _ q => q.mo (fun z => by rw [g_need, if_neg z]; rfl) rS_F fr.rf))
  obtain ⟨rfl, q1, q2, q3⟩ := q
  have te := te_of z0 he1 (by omega)
  have dp20 : dp ≤ 20 := by omega
  have T := (P.ps (w := fun _ => False)).pass hp (by omega) te (fun v => by omega)
  have PT := T.pr hp P (by omega) (by omega)
  rw [show g_need s c lim 123 t = some (t + 1) by rw [g_need, if_pos ⟨q1, q2, q3⟩], Option.bind_some]
  refine ca_V (by omega) (c_311 (by omega) PT.1 hp PT.2.1 (by omega) PT.2.2.2.1 (by omega)) (fun M2 _ q => ?_) (fun a M' _ q => q.mo (fun z => by rw [if_neg z]) rS_W T.1)
  obtain ⟨rfl, gi⟩ := q
  have W := T.deep (dp' := dp + 1) hp (by omega)
  rw [show ((dp : Int) + 1) = ((dp + 1 : Nat) : Int) by omega, if_pos gi, ht]
  exact H9 M _ t n D (t + 1) n dp D d (-1) (-1) P hD dp20 (by omega) (by omega) W ⟨Or.inl ⟨rfl, rfl⟩, fun m m1 m2 => by omega⟩ (Or.inl ⟨rfl, rfl⟩) (fun v => by unfold g_in at gi; omega) (by omega) (by omega)
theorem e9 (hp : 164 < p) (he : e0 ≤ 2405) (hl : lim < 2408) (z0 : s e0 = 0) (H7 : C7 N X p s c lim gd e0 h k) (H9 : C9 N X p s c lim gd e0 h k) : C9 N X p s c lim gd e0 h (k + 1) := by
  intro M0 M t0 n0 d0 t n dp D d bg la P hd0 hdp ht0 hnt Q hC hla hz hk hd
  have hn0 := P.2.2.2.2.2.2.1
  have hte := Q.2.1.2.2.2.2.1
  have hnn := Q.2.1.2.2.2.2.2.1
  have hDD := Q.2.2.2.1
  have hDt := Q.2.2.2.2.1
  have PM := Q.pr hp P (by omega) hz
  rw [g]
  refine b310_19 (ca_I (by omega) (c_307 (by omega) PM.1 PM.2.1 (by omega) ⟨by omega, by omega⟩) (fun y M1 _ q => ?_) (fun _ _ _ q => q.mo (fun z => by rw [if_pos z]) rS_F Q.1))
  obtain ⟨rfl, q0, q⟩ := q
  rw [if_neg q0]
  refine ⟨⟨by omega, by omega⟩, fun z => ?_, fun z => ?_⟩
  · have q1 : s t = 4 ∧ c t = 125 := by omega
    rw [if_pos q1]
    refine ca_I (by omega) (c_299 (by omega) PM.1 PM.2.1 (by omega) hl) (fun y M3 _ q => ?_) (fun _ _ _ q => q.mo (fun z => by rw [if_neg (by omega)]) rS_F Q.1)
    obtain ⟨rfl, rfl, q2⟩ := q
    rw [if_pos q2]
    have te := te_of z0 hte.2 (by omega)
    have T := Q.pass hp (by omega) te (fun v => by omega)
    have U := T.deep (dp' := dp) hp (by omega)
    intro M11
    have e20 : M11 = me_sI (pT M1 p t) p 37 (Int32.ofInt (dp : Int)) := by
      show me_sI _ _ _ _ = _
      rw [T.2.1.2.2.1, show ((dp + 1 : Nat) : Int) - 1 = (dp : Int) by omega]
    rw [e20]
    clear e20
    clear M11
    have fA : ∀ i j, nA p (me_sI (pT M1 p t) p 37 (Int32.ofInt (dp : Int))) i j = nA p M1 i j := fun i j => (dp_A p _ _ i j).trans (pT_A p _ _ i j)
    have hC2 : CH 20 27 (nA p (me_sI (pT M1 p t) p 37 (Int32.ofInt (dp : Int)))) n0 n bg := hC.eq (fun i j _ _ _ => fA i j) fun j _ _ _ => fA 7 j
    have hm : me_i (me_sI (pT M1 p t) p 37 (Int32.ofInt (dp : Int))) p 38 = h.1 ∧ h.2 ≤ t0 := by
      rw [U.1.i (by unfold rS rE fF; omega)]
      exact P.2.2.2.2.2.2.2.1
    have rb : bg = -1 ∨ (n0 : Int) ≤ bg ∧ bg < n ∧ nA p (me_sI (pT M1 p t) p 37 (Int32.ofInt (dp : Int))) 8 bg.toNat = -1 := by
      rcases hC2.1 with v | v
      · exact Or.inl v.1
      · exact Or.inr v
    refine ca_I (by omega) ((pe_node (by omega) hp U.2.1 (by omega) (by omega) (by omega) (by omega) hm ⟨by omega, by omega⟩ (by rcases rb with v | v <;> exact ⟨by omega, by omega⟩) ⟨by omega, by omega⟩ ⟨by omega, by omega⟩ ⟨by omega, by omega⟩ ?_ (nm_no (by omega)) (fun v => by omega) rb (fun _ => Or.inl rfl) (fun _ => Or.inl rfl) (fun m m1 m2 m3 => ?_) (fun m m1 m2 m3 => Or.inr ⟨Or.inr (Or.inr rfl), fun v => by omega⟩) (fun m z => Or.inl z) (Or.inl rfl) (fun _ z => z) (fun v => by omega))) (fun y M6 _ q => ?_) nt_E_no
    · refine Or.inr (Or.inr (Or.inr (Or.inr (Or.inr (Or.inl ⟨rfl, ?_, rfl, rfl⟩)))))
      rcases rb with v | v
      · exact Or.inl v
      · have := hC2.2 bg.toNat (by omega) (by omega) v.2.2
        exact Or.inr ⟨by omega, by omega, by omega⟩
    · rcases (hC2.2 m m1 m2 m3).2.2 with v | ⟨j, v1, v2, v3⟩
      · exact Or.inl v
      · exact Or.inr (Or.inr (Or.inr ⟨j, v1, v2, v3⟩))
    · obtain ⟨rfl, V, ⟨g1, g2, g3, g4, v5, v6⟩, v0, v2, _, eN⟩ := q
      refine ⟨t + 1, n + 1, D, rfl, by omega, by omega, by omega, U.node hp V eN, ⟨fun m a1 a2 a3 => ?_, fun m z => ?_⟩, by show 20 ≤ nA p M6 0 n; omega, by show nA p M6 0 n ≤ 20; omega, v5, v6⟩
      · have := g2 m a1 a2 a3
        rw [show m = n by omega]
        exact List.mem_singleton.mpr rfl
      · rw [List.mem_singleton.mp z]
        exact ⟨by omega, by omega, g3, g4⟩
  rw [if_neg (by omega)]
  refine ca_I (by omega) (H7 M1 t n (dp + 1) D (d - 1) PM (by omega) (by omega) (by omega)) (fun y M3 _ q => ?_) (fun _ _ _ q => q.mo (fun z => by rw [z]; rfl) (rS_mo hnn hDD) Q.1)
  obtain ⟨t1, n1, D1, g1, t11, n11, rfl, R, R6, o1, o2, o5, o6⟩ := q
  have hdp2 : dp + 1 ≤ 20 := by
    by_cases v : 20 < dp + 1
    · have := (g_sg (lim := lim) (dp := dp + 1) (gd := gd) (hz v) k 0).2.2.2
      rw [g1] at this
      cases this
    · omega
  rw [g1, Option.bind_some]
  have hte1 := R.2.1.2.2.2.2.1
  have hnn1 := R.2.1.2.2.2.2.2.2.1
  have U := Q.seq hp R (fun _ _ z => z)
  have kA : ∀ i j, i < 11 → j < n → nA p M3 i j = nA p M1 i j := fun i j i1 j1 => R.keep hp i1 j1
  have r8 := (R6.2 _ List.mem_cons_self).2.2.1
  have r7 := (R6.2 _ List.mem_cons_self).2.2.2
  have eq1 : ((n1 : Int) - 1) = ((n1 - 1 : Nat) : Int) := by omega
  refine ⟨by rcases hla with z | z <;> exact ⟨by omega, by omega⟩, fun v => ?_, fun v => ?_⟩
  · rcases hla with z | ⟨z1, z2, z3, z4⟩
    · omega
    · refine ⟨by omega, by omega, ?_⟩
      have la1 : nA p M3 8 la.toNat = -1 := by rw [kA 8 _ (by omega) (by omega)]; exact z3
      have la2 : nA p M3 7 la.toNat = -1 := by rw [kA 7 _ (by omega) (by omega)]; exact z4
      have la3 := (hC.2 la.toNat (by omega) (by omega) z3)
      have la4 := kA 0 la.toNat (by omega) (by omega)
      have la5 := ((Q.2.1.2.2.2.2.2.2.2.1) la.toNat (by omega) (by omega)).2.2.1.2.2.1
      have U2 := U.link hp (l := la.toNat) (r := n1 - 1) (by omega) (by omega) (by omega) (by omega) la1 r8 (Or.inr ⟨by omega, by omega⟩) (by rw [kA 6 _ (by omega) (by omega), o5]; omega) la2
      have hC1 : CH 20 27 (nA p M3) n0 n bg := hC.eq (fun i j i1 _ j1 => kA i j i1 j1) fun j j1 _ _ => kA 7 j (by omega) j1
      rw [← eq1] at U2
      have lA : ∀ i j, i < 11 → ¬ (i = 7 ∧ j = la.toNat) → nA p (me_sI M3 (p + 21) la.toNat (Int32.ofInt ((n1 : Int) - 1))) i j = nA p M3 i j := fun i j i1 i2 => lk_A i j i2 i1
      refine H9 M0 _ t0 n0 d0 t1 n1 dp D1 d bg ((n1 : Int) - 1) P hd0 hdp (by omega) (by omega) U2 ?_ (Or.inr ⟨by omega, by omega, ?_, ?_⟩) (by omega) (by omega) hd
      · refine CH.app (n := n) (l := la.toNat) (hC1.eq (fun i j i1 i2 _ => lA i j i1 (fun w => i2 w.1)) fun j j1 j2 j3 => lA 7 j (by omega) fun w => j3 (by rw [w.2]; exact la2)) (R6.eq' ?_) n11 ?_ ?_ (by omega) (by omega) ?_ ?_
        · intro i j i1 j1 j2
          exact lA i j i1 (by omega)
        · rw [lA 0 _ (by omega) (by omega)]
          exact o1
        · rw [lA 0 _ (by omega) (by omega)]
          exact o2
        · rw [lA 8 _ (by omega) (by omega)]
          exact la1
        · show me_i (me_sI _ _ _ _) _ _ = _
          rw [me_i_sI, if_pos ⟨rfl, rfl⟩, me_to ⟨by omega, by omega⟩, eq1]
      · rw [lA 8 _ (by omega) (by omega), show ((n1 : Int) - 1).toNat = n1 - 1 by omega]
        exact r8
      · rw [lA 7 _ (by omega) (by omega), show ((n1 : Int) - 1).toNat = n1 - 1 by omega]
        exact r7
  · rcases hla with z | z
    · obtain ⟨_, rfl⟩ := z
      refine H9 M0 M3 t0 n d0 t1 n1 dp D1 d ((n1 : Int) - 1) ((n1 : Int) - 1) P hd0 hdp (by omega) (by omega) U (CH.one R6 n11 o1 o2) (Or.inr ⟨by omega, by omega, ?_, ?_⟩) (by omega) (by omega) hd
      · rw [show ((n1 : Int) - 1).toNat = n1 - 1 by omega]
        exact r8
      · rw [show ((n1 : Int) - 1).toNat = n1 - 1 by omega]
        exact r7
    · omega
end STATS
