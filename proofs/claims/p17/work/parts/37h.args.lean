/-! the reference's parser: arguments, operands -/
section EXPS3
variable {N : Nat} {X : Nat → Int32} {p : Nat} {s c : Nat → Int} {lim : Nat} {gd : Nat → Option Nat} {e0 : Nat} {h : Int × Nat} {k : Nat}
theorem te_of {t : Nat} (z0 : s e0 = 0) (h1 : t ≤ e0) (h2 : ¬ s t = 0) : t < e0 := by
  have : ¬ t = e0 := fun v => h2 (by rw [v, z0])
  omega
theorem c_314 {D d t n dp : Nat} {M : me_M} (H0 : C0 N X p s c lim gd e0 h k) (P : pr p s c lim e0 h M t n dp D) (hk : 32 * (e0 + 1 - t) + 13 ≤ k) (hd : 20 * (22 - dp) + 17 ≤ d) :
    me_W (mt_G N X) 314 d 0 [some (.inr (.inl (some p, 29, 0)))] [] M (sx_qI (EX p s e0 h 1 16 D dp M n t (g s c lim gd k 0 1 t dp)) (px (g s c lim gd k 0 1 t dp = none) (rE p n) M)) :=
  b314_0 (ca_I (by omega) (H0 M 1 t n dp D (d - 1) P (by omega) (by omega) (by omega) (by omega)) (fun _ _ _ q => q) (fun _ _ _ q => q))
/-- a node with a chain of arguments: 8 or 12 -/
theorem pe_args {x1 x2 x3 x5 : Int} {d D dp dp' n0 t0 n n1 t : Nat} {M0 M : me_M} {w : Nat → Prop} (hd : 1 ≤ d) (hp : 164 < p) (he : e0 ≤ 2405) (P : pr p s c lim e0 h M0 t0 n0 dp' D) (Q : pe p s e0 h D dp M0 n0 t0 w M t n1) (hn : n1 + t0 < n0 + t) (t1 : t0 < t) (nn : n0 ≤ n) (nn1 : n ≤ n1) (r : Int) (hC : CH 1 16 (nA p M) n n1 r)
    (ho : x1 = 8 ∧ x2 = r ∧ x3 = -1 ∧ n = n0 ∨ x1 = 12 ∧ x3 = r ∧ n0 < n ∧ x2 = (n : Int) - 1 ∧ RL (nA p M) n0 n [n - 1] ∧ 1 ≤ nA p M 0 (n - 1) ∧ nA p M 0 (n - 1) ≤ 16) (k2 : nmk s t x1 x5) (hw : ∀ k, w k → x5 = (k : Int)) (hx0 : x5 = -1 ∨ (t0 : Int) ≤ x5 ∧ w x5.toNat) (kc : x5 + 3 ≤ t) :
    me_W (mt_G N X) 317 d 0 [some (.inr (.inl (some p, 29, 0))), some (.inl x1), some (.inl x2), some (.inl x3), some (.inl (-1)), some (.inl x5), some (.inl (t0 : Int)), none] [] M (sx_qI (fun y M' => EX p s e0 h 1 16 D dp M0 n0 t0 (some t) y M' ∧ y = (n1 : Int)) nt_E) := by
  have b1 := Q.2.2.2.2.1
  have b2 := P.2.2.2.2.2.2.1
  have hm : me_i M p 38 = h.1 ∧ h.2 ≤ t0 := by
    rw [Q.1.i (by unfold rE fF; omega)]
    exact P.2.2.2.2.2.2.2.1
  obtain ⟨hC1, hC2⟩ := hC
  have hr : r = -1 ∧ n1 = n ∨ (n : Int) ≤ r ∧ r < n1 ∧ nA p M 8 r.toNat = -1 ∧ ex (nA p M) r := by
    rcases hC1 with z | ⟨z1, z2, z3⟩
    · exact Or.inl z
    · have := hC2 r.toNat (by omega) (by omega) z3
      exact Or.inr ⟨z1, z2, z3, by omega, by omega, by omega⟩
  have hop : opk (nA p M) x1 x2 x3 (-1) := by
    rcases ho with ⟨rfl, rfl, rfl, rfl⟩ | ⟨rfl, rfl, n3, rfl, _, o1, o2⟩
    · refine Or.inr (Or.inl ⟨rfl, ?_, rfl, rfl⟩)
      rcases hr with z | z
      · exact Or.inl z.1
      · exact Or.inr z.2.2.2
    · have i1 : ((n : Int) - 1).toNat = n - 1 := by omega
      refine Or.inr (Or.inr (Or.inr (Or.inl ⟨rfl, ⟨by omega, by rw [i1]; exact o1, by rw [i1]; exact o2⟩, ?_, rfl⟩)))
      rcases hr with z | z
      · exact Or.inl z.1
      · exact Or.inr ⟨z.2.2.2, by omega⟩
  have rr : me_r r := by
    rcases hr with z | z
    · exact ⟨by omega, by omega⟩
    · exact ⟨by omega, by omega⟩
  have r5 : me_r x5 := by
    unfold nmk at k2
    exact ⟨by omega, by omega⟩
  refine (pe_node (w' := fun _ => False) hd hp Q (by omega) (by omega) t1 hn hm ⟨by omega, by omega⟩ (by rcases ho with z | z; (rw [z.2.1]; exact rr); (rw [z.2.2.2.1]; exact ⟨by omega, by omega⟩)) (by rcases ho with z | z; (rw [z.2.2.1]; exact ⟨by omega, by omega⟩); (rw [z.2.1]; exact rr)) ⟨by omega, by omega⟩ r5 hop k2 (fun v => by omega) ?_ ?_ (fun _ => Or.inl rfl) (fun m m1 m2 m3 => ?_) (fun m m1 m2 m3 => ?_) (fun m mv => Or.inr (hw m mv)) (pe_fresh Q hx0) (fun _ z => z.elim) (fun _ => kc)).mono fun o M' _ g => ?_
  · rcases ho with ⟨rfl, rfl, rfl, rfl⟩ | ⟨rfl, rfl, n3, rfl, R, _⟩
    · rcases hr with z | z
      · exact Or.inl z.1
      · exact Or.inr ⟨z.1, z.2.1, z.2.2.1⟩
    · refine Or.inr ⟨by omega, by omega, ?_⟩
      rw [show ((n : Int) - 1).toNat = n - 1 by omega]
      exact (R.2 _ List.mem_cons_self).2.2.1
  · intro _
    rcases ho with ⟨rfl, rfl, rfl, rfl⟩ | ⟨rfl, rfl, n3, rfl, R, _⟩
    · exact Or.inl rfl
    · rcases hr with z | z
      · exact Or.inl z.1
      · exact Or.inr ⟨by omega, z.2.1, z.2.2.1⟩
  · by_cases cm : m < n
    · rcases ho with z | ⟨rfl, rfl, n3, rfl, R, _⟩
      · omega
      · have := List.mem_singleton.mp (R.1 m m1 cm m3)
        exact Or.inl (by omega)
    · rcases (hC2 m (by omega) m2 m3).2.2 with v | ⟨j, v1, v2⟩
      · rcases ho with ⟨rfl, rfl, rfl, rfl⟩ | ⟨rfl, rfl, n3, rfl, R, _⟩
        · exact Or.inl v
        · exact Or.inr (Or.inl ⟨by omega, v⟩)
      · exact Or.inr (Or.inr (Or.inr ⟨j, by omega, v2⟩))
  · rcases ho with ⟨rfl, rfl, rfl, rfl⟩ | ⟨rfl, rfl, n3, rfl, R, _⟩
    · exact Or.inr ⟨Or.inl rfl, by omega⟩
    · by_cases cm : m < n
      · exact Or.inl (R.2 m (R.1 m m1 cm m3)).2.2.2
      · exact Or.inr ⟨Or.inr (Or.inl rfl), by omega⟩
  · rcases o with a | _ | x | ⟨q, u⟩ | j <;> first | exact g.elim | skip
    obtain ⟨rfl, V, ⟨g1, g2, g3, g4, v5, v6⟩, v0, v2, _⟩ := g
    refine ⟨mkEX V ⟨fun m a1 a2 a3 => ?_, fun m z => ?_⟩ v0 (by omega) (by omega) v5 v6 t1 (by omega), rfl⟩
    · have := g2 m a1 a2 a3
      rw [show m = n1 by omega]
      exact List.mem_singleton.mpr rfl
    · rw [List.mem_singleton.mp z]
      exact ⟨by omega, by omega, g3, g4⟩
theorem e5 (hp : 164 < p) (he : e0 ≤ 2405) (hl : lim < 2408) (z0 : s e0 = 0) (H6 : C6 N X p s c lim gd e0 h k) : C5 N X p s c lim gd e0 h (k + 1) := by
  intro M t n dp D d P hdp hk hd
  have ht := P.2.1
  have he1 := P.2.2.1
  rw [g]
  refine b320_0 (ca_V (by omega) (c_305 (by omega) P.1 ht (by omega) hl ⟨by omega, by omega⟩) (fun M1 _ q => ?_) (fun _ _ _ q => q.mo (fun z => by rw [g_need, if_neg z]; rfl) rE_F fr.rf))
  obtain ⟨rfl, q1, q2, q3⟩ := q
  have te := te_of z0 he1 (by omega)
  have T := (P.st (w := fun _ => False)).pass hp (by omega) te (fun v => by omega)
  have PT := T.pr hp P (by omega) (by omega)
  rw [show g_need s c lim 40 t = some (t + 1) by rw [g_need, if_pos ⟨q1, q2, q3⟩]]
  show ∃ d', _
  simp only [Option.bind_some]
  refine ca_I (by omega) (c_306 (by omega) PT.1 PT.2.1 (by omega) hl ⟨by omega, by omega⟩) (fun y M1 _ q => ?_) (fun _ _ _ q => q.mo (fun z => by
    rcases z with z | z
    · rw [if_pos z]
    · rw [if_neg (by omega), if_pos ⟨z.1, z.2.1⟩, if_neg (by omega)]) rE_F T.1)
  rcases q with ⟨rfl, rfl, a1, a2, a3⟩ | ⟨rfl, rfl, a1, a2⟩
  · have te2 := te_of z0 (by omega) (show ¬ s (t + 1) = 0 by omega)
    have T2 := T.pass hp (by omega) te2 (fun v => by omega)
    refine ⟨⟨by omega, by omega⟩, fun v => by omega, fun _ => ⟨t + 1 + 1, n, by rw [if_neg (by omega), if_pos ⟨a1, a2⟩, if_pos a3], by omega, by omega, T2, Or.inl ⟨rfl, rfl⟩, fun m m1 m2 => by omega⟩⟩
  · refine ⟨⟨by omega, by omega⟩, fun _ => ?_, fun v => by omega⟩
    rw [if_neg a1, if_neg a2]
    refine ca_V (by omega) (c_311 (by omega) PT.1 hp PT.2.1 (by omega) PT.2.2.2.1 (by omega)) (fun M2 _ q => ?_) (fun a M' _ q => q.mo (fun z => by rw [if_neg z]) rE_W T.1)
    obtain ⟨rfl, gi⟩ := q
    have W := T.deep (dp' := dp + 1) hp (by omega)
    rw [show ((dp : Int) + 1) = ((dp + 1 : Nat) : Int) by omega, if_pos gi]
    exact H6 M _ t n (t + 1) n dp D d (-1) (-1) P hdp (by omega) (by omega) W ⟨Or.inl ⟨rfl, rfl⟩, fun m m1 m2 => by omega⟩ (Or.inl ⟨rfl, rfl⟩) (fun v => by unfold g_in at gi; omega) (by omega) (by omega)
theorem lk_A {M : me_M} {l : Nat} {x : Int32} (i j : Nat) (hi : ¬ (i = 7 ∧ j = l)) (hi2 : i < 11) : nA p (me_sI M (p + 21) l x) i j = nA p M i j := by
  have f1 : fr (fun b j => b = p + 21 ∧ j = l) M (me_sI M (p + 21) l x) := fr_sI ⟨rfl, rfl⟩
  exact f1.i (by omega)
/-- a root is hung behind the last of a chain -/
theorem pe.link {D dp n0 t0 t n : Nat} {M0 M : me_M} {w : Nat → Prop} (hp : 164 < p) (Q : pe p s e0 h D dp M0 n0 t0 w M t n) {l r : Nat} (h8 : n < 2147483647) (l1 : n0 ≤ l) (l2 : l < r) (l3 : r < n) (rl : nA p M 8 l = -1) (rr : nA p M 8 r = -1) (ko : nA p M 0 l ≤ 16 ∧ nA p M 0 r ≤ 16 ∨ 20 ≤ nA p M 0 l ∧ 20 ≤ nA p M 0 r) (lt : nA p M 6 l < nA p M 5 r) (nl : nA p M 7 l = -1) : pe p s e0 h D dp M0 n0 t0 w (me_sI M (p + 21) l (Int32.ofInt (r : Int))) t n := by
  obtain ⟨f, q1, q2, q3, q4, q5, q6, q7, q8, q9⟩ := Q
  have f1 : fr (fun b j => b = p + 21 ∧ j = l) M (me_sI M (p + 21) l (Int32.ofInt (r : Int))) := fr_sI ⟨rfl, rfl⟩
  have fB : ∀ i j, i < 10 → tA p (me_sI M (p + 21) l (Int32.ofInt (r : Int))) i j = tA p M i j := fun i j _ => f1.i (by omega)
  refine ⟨f.tr (f1.mo fun b j z => Or.inr (Or.inr (Or.inl ⟨by omega, by omega, by omega⟩))), ?_, ?_, ?_, q4, q5, q6, ?_, fun k k1 k2 k3 => ?_, q9.eq fun m _ _ => lk_A 4 m (by omega) (by omega)⟩
  · rw [f1.i (by omega), q1]
  · rw [f1.i (by omega), q2]
  · rw [f1.i (by omega), q3]
  · refine (q7.link l1 l2 l3 rl rr ko lt nl ?_ fun i j i1 i2 => lk_A i j i2 i1).eq (fun _ _ _ _ _ => rfl) fun j _ => fB 0 j (by omega)
    show me_i (me_sI _ _ _ _) _ _ = _
    rw [me_i_sI, if_pos ⟨rfl, rfl⟩, me_to ⟨by omega, by omega⟩]
  · rcases q8 k k1 k2 k3 with z | ⟨m, z1, z2, z3⟩
    · exact Or.inl z
    · exact Or.inr ⟨m, z1, z2, by rw [lk_A 4 m (by omega) (by omega)]; exact z3⟩
theorem CH.eq {o1 o2 r : Int} {A A' : Nat → Nat → Int} {n0 n : Nat} (H : CH o1 o2 A n0 n r) (e : ∀ i j, i < 11 → ¬ i = 7 → j < n → A' i j = A i j) (e7 : ∀ j, j < n → A 8 j = -1 → ¬ A 7 j = -1 → A' 7 j = A 7 j) : CH o1 o2 A' n0 n r := by
  obtain ⟨H1, H2⟩ := H
  refine ⟨?_, fun m m1 m2 m3 => ?_⟩
  · rcases H1 with z | z
    · exact Or.inl z
    · exact Or.inr ⟨z.1, z.2.1, by rw [e 8 _ (by omega) (by omega) (by omega)]; exact z.2.2⟩
  · rw [e 8 m (by omega) (by omega) m2] at m3
    obtain ⟨v1, v2, v3⟩ := H2 m m1 m2 m3
    refine ⟨by rw [e 0 m (by omega) (by omega) m2]; exact v1, by rw [e 0 m (by omega) (by omega) m2]; exact v2, ?_⟩
    rcases v3 with v | ⟨j, j1, j2, j3, j4⟩
    · exact Or.inl v
    · exact Or.inr ⟨j, j1, j2, by rw [e 8 j (by omega) (by omega) (by omega)]; exact j3, by rw [e7 j (by omega) j3 (by omega)]; exact j4⟩
/-- a chain that was linked to the tree behind it -/
theorem CH.app {o1 o2 r : Int} {A : Nat → Nat → Int} {n0 n n1 l : Nat} (H : CH o1 o2 A n0 n r) (R : RL A n n1 [n1 - 1]) (nn : n < n1) (h1 : o1 ≤ A 0 (n1 - 1)) (h2 : A 0 (n1 - 1) ≤ o2) (l0 : n0 ≤ l) (l1 : l < n) (l2 : A 8 l = -1) (l3 : A 7 l = ((n1 - 1 : Nat) : Int)) : CH o1 o2 A n0 n1 r := by
  obtain ⟨H1, H2⟩ := H
  refine ⟨?_, fun m m1 m2 m3 => ?_⟩
  · rcases H1 with z | z
    · omega
    · exact Or.inr ⟨z.1, by omega, z.2.2⟩
  · by_cases cm : m < n
    · exact H2 m m1 cm m3
    · have := List.mem_singleton.mp (R.1 m (by omega) m2 m3)
      subst this
      exact ⟨h1, h2, Or.inr ⟨l, l0, by omega, l2, l3⟩⟩
theorem CH.one {o1 o2 : Int} {A : Nat → Nat → Int} {n0 n1 : Nat} (R : RL A n0 n1 [n1 - 1]) (nn : n0 < n1) (h1 : o1 ≤ A 0 (n1 - 1)) (h2 : A 0 (n1 - 1) ≤ o2) : CH o1 o2 A n0 n1 ((n1 : Int) - 1) := by
  refine ⟨Or.inr ⟨by omega, by omega, ?_⟩, fun m m1 m2 m3 => ?_⟩
  · rw [show ((n1 : Int) - 1).toNat = n1 - 1 by omega]
    exact (R.2 _ List.mem_cons_self).2.2.1
  · have := List.mem_singleton.mp (R.1 m m1 m2 m3)
    subst this
    exact ⟨h1, h2, Or.inl (by omega)⟩
theorem e6 (hp : 164 < p) (he : e0 ≤ 2405) (hl : lim < 2408) (z0 : s e0 = 0) (H0 : C0 N X p s c lim gd e0 h k) (H6 : C6 N X p s c lim gd e0 h k) : C6 N X p s c lim gd e0 h (k + 1) := by
  intro M0 M t0 n0 t n dp D d bg la P hdp ht0 hnt Q hC hla hz hk hd
  have hn0 := P.2.2.2.2.2.2.1
  have hte := Q.2.2.2.2.1
  have hnn := Q.2.2.2.2.2.1
  have PM := Q.pr hp P (by omega) hz
  rw [g]
  refine b320_25 (ca_I (by omega) (c_314 (d := d - 1) H0 PM (by omega) (by omega)) (fun y M1 _ q => ?_) (fun _ _ _ q => q.mo (fun z => by rw [z]; rfl) (rE_mo hnn) Q.1))
  obtain ⟨t1, n1, g1, t11, n11, rfl, R, R6, o1, o2, o5, o6⟩ := q
  have hdp2 : dp + 1 ≤ 20 := by
    by_cases v : 20 < dp + 1
    · have := (g_sg (lim := lim) (dp := dp + 1) (gd := gd) (hz v) k 1).1
      rw [g1] at this
      cases this
    · omega
  rw [g1]
  simp only [Option.bind_some]
  have hte1 := R.2.2.2.2.1
  have hnn1 := R.2.2.2.2.2.2.1
  -- what follows, from the memory with the link
  have K : ∀ (M5 : me_M) (bg' : Int), pe p s e0 h D (dp + 1) M0 n0 t0 (fun _ => False) M5 t1 n1 → CH 1 16 (nA p M5) n0 n1 bg' → nA p M5 8 (n1 - 1) = -1 → nA p M5 7 (n1 - 1) = -1 → ∀ Q0 : me_Q, Q0 = sx_qI (AR p s e0 h D dp M0 n0 t0 (if s t1 = -1 then none else if s t1 = 4 ∧ c t1 = 44 then (if t1 < lim then g s c lim gd k 6 0 (t1 + 1) (dp + 1) else none) else g_need s c lim 41 t1)) (px ((if s t1 = -1 then none else if s t1 = 4 ∧ c t1 = 44 then (if t1 < lim then g s c lim gd k 6 0 (t1 + 1) (dp + 1) else none) else g_need s c lim 41 t1) = none) (rE p n0) M0) →
      ∃ d', d = d' + 1 ∧ me_W (mt_G N X) 306 d' 0 [some (.inr (.inl (some p, 29, 0))), some (.inl 44)] [] M5 (sx_qI (fun y9 M6 => me_r y9 ∧ (¬ y9 = 0 → me_W (mt_G N X) 320 d 25 [some (.inr (.inl (some p, 29, 0))), some (.inl bg'), some (.inl ((n1 : Int) - 1)), none] [] M6 Q0) ∧ (y9 = 0 → let M10 : me_M := me_sI M6 p 37 (Int32.ofInt ((me_i M6 p 37) - 1)); ∃ d', d = d' + 1 ∧ me_W (mt_G N X) 305 d' 0 [some (.inr (.inl (some p, 29, 0))), some (.inl 41)] [] M10 (sx_qV (fun M11 => Q0 (.inr (some (.inl bg'))) M11) (fun e13 M12 => Q0 (.inl e13) M12)))) (fun e8 M7 => Q0 (.inl e8) M7)) := by
    intro M5 bg' V hC5 v8 v7 Q0 hQ0
    subst hQ0
    have PV := V.pr hp P (by omega) (by omega)
    refine ca_I (by omega) (c_306 (by omega) PV.1 PV.2.1 (by omega) hl ⟨by omega, by omega⟩) (fun y M6 _ q => ?_) (fun _ _ _ q => q.mo (fun z => by
      rcases z with z | z
      · rw [if_pos z]
      · rw [if_neg (by omega), if_pos ⟨z.1, z.2.1⟩, if_neg (by omega)]) rE_F V.1)
    rcases q with ⟨rfl, rfl, a1, a2, a3⟩ | ⟨rfl, rfl, a1, a2⟩
    · refine ⟨⟨by omega, by omega⟩, fun _ => ?_, fun v => by omega⟩
      rw [if_neg (by omega), if_pos ⟨a1, a2⟩, if_pos a3]
      have te2 := te_of z0 (by omega) (show ¬ s t1 = 0 by omega)
      have T2 := V.pass hp (by omega) te2 (fun v => by omega)
      refine H6 M0 _ t0 n0 (t1 + 1) n1 dp D d bg' ((n1 : Int) - 1) P hdp (by omega) (by omega) T2 (hC5.eq (fun i j _ _ _ => pT_A p t1 M5 i j) fun j _ _ _ => pT_A p t1 M5 7 j) (Or.inr ⟨by omega, by omega, ?_, ?_⟩) (by omega) (by omega) hd
      · rw [pT_A, show ((n1 : Int) - 1).toNat = n1 - 1 by omega]
        exact v8
      · rw [pT_A, show ((n1 : Int) - 1).toNat = n1 - 1 by omega]
        exact v7
    · refine ⟨⟨by omega, by omega⟩, fun v => by omega, fun _ => ?_⟩
      rw [if_neg a1, if_neg a2]
      intro M10
      have e10 : M10 = me_sI M6 p 37 (Int32.ofInt (dp : Int)) := by
        show me_sI _ _ _ _ = _
        rw [V.2.2.1, show ((dp + 1 : Nat) : Int) - 1 = (dp : Int) by omega]
      rw [e10]
      clear e10
      clear M10
      have V2 := V.deep (dp' := dp) hp (by omega)
      have PV2 := V2.pr hp P (by omega) (by omega)
      refine ca_V (by omega) (c_305 (by omega) PV2.1 PV2.2.1 (by omega) hl ⟨by omega, by omega⟩) (fun M11 _ q => ?_) (fun _ _ _ q => q.mo (fun z => by rw [g_need, if_neg z]) rE_F V2.1)
      obtain ⟨rfl, b1, b2, b3⟩ := q
      have te2 := te_of z0 (by omega) (show ¬ s t1 = 0 by omega)
      have V3 := V2.pass hp (by omega) te2 (fun v => by omega)
      refine ⟨t1 + 1, n1, by rw [g_need, if_pos ⟨b1, b2, b3⟩], by omega, by omega, V3, hC5.eq (fun i j _ _ _ => (pT_A p t1 _ i j).trans (dp_A p M6 _ i j)) fun j _ _ _ => (pT_A p t1 _ 7 j).trans (dp_A p M6 _ 7 j)⟩
  have U := Q.seq hp R w0 (fun _ _ z => z)
  have kA : ∀ i j, i < 11 → j < n → nA p M1 i j = nA p M i j := fun i j i1 j1 => R.keep hp i1 j1
  have r8 := (R6.2 _ List.mem_cons_self).2.2.1
  have r7 := (R6.2 _ List.mem_cons_self).2.2.2
  refine ⟨by rcases hla with z | z <;> exact ⟨by omega, by omega⟩, fun v => ?_, fun v => ?_⟩
  · rcases hla with z | ⟨z1, z2, z3, z4⟩
    · omega
    · refine ⟨by omega, by omega, ?_⟩
      have eq1 : ((n1 : Int) - 1) = ((n1 - 1 : Nat) : Int) := by omega
      have la1 : nA p M1 8 la.toNat = -1 := by rw [kA 8 _ (by omega) (by omega)]; exact z3
      have la2 : nA p M1 7 la.toNat = -1 := by rw [kA 7 _ (by omega) (by omega)]; exact z4
      have la3 := (hC.2 la.toNat (by omega) (by omega) z3)
      have la4 := kA 0 la.toNat (by omega) (by omega)
      have la5 := ((Q.2.2.2.2.2.2.2.1) la.toNat (by omega) (by omega)).2.2.1.2.2.1
      have U2 := U.link hp (l := la.toNat) (r := n1 - 1) (by omega) (by omega) (by omega) (by omega) la1 r8 (Or.inl ⟨by omega, by omega⟩) (by rw [kA 6 _ (by omega) (by omega), o5]; omega) la2
      have hC1 : CH 1 16 (nA p M1) n0 n bg := hC.eq (fun i j i1 _ j1 => kA i j i1 j1) fun j j1 _ _ => kA 7 j (by omega) j1
      rw [← eq1] at U2
      have lA : ∀ i j, i < 11 → ¬ (i = 7 ∧ j = la.toNat) → nA p (me_sI M1 (p + 21) la.toNat (Int32.ofInt ((n1 : Int) - 1))) i j = nA p M1 i j := fun i j i1 i2 => lk_A i j i2 i1
      refine K _ bg U2 ?_ ?_ ?_ _ rfl
      · refine CH.app (n := n) (l := la.toNat) (hC1.eq (fun i j i1 i2 _ => lA i j i1 (fun w => i2 w.1)) fun j j1 j2 j3 => lA 7 j (by omega) fun w => j3 (by rw [w.2]; exact la2)) (R6.eq' ?_) n11 ?_ ?_ (by omega) (by omega) ?_ ?_
        · intro i j i1 j1 j2
          exact lA i j i1 (by omega)
        · rw [lA 0 _ (by omega) (by omega)]
          exact o1
        · rw [lA 0 _ (by omega) (by omega)]
          exact o2
        · rw [lA 8 _ (by omega) (by omega)]
          exact la1
        · show me_i (me_sI _ _ _ _) _ _ = _
          rw [me_i_sI, if_pos ⟨rfl, rfl⟩, me_to ⟨by omega, by omega⟩, eq1]
      · rw [lA 8 _ (by omega) (by omega)]
        exact r8
      · rw [lA 7 _ (by omega) (by omega)]
        exact r7
  · rcases hla with z | z
    · obtain ⟨_, rfl⟩ := z
      exact K M1 ((n1 : Int) - 1) U (CH.one R6 n11 o1 o2) r8 r7 _ rfl
    · omega
end EXPS3
