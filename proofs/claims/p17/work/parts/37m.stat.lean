/-! the reference's parser: a statement; all of them -/
section STAT
variable {N : Nat} {X : Nat → Int32} {p : Nat} {s c : Nat → Int} {lim : Nat} {gd : Nat → Option Nat} {e0 : Nat} {h : Int × Nat} {k : Nat}
theorem ca_I' {G : mv_G} {z d pc : Nat} {L : List (Option me_V)} {st : List me_V} {M : me_M} {P K : Int → me_M → Prop} {F E : Nat → me_M → Prop} (h : ∃ d', d = d' + 1 ∧ me_W G z d' pc L st M (sx_qI P F)) (k : ∀ x M', P x M' → K x M') (e : ∀ a M', me_ext M M' → F a M' → E a M') : ∃ d', d = d' + 1 ∧ me_W G z d' pc L st M (sx_qI K E) := by
  obtain ⟨d', h1, h2⟩ := h
  exact ca_I (by omega) (by rw [show d - 1 = d' by omega]; exact h2) (fun x M' _ q => k x M' q) e
theorem ex_of {A : Nat → Nat → Int} {n : Nat} (h0 : 0 < n) (h1 : 1 ≤ A 0 (n - 1)) (h2 : A 0 (n - 1) ≤ 16) : ex A ((n : Int) - 1) := by
  unfold ex
  rw [show ((n : Int) - 1).toNat = n - 1 by omega]
  exact ⟨by omega, h1, h2⟩
theorem sm_of {A : Nat → Nat → Int} {n : Nat} (h0 : 0 < n) (h1 : 20 ≤ A 0 (n - 1)) (h2 : A 0 (n - 1) ≤ 27) : sm A ((n : Int) - 1) := by
  unfold sm
  rw [show ((n : Int) - 1).toNat = n - 1 by omega]
  exact ⟨by omega, h1, h2⟩
theorem in_of {n : Nat} {L : List Nat} (h0 : 0 < n) (h : n - 1 ∈ L) : (n : Int) - 1 = -1 ∨ 0 ≤ (n : Int) - 1 ∧ ((n : Int) - 1).toNat ∈ L := Or.inr ⟨by omega, by rw [show ((n : Int) - 1).toNat = n - 1 by omega]; exact h⟩
set_option maxHeartbeats 4000000 in
theorem e7 (hp : 164 < p) (he : e0 ≤ 2405) (hl : lim < 2408) (z0 : s e0 = 0) (H0 : C0 N X p s c lim gd e0 h k) (H8 : C8 N X p s c lim gd e0 h k) (H10 : C10 N X p s c lim gd e0 h k) (H11 : C11 N X p s c lim gd e0 h k) : C7 N X p s c lim gd e0 h (k + 1) := by
  intro M t n dp D d P hD hk hd
  have ht := P.2.1
  have he1 := P.2.2.1
  have hz := P.2.2.2.2.2.2.2.2.2.1
  have hn0 := P.2.2.2.2.2.2.1
  have S0 : ps p s c e0 h D dp M n t D (fun _ => False) M t n := P.ps
  rw [g]
  refine b312_0 (ca_I (by omega) (c_307 (by omega) P.1 ht (by omega) ⟨by omega, by omega⟩) (fun y M1 _ q => ?_) (fun _ _ _ q => q.mo (fun z => by rw [if_pos z]) rS_F fr.rf))
  obtain ⟨rfl, q0, q⟩ := q
  rw [if_neg q0, ht]
  refine ⟨⟨by omega, by omega⟩, fun z => ?_, fun z => ?_⟩
  rotate_left
  · rw [if_pos (by omega)]
    exact ca_I (by omega) (H8 M1 t n dp D (d - 1) P hD (by omega) (by omega)) (fun y M2 _ q => q.mo (by omega) (by omega)) (fun _ _ _ q => q)
  rw [if_neg (by omega)]
  refine ca_I (by omega) (c_313 (by omega) P.1 ht (by omega)) (fun y M2 _ q1 => ?_) (fun _ _ _ q => absurd q.2.1 q0)
  obtain ⟨rfl, _, q1⟩ := q1
  refine ⟨⟨by omega, by omega⟩, fun z1 => ?_, fun z1 => ?_⟩
  rotate_left
  · have lo : g_lo s c t := by
      rcases q1 with v | v
      · exact v.2
      · omega
    rw [if_pos lo]
    exact e7l hp he hl z0 H0 P hD lo hk hd (fun y M' q => q) (fun a M' q => q)
  have nlo : ¬ g_lo s c t := by
    rcases q1 with v | v
    · omega
    · exact v.2
  rw [if_neg nlo]
  clear q1
  -- what ends with exp ;
  have fin1 : ∀ (M1 M3 : me_M) (t1 n1 t2 n2 : Nat) (o : Int) (go : Option Nat), ps p s c e0 h D dp M2 n t D (fun _ => False) M1 t1 n1 → n1 = n → t < t2 → EX p s e0 h 1 16 D dp M1 n1 t1 (some t2) ((n2 : Int) - 1) M3 → dp ≤ 20 → (o = 23 ∨ o = 26 ∨ o = 27) → go = g_need s c lim 59 t2 → ∀ (K : me_M → Prop) (E : Nat → me_M → Prop), (∀ M4, M4 = pT M3 p t2 → go = some (t2 + 1) → (∃ d', d = d' + 1 ∧ me_W (mt_G N X) 317 d' 0 [some (.inr (.inl (some p, 29, 0))), some (.inl o), some (.inl ((n2 : Int) - 1)), some (.inl (-1)), some (.inl (-1)), some (.inl (-1)), some (.inl (t : Int)), none] [] M4 (sx_qI (ST p s c e0 h 20 27 D dp M2 n t (some (t2 + 1))) nt_E)) → K M4) → (∀ a M', px (go = none) (rS p n D) M2 a M' → E a M') → ∃ d', d = d' + 1 ∧ me_W (mt_G N X) 305 d' 0 [some (.inr (.inl (some p, 29, 0))), some (.inl 59)] [] M3 (sx_qV K E) := by
    intro M1 M3 t1 n1 t2 n2 o go S en tt R hdp ho hgo K E hK hE
    subst en
    obtain ⟨t2', n2', g2, t12, n12, rr, R, R6, o1, o2, o5, o6⟩ := R
    cases g2
    have : n2' = n2 := by omega
    subst this
    have U := S.exp hp R (fun _ _ z => z)
    have b0 := S.2.1.2.2.2.2.2.2.1
    have b1 := R.2.2.2.2.1
    have b2 := R.2.2.2.2.2.2.1
    have PU := U.pr hp P (by omega) (by omega)
    refine ca_V (by omega) (c_305 (by omega) PU.1 PU.2.1 (by omega) hl ⟨by omega, by omega⟩) (fun M4 _ q => ?_) (fun a M' _ q => hE a M' (q.mo (fun z => by rw [hgo, g_need, if_neg z]) rS_F U.1))
    obtain ⟨rfl, r5, r6, r7⟩ := q
    have te4 := te_of z0 (by omega) (show ¬ s t2 = 0 by omega)
    have V := U.pass hp (by omega) te4 (fun z => by omega)
    refine hK _ rfl (by rw [hgo, g_need, if_pos ⟨r5, r6, r7⟩]) (ca_I (by omega) (st_node (by omega) hp he P V (R6.eq fun i j _ _ => pT_A p t2 M3 i j) (by omega) (by omega) (by omega) ?_ (in_of (by omega) List.mem_cons_self) (Or.inl rfl) (Or.inl rfl) (fun m mv => Or.inl (by rw [List.mem_singleton.mp mv]; omega))) (fun y M5 _ q => q.mo (by omega) (by omega)) nt_E_no)
    have ee := ex_of (A := nA p (pT M3 p t2)) (n := n2') (by omega) (by rw [pT_A]; exact o1) (by rw [pT_A]; exact o2)
    unfold opk
    rcases ho with rfl | rfl | rfl
    · exact Or.inr (Or.inr (Or.inr (Or.inr (Or.inr (Or.inr (Or.inr (Or.inr (Or.inl ⟨Or.inl rfl, ee, rfl, rfl⟩))))))))
    · exact Or.inr (Or.inr (Or.inr (Or.inr (Or.inr (Or.inr (Or.inr (Or.inr (Or.inr (Or.inr (Or.inr ⟨rfl, Or.inr ee, rfl, rfl⟩))))))))))
    · exact Or.inr (Or.inr (Or.inr (Or.inr (Or.inr (Or.inr (Or.inr (Or.inr (Or.inl ⟨Or.inr rfl, ee, rfl, rfl⟩))))))))
  -- the word at t
  have W := fun (x : Int) (hx : me_r x) => c_303 (N := N) (X := X) (d := d - 1) (by omega) P.1 ht (by omega) hl hx
  refine ca_I (by omega) (W 6 ⟨by omega, by omega⟩) (fun y M3 _ q => ?_) (fun _ _ _ q => q.mo (fun z => by rw [if_pos (by omega), if_neg (by omega)]) rS_F fr.rf)
  rcases q with ⟨rfl, rfl, w1, w2, w3⟩ | ⟨rfl, rfl, _, q6⟩
  · refine ⟨⟨by omega, by omega⟩, fun v => by omega, fun _ => ?_⟩
    rw [if_pos ⟨w1, w2⟩, if_pos w3]
    have te := te_of z0 he1 (by omega)
    have dp20 : dp ≤ 20 := by omega
    have T := S0.pass hp (by omega) te (fun v => by omega)
    have PT := T.pr hp P (by omega) (by omega)
    refine ca_I (by omega) (H11 _ (t + 1) n dp D (d - 1) PT dp20 (by omega) (by omega)) (fun y M4 _ q => ?_) (fun _ _ _ q => q.mo (fun z => by rw [z]; rfl) (rS_E (Nat.le_refl _)) T.1)
    obtain ⟨t2, n2, g2, n12, nt2, rfl, R, R6, o1, o2⟩ := q
    rw [g2, Option.bind_some]
    have b1 := R.2.2.2.2.1
    have U := T.exp hp R (fun _ _ z => z)
    have PU := U.pr hp P (by omega) (by omega)
    refine ca_I (by omega) (H10 M4 t2 n2 dp D (d - 1) PU (by omega) dp20 (by omega) (by omega)) (fun y M5 _ q => ?_) (fun _ _ _ q => q.mo (fun z => by rw [z]; rfl) (rS_mo (by omega) (Nat.le_refl _)) U.1)
    obtain ⟨t3, n3, D3, g3, t13, n13, rfl, R', R6', o1', o2', o5', o6'⟩ := q
    rw [g3, Option.bind_some]
    have U3 := U.seq hp R' (fun _ _ z => z)
    have c1 := R'.2.1.2.2.2.2.1
    have c2 := R'.2.2.2.1
    have c3 := R'.2.1.2.2.2.2.2.2.1
    have c4 := R'.2.2.2.2.1
    have PU3 := U3.pr hp P (by omega) (by omega)
    have kA : ∀ i j, i < 11 → j < n2 → nA p M5 i j = nA p M4 i j := fun i j i1 j1 => R'.keep hp i1 j1
    have L3 := (R6.eq kA).seq R6' (by omega) (by omega)
    refine ca_I (by omega) (c_303 (by omega) PU3.1 PU3.2.1 (by omega) hl ⟨by omega, by omega⟩) (fun y M6 _ q => ?_) (fun _ _ _ q => q.mo (fun z => by
      rcases z with z | z
      · rw [if_pos z]
      · rw [if_neg (by omega), if_pos ⟨z.1, z.2.1⟩, if_neg (by omega)]) rS_F U3.1)
    have x1 := ex_of (A := nA p M5) (n := n2) (by omega) (by rw [kA 0 _ (by omega) (by omega)]; exact o1) (by rw [kA 0 _ (by omega) (by omega)]; exact o2)
    have x2 := sm_of (A := nA p M5) (n := n3) (by omega) o1' o2'
    rcases q with ⟨rfl, rfl, a1, a2, a3⟩ | ⟨rfl, rfl, a1, a2⟩
    · refine ⟨⟨by omega, by omega⟩, fun v => by omega, fun _ => ?_⟩
      rw [if_neg (by omega), if_pos ⟨a1, a2⟩, if_pos a3]
      have te4 := te_of z0 (by omega) (show ¬ s t3 = 0 by omega)
      have V := U3.pass hp (by omega) te4 (fun z => by omega)
      have PV := V.pr hp P (by omega) (by omega)
      refine ca_I (by omega) (H10 _ (t3 + 1) n3 dp D3 (d - 1) PV (by omega) dp20 (by omega) (by omega)) (fun y M7 _ q => ?_) (fun _ _ _ q => q.mo (fun z => z) (rS_mo (by omega) (by omega)) V.1)
      obtain ⟨t5, n5, D5, g5, t15, n15, rfl, R5, R65, o15, o25, o55, o65⟩ := q
      rw [g5]
      have V5 := V.seq hp R5 (fun _ _ z => z)
      have d1 := R5.2.1.2.2.2.2.2.2.1
      have kB : ∀ i j, i < 11 → j < n3 → nA p M7 i j = nA p M5 i j := fun i j i1 j1 => (R5.keep hp i1 j1).trans (pT_A p t3 M5 i j)
      have L5 := (L3.eq kB).seq R65 (by omega) (by omega)
      refine ca_I (by omega) (st_node (by omega) hp he P V5 L5 (by omega) (by omega) (by omega) ?_ (in_of (by omega) ?_) (in_of (by omega) ?_) (in_of (by omega) ?_) (fun m mv => ?_)) (fun y M8 _ q => q.mo (by omega) (by omega)) nt_E_no
      · exact Or.inr (Or.inr (Or.inr (Or.inr (Or.inr (Or.inr (Or.inr (Or.inr (Or.inr (Or.inl ⟨rfl, x1.eq fun _ => kB 0 _ (by omega) (by omega), x2.eq fun _ => kB 0 _ (by omega) (by omega), by omega, Or.inr ⟨sm_of (by omega) o15 o25, by omega⟩⟩)))))))))
      · exact List.mem_cons_self
      · exact List.mem_cons_of_mem _ List.mem_cons_self
      · exact List.mem_cons_of_mem _ (List.mem_cons_of_mem _ List.mem_cons_self)
      · have mv : m ∈ [n2 - 1, n3 - 1, n5 - 1] := mv
        simp only [List.mem_cons, List.not_mem_nil, or_false] at mv
        omega
    · refine ⟨⟨by omega, by omega⟩, fun _ => ?_, fun v => by omega⟩
      rw [if_neg a1, if_neg a2]
      refine ca_I (by omega) (st_node (by omega) hp he P U3 L3 (by omega) (by omega) (by omega) ?_ (in_of (by omega) ?_) (in_of (by omega) ?_) (Or.inl rfl) (fun m mv => ?_)) (fun y M8 _ q => q.mo (by omega) (by omega)) nt_E_no
      · exact Or.inr (Or.inr (Or.inr (Or.inr (Or.inr (Or.inr (Or.inr (Or.inr (Or.inr (Or.inl ⟨rfl, x1, x2, by omega, Or.inl rfl⟩)))))))))
      · exact List.mem_cons_self
      · exact List.mem_cons_of_mem _ List.mem_cons_self
      · have mv : m ∈ [n2 - 1, n3 - 1] := mv
        simp only [List.mem_cons, List.not_mem_nil, or_false] at mv
        omega
  refine ⟨⟨by omega, by omega⟩, fun _ => ?_, fun v => by omega⟩
  rw [if_neg q6]
  refine ca_I (by omega) (W 8 ⟨by omega, by omega⟩) (fun y M3 _ q => ?_) (fun _ _ _ q => q.mo (fun z => by rw [if_pos (by omega), if_neg (by omega)]) rS_F fr.rf)
  rcases q with ⟨rfl, rfl, w1, w2, w3⟩ | ⟨rfl, rfl, _, q8⟩
  · refine ⟨⟨by omega, by omega⟩, fun v => by omega, fun _ => ?_⟩
    rw [if_pos ⟨w1, w2⟩, if_pos w3]
    have te := te_of z0 he1 (by omega)
    have dp20 : dp ≤ 20 := by omega
    have T := S0.pass hp (by omega) te (fun v => by omega)
    have PT := T.pr hp P (by omega) (by omega)
    refine ca_I (by omega) (H11 _ (t + 1) n dp D (d - 1) PT dp20 (by omega) (by omega)) (fun y M4 _ q => ?_) (fun _ _ _ q => q.mo (fun z => by rw [z]; rfl) (rS_E (Nat.le_refl _)) T.1)
    obtain ⟨t2, n2, g2, n12, nt2, rfl, R, R6, o1, o2⟩ := q
    rw [g2, Option.bind_some]
    have b1 := R.2.2.2.2.1
    have U := T.exp hp R (fun _ _ z => z)
    have PU := U.pr hp P (by omega) (by omega)
    refine ca_I (by omega) (H10 M4 t2 n2 dp D (d - 1) PU (by omega) dp20 (by omega) (by omega)) (fun y M5 _ q => ?_) (fun _ _ _ q => q.mo (fun z => z) (rS_mo (by omega) (Nat.le_refl _)) U.1)
    obtain ⟨t3, n3, D3, g3, t13, n13, rfl, R', R6', o1', o2', o5', o6'⟩ := q
    rw [g3]
    have U3 := U.seq hp R' (fun _ _ z => z)
    have c1 := R'.2.1.2.2.2.2.1
    have c3 := R'.2.1.2.2.2.2.2.2.1
    have kA : ∀ i j, i < 11 → j < n2 → nA p M5 i j = nA p M4 i j := fun i j i1 j1 => R'.keep hp i1 j1
    have L3 := (R6.eq kA).seq R6' (by omega) (by omega)
    have x1 := ex_of (A := nA p M5) (n := n2) (by omega) (by rw [kA 0 _ (by omega) (by omega)]; exact o1) (by rw [kA 0 _ (by omega) (by omega)]; exact o2)
    have x2 := sm_of (A := nA p M5) (n := n3) (by omega) o1' o2'
    refine ca_I (by omega) (st_node (by omega) hp he P U3 L3 (by omega) (by omega) (by omega) ?_ (in_of (by omega) ?_) (in_of (by omega) ?_) (Or.inl rfl) (fun m mv => ?_)) (fun y M8 _ q => q.mo (by omega) (by omega)) nt_E_no
    · exact Or.inr (Or.inr (Or.inr (Or.inr (Or.inr (Or.inr (Or.inr (Or.inr (Or.inr (Or.inr (Or.inl ⟨rfl, x1, x2, by omega, rfl⟩))))))))))
    · exact List.mem_cons_self
    · exact List.mem_cons_of_mem _ List.mem_cons_self
    · have mv : m ∈ [n2 - 1, n3 - 1] := mv
      simp only [List.mem_cons, List.not_mem_nil, or_false] at mv
      omega
  refine ⟨⟨by omega, by omega⟩, fun _ => ?_, fun v => by omega⟩
  rw [if_neg q8]
  refine ca_I (by omega) (W 9 ⟨by omega, by omega⟩) (fun y M3 _ q => ?_) (fun _ _ _ q => q.mo (fun z => by rw [if_pos (by omega), if_neg (by omega)]) rS_F fr.rf)
  rcases q with ⟨rfl, rfl, w1, w2, w3⟩ | ⟨rfl, rfl, _, q9⟩
  · refine ⟨⟨by omega, by omega⟩, fun v => by omega, fun _ => ?_⟩
    rw [if_pos ⟨w1, w2⟩, if_pos w3]
    have te := te_of z0 he1 (by omega)
    have dp20 : dp ≤ 20 := by omega
    have T := S0.pass hp (by omega) te (fun v => by omega)
    have PT := T.pr hp P (by omega) (by omega)
    refine ca_I (by omega) (c_307 (by omega) PT.1 PT.2.1 (by omega) ⟨by omega, by omega⟩) (fun y M4 _ q => ?_) (fun _ _ _ q => q.mo (fun z => by rw [if_pos z]) rS_F T.1)
    obtain ⟨rfl, r0, r⟩ := q
    rw [if_neg r0]
    refine ⟨⟨by omega, by omega⟩, fun v => ?_, fun v => ?_⟩
    · rw [if_neg (by omega)]
      refine ca_I (by omega) (c_314 (d := d - 1) H0 PT (by omega) (by omega)) (fun y M5 _ q => ?_) (fun _ _ _ q => q.mo (fun z => by rw [z]; rfl) (rS_E (Nat.le_refl _)) T.1)
      obtain ⟨t2, n2, g2, q⟩ := q
      rw [g2, Option.bind_some, q.2.2.1]
      refine fin1 _ M5 (t + 1) n t2 n2 26 _ T rfl (by have := q.1; omega) ⟨t2, n2, rfl, q.1, q.2.1, rfl, q.2.2.2⟩ dp20 (by omega) rfl _ _ (fun M6 hM6 hgo K => ?_) (fun a M' q => q)
      rw [hgo]
      exact ca_I' K (fun _ _ q => q) nt_E_no
    · rw [if_pos (by omega)]
      refine ca_V (by omega) (c_305 (by omega) PT.1 PT.2.1 (by omega) hl ⟨by omega, by omega⟩) (fun M6 _ q => ?_) (fun _ _ _ q => q.mo (fun z => by rw [g_need, if_neg z]) rS_F T.1)
      obtain ⟨rfl, r5, r6, r7⟩ := q
      have te4 := te_of z0 (by omega) (show ¬ s (t + 1) = 0 by omega)
      have V := T.pass hp (by omega) te4 (fun z => by omega)
      rw [g_need, if_pos ⟨r5, r6, r7⟩]
      refine ca_I (by omega) (st_node (L := []) (by omega) hp he P V RL.nil (by omega) (by omega) (by omega) ?_ (Or.inl rfl) (Or.inl rfl) (Or.inl rfl) (fun m mv => by cases mv)) (fun y M8 _ q => q.mo (by omega) (by omega)) nt_E_no
      exact Or.inr (Or.inr (Or.inr (Or.inr (Or.inr (Or.inr (Or.inr (Or.inr (Or.inr (Or.inr (Or.inr ⟨rfl, Or.inl rfl, rfl, rfl⟩))))))))))
  refine ⟨⟨by omega, by omega⟩, fun _ => ?_, fun v => by omega⟩
  rw [if_neg q9]
  refine ca_I (by omega) (W 10 ⟨by omega, by omega⟩) (fun y M3 _ q => ?_) (fun _ _ _ q => q.mo (fun z => by rw [if_pos (by omega), if_neg (by omega)]) rS_F fr.rf)
  rcases q with ⟨rfl, rfl, w1, w2, w3⟩ | ⟨rfl, rfl, _, q10⟩
  · refine ⟨⟨by omega, by omega⟩, fun v => by omega, fun _ => ?_⟩
    rw [if_pos ⟨w1, w2⟩, if_pos w3]
    have te := te_of z0 he1 (by omega)
    have dp20 : dp ≤ 20 := by omega
    have T := S0.pass hp (by omega) te (fun v => by omega)
    have PT := T.pr hp P (by omega) (by omega)
    refine ca_I (by omega) (c_314 (d := d - 1) H0 PT (by omega) (by omega)) (fun y M5 _ q => ?_) (fun _ _ _ q => q.mo (fun z => by rw [z]; rfl) (rS_E (Nat.le_refl _)) T.1)
    obtain ⟨t2, n2, g2, q⟩ := q
    rw [g2, Option.bind_some, q.2.2.1]
    refine fin1 _ M5 (t + 1) n t2 n2 27 _ T rfl (by have := q.1; omega) ⟨t2, n2, rfl, q.1, q.2.1, rfl, q.2.2.2⟩ dp20 (by omega) rfl _ _ (fun M6 hM6 hgo K => ?_) (fun a M' q => q)
    rw [hgo]
    exact ca_I' K (fun _ _ q => q) nt_E_no
  refine ⟨⟨by omega, by omega⟩, fun _ => ?_, fun v => by omega⟩
  rw [if_neg q10]
  refine ca_I (by omega) (c_314 (d := d - 1) H0 P (by omega) (by omega)) (fun y M4 _ q => ?_) (fun _ _ _ q => q.mo (fun z => by rw [z]; rfl) (rS_E (Nat.le_refl _)) fr.rf)
  obtain ⟨t2, n2, g2, t12, n12, rfl, R, R6, o1, o2, o5, o6⟩ := q
  have dp20 : dp ≤ 20 := by
    by_cases v : 20 < dp
    · have := (g_sg (lim := lim) (dp := dp) (gd := gd) (hz v) k 1).1
      rw [g2] at this
      cases this
    · omega
  rw [g2, Option.bind_some]
  have U := S0.exp hp R (fun _ _ z => z)
  have b1 := R.2.2.2.2.1
  have b2 := R.2.2.2.2.2.2.1
  have PU := U.pr hp P (by omega) (by omega)
  refine ca_I (by omega) (c_306 (by omega) PU.1 PU.2.1 (by omega) hl ⟨by omega, by omega⟩) (fun y M6 _ q => ?_) (fun _ _ _ q => q.mo (fun z => by
    rcases z with z | z
    · rw [if_pos z]
    · rw [if_neg (by omega), if_pos ⟨z.1, z.2.1⟩, if_neg (by omega)]) rS_F U.1)
  rcases q with ⟨rfl, rfl, a1, a2, a3⟩ | ⟨rfl, rfl, a1, a2⟩
  · refine ⟨⟨by omega, by omega⟩, fun v => by omega, fun _ => ?_⟩
    rw [if_neg (by omega), if_pos ⟨a1, a2⟩, if_pos a3]
    have te4 := te_of z0 (by omega) (show ¬ s t2 = 0 by omega)
    have V := U.pass hp (by omega) te4 (fun z => by omega)
    have PV := V.pr hp P (by omega) (by omega)
    refine ca_I (by omega) (c_314 (d := d - 1) H0 PV (by omega) (by omega)) (fun y M7 _ q => ?_) (fun _ _ _ q => q.mo (fun z => by rw [z]; rfl) (rS_E (by omega)) V.1)
    obtain ⟨t5, n5, g5, t15, n15, rfl, R5, R65, o15, o25, o55, o65⟩ := q
    rw [g5, Option.bind_some]
    have V5 := V.exp hp R5 (fun _ _ z => z)
    have d1 := R5.2.2.2.2.1
    have d2 := R5.2.2.2.2.2.2.1
    have PV5 := V5.pr hp P (by omega) (by omega)
    have kB : ∀ i j, i < 11 → j < n2 → nA p M7 i j = nA p M4 i j := fun i j i1 j1 => (R5.keep hp i1 j1).trans (pT_A p t2 M4 i j)
    refine ca_V (by omega) (c_305 (by omega) PV5.1 PV5.2.1 (by omega) hl ⟨by omega, by omega⟩) (fun M8 _ q => ?_) (fun _ _ _ q => q.mo (fun z => by rw [g_need, if_neg z]) rS_F V5.1)
    obtain ⟨rfl, r5, r6, r7⟩ := q
    have te5 := te_of z0 (by omega) (show ¬ s t5 = 0 by omega)
    have V6 := V5.pass hp (by omega) te5 (fun z => by omega)
    rw [g_need, if_pos ⟨r5, r6, r7⟩]
    have L6 := ((R6.eq kB).seq R65 (by omega) (by omega)).eq (A' := nA p (pT M7 p t5)) (fun i j _ _ => pT_A p t5 M7 i j)
    refine ca_I (by omega) (st_node (by omega) hp he P V6 L6 (by omega) (by omega) (by omega) ?_ (in_of (by omega) ?_) (in_of (by omega) ?_) (Or.inl rfl) (fun m mv => ?_)) (fun y M8 _ q => q.mo (by omega) (by omega)) nt_E_no
    · have x1 := ex_of (A := nA p (pT M7 p t5)) (n := n2) (by omega) (by rw [pT_A, kB 0 _ (by omega) (by omega)]; exact o1) (by rw [pT_A, kB 0 _ (by omega) (by omega)]; exact o2)
      have x2 := ex_of (A := nA p (pT M7 p t5)) (n := n5) (by omega) (by rw [pT_A]; exact o15) (by rw [pT_A]; exact o25)
      exact Or.inr (Or.inr (Or.inr (Or.inr (Or.inr (Or.inr (Or.inr (Or.inl ⟨rfl, x1, x2, by omega, rfl⟩)))))))
    · exact List.mem_cons_self
    · exact List.mem_cons_of_mem _ List.mem_cons_self
    · have mv : m ∈ [n2 - 1, n5 - 1] := mv
      simp only [List.mem_cons, List.not_mem_nil, or_false] at mv
      omega
  · refine ⟨⟨by omega, by omega⟩, fun _ => ?_, fun v => by omega⟩
    rw [if_neg a1, if_neg a2]
    refine fin1 _ _ t n t2 n2 23 _ S0 rfl (by omega) ⟨t2, n2, rfl, t12, n12, rfl, R, R6, o1, o2, o5, o6⟩ dp20 (by omega) rfl _ _ (fun M6 hM6 hgo K => ?_) (fun a M' q => q)
    rw [hgo]
    exact ca_I' K (fun _ _ q => q) nt_E_no
/-- all that reads statements -/
theorem stats (hp : 164 < p) (he : e0 ≤ 2405) (hl : lim < 2408) (z0 : s e0 = 0) (HD : CD N X p s c lim gd e0 h) : ∀ k, C7 N X p s c lim gd e0 h k ∧ C8 N X p s c lim gd e0 h k ∧ C9 N X p s c lim gd e0 h k ∧ C10 N X p s c lim gd e0 h k ∧ C11 N X p s c lim gd e0 h k
  | 0 => by
    refine ⟨?_, ?_, ?_, ?_, ?_⟩
    · intro M t n dp D d P
      have := P.2.2.1
      omega
    · intro M t n dp D d P
      have := P.2.2.1
      omega
    · intro M0 M t0 n0 d0 t n dp D d bg la P _ h1 h2 h3 h4
      have := h4.2.1.2.2.2.2.1
      omega
    · intro M t n dp D d P
      have := P.2.2.1
      omega
    · intro M t n dp D d P
      have := P.2.2.1
      omega
  | k + 1 => by
    obtain ⟨H7, H8, H9, H10, H11⟩ := stats hp he hl z0 HD k
    have H0 := (exps hp he hl z0 HD k).1
    exact ⟨e7 hp he hl z0 H0 H8 H10 H11, e8 hp he hl z0 H9, e9 hp he hl z0 H7 H9, e10 hp he H7, e11 hp he hl z0 H0⟩
end STAT
