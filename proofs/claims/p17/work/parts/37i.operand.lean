/-! the reference's parser: dots, operands, all of an exp -/
section EXPS4
variable {N : Nat} {X : Nat → Int32} {p : Nat} {s c : Nat → Int} {lim : Nat} {gd : Nat → Option Nat} {e0 : Nat} {h : Int × Nat} {k : Nat}
theorem nm_of {t : Nat} {o w : Int} (ho : o = 7 ∨ o = 8 ∨ o = 9 ∨ o = 11 ∨ o = 12) (h0 : 0 ≤ w) (h1 : w < t) (h2 : s w.toNat = 1) : nmk s t o w := ⟨h1, fun v => by omega, fun _ => ⟨h0, h2⟩, fun v => by omega, fun v => absurd (by omega) v⟩
theorem nm_no {t : Nat} {o : Int} (ho : ¬ (o = 1 ∨ o = 7 ∨ o = 8 ∨ o = 9 ∨ o = 11 ∨ o = 12 ∨ o = 16)) : nmk s t o (-1) := ⟨by omega, by omega, by omega, by omega, fun _ => rfl⟩
theorem e4 (hp : 164 < p) (he : e0 ≤ 2405) (hl : lim < 2408) (z0 : s e0 = 0) (H4 : C4 N X p s c lim gd e0 h k) (H5 : C5 N X p s c lim gd e0 h k) : C4 N X p s c lim gd e0 h (k + 1) := by
  intro M0 M t0 n0 t n dp D d e P S he1 hdp hk hd
  obtain ⟨t', n', S1, S2, S3, S4, S5, S6, S7, S8, S9, S10⟩ := S
  cases S1
  have en : n' = n := by omega
  subst en
  have PM := S5.pr hp P (by omega) (by omega)
  have ht := PM.2.1
  have hte := S5.2.2.2.2.1
  have hnn := S5.2.2.2.2.2.2.1
  have hn0 : n0 ≤ t0 := P.2.2.2.2.2.2.1
  rw [g]
  refine b316_80 (ca_I (by omega) (c_307 (by omega) PM.1 ht (by omega) ⟨by omega, by omega⟩) (fun y M1 _ q => ?_) (fun _ _ _ q => q.mo (fun z => by rw [if_pos z]) rE_F S5.1))
  obtain ⟨rfl, q0, q⟩ := q
  rw [if_neg q0]
  refine ⟨⟨by omega, by omega⟩, fun z => ?_, fun z => ?_⟩
  · rw [if_neg (by omega)]
    exact ⟨t, n', rfl, S2, S3, S4, S5, S6, S7, S8, S9, S10⟩
  have q1 : s t = 4 ∧ c t = 46 := by omega
  rw [if_pos q1]
  refine ca_I (by omega) (c_299 (by omega) PM.1 ht (by omega) hl) (fun y M1 _ q => ?_) (fun _ _ _ q => q.mo (fun z => by rw [if_neg (by omega)]) rE_F S5.1)
  obtain ⟨rfl, rfl, q2⟩ := q
  rw [if_pos q2]
  have te := te_of z0 hte.2 (by omega)
  have T := (S5.wk (w' := fun m => m = t + 1) (fun _ z => z.elim) (fun k _ k2 z => by have z : k = t + 1 := z; omega)).pass hp (by omega) te (fun v => by omega)
  have PT := T.pr hp P (by omega) (by omega)
  refine ca_I (by omega) (c_304 (by omega) PT.1 PT.2.1 (by omega) hl) (fun y M3 _ q => ?_) (fun _ _ _ q => q.mo (fun z => by rw [g_name, if_neg z]; rfl) rE_F T.1)
  obtain ⟨rfl, rfl, q3, q4⟩ := q
  rw [show g_name s lim (t + 1) = some (t + 2) by rw [g_name, if_pos ⟨q3, q4⟩]]
  simp only [Option.bind_some]
  have te2 := te_of z0 (by omega) (show ¬ s (t + 1) = 0 by omega)
  have T2 : pe p s e0 h D dp M0 n0 t0 (fun m => m = t + 1) (pT (pT M1 p t) p (t + 1)) (t + 2) n' := T.pass hp (by omega) te2 (fun _ => rfl)
  have PT2 := T2.pr hp P (by omega) (by omega)
  have fA : ∀ i j, nA p (pT (pT M1 p t) p (t + 1)) i j = nA p M1 i j := fun i j => (pT_A p _ _ i j).trans (pT_A p _ _ i j)
  refine ca_I (by omega) (c_307 (by omega) PT2.1 PT2.2.1 (by omega) ⟨by omega, by omega⟩) (fun y M4 _ q => ?_) (fun _ _ _ q => q.mo (fun z => by rw [if_pos z]) rE_F T2.1)
  obtain ⟨rfl, r0, r⟩ := q
  rw [if_neg r0]
  refine ⟨⟨by omega, by omega⟩, fun z => ?_, fun z => ?_⟩
  · rw [if_neg (by omega)]
    refine ca_I (by omega) (pe_one (o := 11) (x5 := ((t + 1 : Nat) : Int)) (by omega) hp he P T2 (S6.eq fun i j _ _ => fA i j) S3 (by rw [fA]; exact S7) (by rw [fA]; exact S8) he1 (by omega) (by omega) (nm_of (by omega) (by omega) (by omega) (by rw [Int.toNat_natCast]; exact q3)) (fun m v => by rw [v]) (Or.inr ⟨by omega, Int.toNat_natCast _⟩)) (fun y M5 _ q => ?_) nt_E_no
    exact H4 M0 M5 t0 n0 (t + 2) (n' + 1) dp D d y P q.1 (by have := q.2; omega) hdp (by omega) hd
  · have r1 : s (t + 2) = 4 ∧ c (t + 2) = 40 := by omega
    rw [if_pos r1]
    refine ca_I (by omega) (H5 _ (t + 2) n' dp D (d - 1) PT2 hdp (by omega) (by omega)) (fun y M5 _ q => ?_) (fun _ _ _ q => q.mo (fun z => by rw [z]; rfl) (rE_mo (by omega)) T2.1)
    obtain ⟨t2, n2, g2, t12, n12, R, RC⟩ := q
    rw [g2]
    have U := T2.seq hp R w0 (fun k k1 z => by have z : k = t + 1 := z; omega)
    have kA : ∀ i j, i < 11 → j < n' → nA p M5 i j = nA p M1 i j := fun i j i1 j1 => (R.keep hp i1 j1).trans (fA i j)
    have b1 := R.2.2.2.2.1
    have b2 := R.2.2.2.2.2.1
    refine ca_I (by omega) (pe_args (n := n') (x1 := 12) (x5 := ((t + 1 : Nat) : Int)) (by omega) hp he P U (by omega) (by omega) (by omega) b2 y RC (Or.inr ⟨rfl, rfl, S3, he1, S6.eq kA, by rw [kA 0 _ (by omega) (by omega)]; exact S7, by rw [kA 0 _ (by omega) (by omega)]; exact S8⟩) (nm_of (by omega) (by omega) (by omega) (by rw [Int.toNat_natCast]; exact q3)) (fun m v => by rw [v]) (Or.inr ⟨by omega, Int.toNat_natCast _⟩) (by omega)) (fun y M6 _ q => ?_) nt_E_no
    exact H4 M0 M6 t0 n0 t2 (n2 + 1) dp D d y P q.1 (by have := q.2; omega) hdp (by omega) hd
theorem e3 (hp : 164 < p) (he : e0 ≤ 2405) (hl : lim < 2408) (z0 : s e0 = 0) (HD : CD N X p s c lim gd e0 h) (H0 : C0 N X p s c lim gd e0 h k) (H5 : C5 N X p s c lim gd e0 h k) : C3 N X p s c lim gd e0 h (k + 1) := by
  intro M t n dp D d P hk hd
  have ht := P.2.1
  have he1 := P.2.2.1
  have hn0 := P.2.2.2.2.2.2.1
  have hz := P.2.2.2.2.2.2.2.2.2.1
  have S0 := P.st (w := fun _ => False)
  have S1 := P.st (w := fun m => m = t)
  rw [g]
  refine b319_0 (ca_I (by omega) (c_293 (by omega) P.1 ht (by omega)) (fun y M1 _ q => ?_) (fun _ _ _ q => q.mo (fun z => by rw [if_neg (by omega), if_neg (by omega), if_neg (by omega), if_neg (by omega), if_neg (by omega), if_neg (by omega)]) rE_F fr.rf))
  obtain ⟨rfl, rfl, q0⟩ := q
  rw [ht]
  -- the sign ( or what is wrong
  have K231 : ¬ s t = 2 → ¬ s t = 1 → ¬ s t = 5 → ¬ (s t = 3 ∧ (c t = 15 ∨ c t = 16 ∨ c t = 14 ∨ c t = 13 ∨ c t = 11)) → ¬ (s t = 3 ∧ c t = 12) → ∀ go, go = (if s t = 4 ∧ c t = 40 ∧ t < lim ∧ g_in s c dp (t + 1) then (g s c lim gd k 0 1 (t + 1) (dp + 1)).bind fun t1 => g_need s c lim 41 t1 else none) → me_W (mt_G N X) 319 d 231 [some (.inr (.inl (some p, 29, 0))), some (.inl (t : Int)), none, none, none, none] [] M1 (sx_qI (EX p s e0 h 1 16 D dp M1 n t go) (px (go = none) (rE p n) M1)) := by
    intro m1 m2 m3 m4 m5 go hgo
    refine b319_231 (ca_I (by omega) (c_307 (by omega) P.1 ht (by omega) ⟨by omega, by omega⟩) (fun y M2 _ q => ?_) (fun _ _ _ q => absurd q.2.1 q0))
    obtain ⟨rfl, _, q⟩ := q
    refine ⟨⟨by omega, by omega⟩, fun z => ?_, fun z => ca_V (by omega) (c_297 (by omega) P.1 ht (by omega)) (fun _ _ q => q.elim) (fun _ _ _ q => q.mo (fun _ => by rw [hgo, if_neg (by omega)]) rE_F fr.rf)⟩
    have q1 : s t = 4 ∧ c t = 40 := by omega
    have te := te_of z0 he1 (by omega)
    have dp20 : dp ≤ 20 := by omega
    refine b319_244 (ca_I (by omega) (c_299 (by omega) P.1 ht (by omega) hl) (fun y M3 _ q => ?_) (fun _ _ _ q => q.mo (fun z => by rw [hgo, if_neg (by omega)]) rE_F fr.rf))
    obtain ⟨rfl, rfl, q2⟩ := q
    have T := S0.pass hp (by omega) te (fun v => by omega)
    have PT := T.pr hp P (by omega) (by omega)
    refine ca_V (by omega) (c_311 (by omega) PT.1 hp PT.2.1 (by omega) PT.2.2.2.1 (by omega)) (fun M4 _ q => ?_) (fun a M' _ q => q.mo (fun z => by rw [hgo, if_neg fun v => z v.2.2.2]) rE_W T.1)
    obtain ⟨rfl, gi⟩ := q
    rw [if_pos ⟨q1.1, q1.2, q2, gi⟩] at hgo
    have W := T.deep (dp' := dp + 1) hp (by omega)
    rw [show ((dp : Int) + 1) = ((dp + 1 : Nat) : Int) by omega]
    have PW := W.pr hp P (by omega) (fun v => by unfold g_in at gi; omega)
    refine ca_I (by omega) (c_314 (d := d - 1) H0 PW (by omega) (by omega)) (fun y M5 _ q => ?_) (fun _ _ _ q => q.mo (fun z => by rw [hgo, z]; rfl) (fun _ _ z => z) W.1)
    obtain ⟨t2, n2, g2, t12, n12, rfl, R, R6, o1, o2, o5, o6⟩ := q
    rw [g2] at hgo
    have U := (W.seq hp R w0 (fun _ _ z => z)).deep (dp' := dp) hp (by omega)
    have b1 := R.2.2.2.2.1
    have b2 := R.2.2.2.2.2.2.1
    have PU := U.pr hp P (by omega) (by omega)
    intro M12
    have e12 : M12 = me_sI M5 p 37 (Int32.ofInt (dp : Int)) := by
      show me_sI _ _ _ _ = _
      rw [R.2.2.1, show ((dp + 1 : Nat) : Int) - 1 = (dp : Int) by omega]
    rw [e12]
    clear e12
    clear M12
    refine ca_V (by omega) (c_305 (by omega) PU.1 PU.2.1 (by omega) hl ⟨by omega, by omega⟩) (fun M6 _ q => ?_) (fun _ _ _ q => q.mo (fun z => by rw [hgo]; simp only [Option.bind_some]; rw [g_need, if_neg z]) rE_F U.1)
    obtain ⟨rfl, b3, b4, b5⟩ := q
    have te2 := te_of z0 (by omega) (show ¬ s t2 = 0 by omega)
    have V := U.pass hp (by omega) te2 (fun v => by omega)
    have fA : ∀ i j, nA p (pT (me_sI M5 p 37 (Int32.ofInt (dp : Int))) p t2) i j = nA p M5 i j := fun i j => (pT_A p _ _ i j).trans (dp_A p _ _ i j)
    refine ca_I (by omega) (pe_one (o := 10) (x5 := -1) (by omega) hp he P V (R6.eq fun i j _ _ => fA i j) (by omega) (by rw [fA]; exact o1) (by rw [fA]; exact o2) rfl (by omega) (by omega) (nm_no (by omega)) (fun _ z => z.elim) (Or.inl rfl)) (fun y M7 _ q => ?_) nt_E_no
    have go2 : go = some (t2 + 1) := by
      rw [hgo]
      simp only [Option.bind_some]
      rw [g_need, if_pos ⟨b3, b4, b5⟩]
    show EX p s e0 h 1 16 D dp M2 n t go y M7
    rw [go2]
    exact q.1
  -- a word
  have K165 : ∀ op : Int, ¬ s t = 2 → ¬ s t = 1 → ¬ s t = 5 → s t = 3 → (op = -1 ∧ ¬ (c t = 15 ∨ c t = 16 ∨ c t = 14 ∨ c t = 13 ∨ c t = 11) ∨ 2 ≤ op ∧ op ≤ 6 ∧ (c t = 15 ∨ c t = 16 ∨ c t = 14 ∨ c t = 13 ∨ c t = 11)) → ∀ go, go = (if s t = 3 ∧ (c t = 15 ∨ c t = 16 ∨ c t = 14 ∨ c t = 13 ∨ c t = 11) then (if t < lim then some (t + 1) else none) else if s t = 3 ∧ c t = 12 then (if t < lim then ((g_name s lim (t + 1)).bind fun t1 => (g_need s c lim 40 t1).bind fun t2 => g_need s c lim 41 t2) else none) else if s t = 4 ∧ c t = 40 ∧ t < lim ∧ g_in s c dp (t + 1) then (g s c lim gd k 0 1 (t + 1) (dp + 1)).bind fun t1 => g_need s c lim 41 t1 else none) → me_W (mt_G N X) 319 d 165 [some (.inr (.inl (some p, 29, 0))), some (.inl (t : Int)), none, some (.inl (c t)), none, none] [.inl op] M1 (sx_qI (EX p s e0 h 1 16 D dp M1 n t go) (px (go = none) (rE p n) M1)) := by
    intro op m1 m2 m3 m4 hop go hgo
    have te := te_of z0 he1 (by omega)
    refine b319_165 ⟨⟨by omega, by omega⟩, fun z => ⟨P.1.rc t, ⟨by omega, by omega⟩, fun z2 => ?_, fun z2 => ?_⟩, fun z => ?_⟩
    · refine K231 m1 m2 m3 (by omega) (by omega) go ?_
      rw [hgo, if_neg (by omega), if_neg (by omega)]
    · rw [if_neg (by omega), if_pos ⟨m4, z2⟩] at hgo
      refine ca_I (by omega) (c_299 (by omega) P.1 ht (by omega) hl) (fun y M3 _ q => ?_) (fun _ _ _ q => q.mo (fun z => by rw [hgo, if_neg (by omega)]) rE_F fr.rf)
      obtain ⟨rfl, rfl, q2⟩ := q
      rw [if_pos q2] at hgo
      have T := (P.st (w := fun m => m = t + 1)).pass hp (by omega) te (fun v => by omega)
      have hz2 : dp ≤ 20 := by omega
      have PT := T.pr hp P (by omega) (by omega)
      refine ca_I (by omega) (c_304 (by omega) PT.1 PT.2.1 (by omega) hl) (fun y M3 _ q => ?_) (fun _ _ _ q => q.mo (fun z => by rw [hgo, g_name, if_neg z]; rfl) rE_F T.1)
      obtain ⟨rfl, rfl, q3, q4⟩ := q
      rw [show g_name s lim (t + 1) = some (t + 2) by rw [g_name, if_pos ⟨q3, q4⟩], Option.bind_some] at hgo
      have te2 := te_of z0 (by omega) (show ¬ s (t + 1) = 0 by omega)
      have T2 : pe p s e0 h D dp M1 n t (fun m => m = t + 1) (pT (pT M1 p t) p (t + 1)) (t + 2) n := T.pass hp (by omega) te2 (fun _ => rfl)
      have PT2 := T2.pr hp P (by omega) (by omega)
      refine ca_V (by omega) (c_305 (by omega) PT2.1 PT2.2.1 (by omega) hl ⟨by omega, by omega⟩) (fun M6 _ q => ?_) (fun _ _ _ q => q.mo (fun z => by rw [hgo, g_need, if_neg z]; rfl) rE_F T2.1)
      obtain ⟨rfl, b3, b4, b5⟩ := q
      rw [show g_need s c lim 40 (t + 2) = some (t + 3) by rw [g_need, if_pos ⟨b3, b4, b5⟩], Option.bind_some] at hgo
      have te3 := te_of z0 (by omega) (show ¬ s (t + 2) = 0 by omega)
      have T3 : pe p s e0 h D dp M1 n t (fun m => m = t + 1) (pT (pT (pT M1 p t) p (t + 1)) p (t + 2)) (t + 3) n := T2.pass hp (by omega) te3 (fun v => by omega)
      have PT3 := T3.pr hp P (by omega) (by omega)
      refine ca_V (by omega) (c_305 (by omega) PT3.1 PT3.2.1 (by omega) hl ⟨by omega, by omega⟩) (fun M6 _ q => ?_) (fun _ _ _ q => q.mo (fun z => by rw [hgo, g_need, if_neg z]) rE_F T3.1)
      obtain ⟨rfl, d3, d4, d5⟩ := q
      have te4 := te_of z0 (by omega) (show ¬ s (t + 3) = 0 by omega)
      have T4 : pe p s e0 h D dp M1 n t (fun m => m = t + 1) (pT (pT (pT (pT M1 p t) p (t + 1)) p (t + 2)) p (t + 3)) (t + 4) n := T3.pass hp (by omega) te4 (fun v => by omega)
      rw [show g_need s c lim 41 (t + 3) = some (t + 4) by rw [g_need, if_pos ⟨d3, d4, d5⟩]] at hgo
      refine ca_I (by omega) (pe_leaf (o := 9) (x5 := ((t + 1 : Nat) : Int)) (by omega) hp he P T4 (by omega) (by omega) (nm_of (by omega) (by omega) (by omega) (by rw [Int.toNat_natCast]; exact q3)) (fun m v => by rw [v]) (Or.inr (by omega))) (fun y M7 _ q => ?_) nt_E_no
      show EX p s e0 h 1 16 D dp M1 n t go y M7
      rw [hgo]
      exact q
    · rw [if_pos (by omega)] at hgo
      refine ca_I (by omega) (c_299 (by omega) P.1 ht (by omega) hl) (fun y M3 _ q => ?_) (fun _ _ _ q => q.mo (fun z => by rw [hgo, if_neg (by omega)]) rE_F fr.rf)
      obtain ⟨rfl, rfl, q2⟩ := q
      rw [if_pos q2] at hgo
      have T := S0.pass hp (by omega) te (fun v => by omega)
      refine ca_I (by omega) (pe_leaf (o := op) (x5 := -1) (by omega) hp he P T (by omega) (by omega) (nm_no (by omega)) (fun _ z => z.elim) (Or.inl rfl)) (fun y M7 _ q => ?_) nt_E_no
      show EX p s e0 h 1 16 D dp M1 n t go y M7
      rw [hgo]
      exact q
  have rs := P.1.rs t
  refine ⟨rs, ⟨by omega, by omega⟩, fun n2 => ⟨rs, ⟨by omega, by omega⟩, fun n1 => ⟨rs, ⟨by omega, by omega⟩, fun n5 => ⟨rs, ⟨by omega, by omega⟩, fun n3 => ?_, fun n3 => ?_⟩, fun n5 => ?_⟩, fun n1 => ?_⟩, fun n2 => ?_⟩
  · refine K231 n2 n1 n5 (by omega) (by omega) _ ?_
    rw [if_neg n2, if_neg n1, if_neg n5, if_neg (by omega), if_neg (by omega)]
  · rw [Int.toNat_natCast, show me_i M1 (p + 9) t = c t from P.1.2.1 t]
    have rc := P.1.rc t
    rw [if_neg n2, if_neg n1, if_neg n5]
    have KK := fun (op : Int) hop => K165 op n2 n1 n5 n3 hop _ rfl
    exact ⟨by omega, by omega, rc, ⟨by omega, by omega⟩, fun z15 => ⟨rc, ⟨by omega, by omega⟩, fun z16 => ⟨rc, ⟨by omega, by omega⟩, fun z14 => ⟨rc, ⟨by omega, by omega⟩, fun z13 => ⟨rc, ⟨by omega, by omega⟩, fun z11 => KK (-1) (by omega), fun z11 => KK 6 (by omega)⟩, fun z13 => KK 5 (by omega)⟩, fun z14 => KK 4 (by omega)⟩, fun z16 => KK 3 (by omega)⟩, fun z15 => KK 2 (by omega)⟩
  · rw [if_neg n2, if_neg n1, if_pos n5]
    refine ca_I (by omega) (c_299 (by omega) P.1 ht (by omega) hl) (fun y M3 _ q => ?_) (fun _ _ _ q => q.mo (fun z => by rw [if_neg (by omega)]) rE_F fr.rf)
    obtain ⟨rfl, rfl, q2⟩ := q
    rw [if_pos q2]
    exact ca_I (by omega) (HD M1 t n dp D (d - 1) P n5 q2 (by omega)) (fun _ _ _ q => q) (fun _ _ _ q => q)
  · rw [if_neg n2, if_pos n1]
    have te := te_of z0 he1 (by omega)
    refine ca_I (by omega) (c_299 (by omega) P.1 ht (by omega) hl) (fun y M3 _ q => ?_) (fun _ _ _ q => q.mo (fun z => by rw [if_neg (by omega)]) rE_F fr.rf)
    obtain ⟨rfl, rfl, q2⟩ := q
    rw [if_pos q2]
    have T := S1.pass hp (by omega) te (fun _ => rfl)
    have PT := T.pr hp P (by omega) (by omega)
    refine ca_I (by omega) (c_307 (by omega) PT.1 PT.2.1 (by omega) ⟨by omega, by omega⟩) (fun y M4 _ q => ?_) (fun _ _ _ q => q.mo (fun z => by rw [if_pos z]) rE_F T.1)
    obtain ⟨rfl, r0, r⟩ := q
    rw [if_neg r0]
    refine ⟨⟨by omega, by omega⟩, fun z => ?_, fun z => ?_⟩
    · rw [if_neg (by omega)]
      exact ca_I (by omega) (pe_leaf (o := 7) (x5 := (t : Int)) (by omega) hp he P T (by omega) (by omega) (nm_of (by omega) (by omega) (by omega) (by rw [Int.toNat_natCast]; exact n1)) (fun m v => by rw [v]) (Or.inr (by omega))) (fun y M7 _ q => q) nt_E_no
    · rw [if_pos (by omega)]
      refine ca_I (by omega) (H5 _ (t + 1) n dp D (d - 1) PT (by omega) (by omega) (by omega)) (fun y M5 _ q => ?_) (fun _ _ _ q => q.mo (fun z => z) (fun _ _ z => z) T.1)
      obtain ⟨t2, n2, g2, t12, n12, R, RC⟩ := q
      rw [g2]
      have U := T.seq hp R w0 (fun k k1 z => by have z : k = t := z; omega)
      have b2 := R.2.2.2.2.2.1
      exact ca_I (by omega) (pe_args (n := n) (x1 := 8) (x3 := -1) (x5 := (t : Int)) (by omega) hp he P U (by omega) (by omega) (by omega) b2 y RC (Or.inl ⟨rfl, rfl, rfl, rfl⟩) (nm_of (by omega) (by omega) (by omega) (by rw [Int.toNat_natCast]; exact n1)) (fun m v => by rw [v]) (Or.inr ⟨by omega, Int.toNat_natCast _⟩) (by omega)) (fun y M6 _ q => q.1) nt_E_no
  · rw [if_pos n2]
    have te := te_of z0 he1 (by omega)
    refine ca_I (by omega) (c_299 (by omega) P.1 ht (by omega) hl) (fun y M3 _ q => ?_) (fun _ _ _ q => q.mo (fun z => by rw [if_neg (by omega)]) rE_F fr.rf)
    obtain ⟨rfl, rfl, q2⟩ := q
    rw [if_pos q2]
    have T := S0.pass hp (by omega) te (fun v => by omega)
    exact ca_I (by omega) (pe_leaf (o := 1) (x5 := (t : Int)) (by omega) hp he P T (by omega) (by omega) ⟨by omega, fun _ => ⟨by omega, by rw [Int.toNat_natCast]; exact n2⟩, fun v => by omega, fun v => by omega, fun v => absurd (by omega) v⟩ (fun m v => v.elim) (Or.inr (by omega))) (fun y M7 _ q => q) nt_E_no
/-- all that reads exps -/
theorem exps (hp : 164 < p) (he : e0 ≤ 2405) (hl : lim < 2408) (z0 : s e0 = 0) (HD : CD N X p s c lim gd e0 h) : ∀ k, C0 N X p s c lim gd e0 h k ∧ C1 N X p s c lim gd e0 h k ∧ C2 N X p s c lim gd e0 h k ∧ C3 N X p s c lim gd e0 h k ∧ C4 N X p s c lim gd e0 h k ∧ C5 N X p s c lim gd e0 h k ∧ C6 N X p s c lim gd e0 h k
  | 0 => by
    refine ⟨?_, ?_, ?_, ?_, ?_, ?_, ?_⟩
    · intro M l t n dp D d P
      have := P.2.2.1
      omega
    · intro M0 M l t0 n0 t n dp D d e P S
      obtain ⟨t', n', S1, _, _, _, S5, _⟩ := S
      cases S1
      have := S5.2.2.2.2.1
      omega
    · intro M t n dp D d P
      have := P.2.2.1
      omega
    · intro M t n dp D d P
      have := P.2.2.1
      omega
    · intro M0 M t0 n0 t n dp D d e P S
      obtain ⟨t', n', S1, _, _, _, S5, _⟩ := S
      cases S1
      have := S5.2.2.2.2.1
      omega
    · intro M t n dp D d P
      have := P.2.2.1
      omega
    · intro M0 M t0 n0 t n dp D d bg la P h1 h2 h3 h4
      have := h4.2.2.2.2.1
      omega
  | k + 1 => by
    obtain ⟨H0, H1, H2, H3, H4, H5, H6⟩ := exps hp he hl z0 HD k
    exact ⟨e0c hp he H0 H1 H2, e1 hp he hl z0 H0 H1, e2 hp he hl z0 H2 H3 H4, e3 hp he hl z0 HD H0 H5, e4 hp he hl z0 H4 H5, e5 hp he hl z0 H6, e6 hp he hl z0 H0 H6⟩
end EXPS4
