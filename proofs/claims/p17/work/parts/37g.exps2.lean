/-! the reference's parser: exps, further -/
theorem rE_W {p n0 : Nat} : ∀ b j, (fF b j ∨ b = p ∧ j = 37) → rE p n0 b j := fun b j z => by
  rcases z with z | z
  · exact Or.inl z
  · exact Or.inr (Or.inl ⟨z.1, by omega⟩)
section EXPS2
variable {N : Nat} {X : Nat → Int32} {p : Nat} {s c : Nat → Int} {lim : Nat} {gd : Nat → Option Nat} {e0 : Nat} {h : Int × Nat} {k : Nat}
theorem mkEX {o1 o2 x1 : Int} {D dp n0 t0 t n : Nat} {M0 M' : me_M} (V : pe p s e0 h D dp M0 n0 t0 (fun _ => False) M' t (n + 1)) (VL : RL (nA p M') n0 (n + 1) [n]) (v0 : nA p M' 0 n = x1) (a1 : o1 ≤ x1) (a2 : x1 ≤ o2) (v5 : nA p M' 5 n = t0) (v6 : nA p M' 6 n = (t : Int) - 1) (t1 : t0 < t) (nn : n0 ≤ n) : EX p s e0 h o1 o2 D dp M0 n0 t0 (some t) (n : Int) M' := ⟨t, n + 1, rfl, t1, by omega, by omega, V, VL, by show o1 ≤ nA p M' 0 n; omega, by show nA p M' 0 n ≤ o2; omega, v5, v6⟩
/-- a name that waits is no node's -/
theorem pe_fresh {D dp n0 t0 t n : Nat} {M0 M : me_M} {w : Nat → Prop} {x5 : Int} (Q : pe p s e0 h D dp M0 n0 t0 w M t n) (hx0 : x5 = -1 ∨ (t0 : Int) ≤ x5 ∧ w x5.toNat) : x5 = -1 ∨ (t0 : Int) ≤ x5 ∧ ¬ (fun _ : Nat => False) x5.toNat ∧ ∀ m, n0 ≤ m → m < n → ¬ nA p M 4 m = x5 := by
  rcases hx0 with z | z
  · exact Or.inl z
  · refine Or.inr ⟨z.1, fun y => y, fun m m1 m2 e => ?_⟩
    rcases Q.2.2.2.2.2.2.2.2.2.1 m m1 m2 with v | v
    · omega
    · rw [e] at v
      exact v.2.2 z.2
/-- a node with one exp -/
theorem pe_one {o e x5 : Int} {d D dp dp' n0 t0 t n : Nat} {M0 M : me_M} {w : Nat → Prop} (hd : 1 ≤ d) (hp : 164 < p) (he : e0 ≤ 2405) (P : pr p s c lim e0 h M0 t0 n0 dp' D) (Q : pe p s e0 h D dp M0 n0 t0 w M t n) (R : RL (nA p M) n0 n [n - 1]) (n12 : n0 < n) (o1 : 1 ≤ nA p M 0 (n - 1)) (o2 : nA p M 0 (n - 1) ≤ 16) (ee : e = (n : Int) - 1) (hn : n + t0 < n0 + t) (ho : o = 10 ∨ o = 11 ∨ o = 13 ∨ o = 14) (k2 : nmk s t o x5) (hw : ∀ k, w k → x5 = (k : Int)) (hx0 : x5 = -1 ∨ (t0 : Int) ≤ x5 ∧ w x5.toNat) :
    me_W (mt_G N X) 317 d 0 [some (.inr (.inl (some p, 29, 0))), some (.inl o), some (.inl e), some (.inl (-1)), some (.inl (-1)), some (.inl x5), some (.inl (t0 : Int)), none] [] M (sx_qI (fun y M' => EX p s e0 h 1 16 D dp M0 n0 t0 (some t) y M' ∧ y = (n : Int)) nt_E) := by
  have b1 := Q.2.2.2.2.1
  have b2 := P.2.2.2.2.2.2.1
  have hm : me_i M p 38 = h.1 ∧ h.2 ≤ t0 := by
    rw [Q.1.i (by unfold rE fF; omega)]
    exact P.2.2.2.2.2.2.2.1
  have i1 : e.toNat = n - 1 := by omega
  refine (pe_nodeL (w' := fun _ => False) hd hp Q R (by omega) (by omega) (by omega) hn hm ⟨by omega, by omega⟩ ⟨by omega, by omega⟩ ?_ k2 ⟨by omega, by omega⟩ (fun v => by omega) (Or.inr ⟨by omega, by rw [i1]; exact List.mem_cons_self⟩) (fun _ => Or.inl rfl) (fun _ => Or.inl rfl) (fun m mv => Or.inl (by rw [List.mem_singleton.mp mv]; omega)) (fun m mv => Or.inr (hw m mv)) (pe_fresh Q hx0) (fun _ z => z.elim) (fun v => by omega)).mono fun o M' _ g => ?_
  · unfold opk ex
    rw [i1]
    exact Or.inr (Or.inr (Or.inl ⟨by omega, ⟨by omega, by omega, by omega⟩, rfl, rfl⟩))
  · rcases o with a | _ | x | ⟨q, u⟩ | j <;> first | exact g.elim | skip
    obtain ⟨rfl, V, VL, v0, v2, v5, v6, _⟩ := g
    exact ⟨mkEX V VL v0 (by omega) (by omega) v5 v6 (by omega) (by omega), rfl⟩
/-- a node without parts -/
theorem pe_leaf {o x5 : Int} {d D dp dp' n0 t0 t : Nat} {M0 M : me_M} {w : Nat → Prop} (hd : 1 ≤ d) (hp : 164 < p) (he : e0 ≤ 2405) (P : pr p s c lim e0 h M0 t0 n0 dp' D) (Q : pe p s e0 h D dp M0 n0 t0 w M t n0) (t1 : t0 < t) (ho : 1 ≤ o ∧ o ≤ 7 ∨ o = 9 ∨ o = 16) (k2 : nmk s t o x5) (hw : ∀ k, w k → x5 = (k : Int)) (hx0 : x5 = -1 ∨ (t0 : Int) ≤ x5) :
    me_W (mt_G N X) 317 d 0 [some (.inr (.inl (some p, 29, 0))), some (.inl o), some (.inl (-1)), some (.inl (-1)), some (.inl (-1)), some (.inl x5), some (.inl (t0 : Int)), none] [] M (sx_qI (fun y M' => EX p s e0 h 1 16 D dp M0 n0 t0 (some t) y M') nt_E) := by
  have b1 := Q.2.2.2.2.1
  have b2 := P.2.2.2.2.2.2.1
  have hm : me_i M p 38 = h.1 ∧ h.2 ≤ t0 := by
    rw [Q.1.i (by unfold rE fF; omega)]
    exact P.2.2.2.2.2.2.2.1
  refine (pe_nodeL (w' := fun _ => False) (L := []) hd hp Q RL.nil (by omega) (by omega) t1 (by omega) hm ⟨by omega, by omega⟩ ⟨by omega, by omega⟩ (Or.inl ⟨ho, rfl, rfl, rfl⟩) k2 ⟨by omega, by omega⟩ (fun v => by omega) (Or.inl rfl) (fun _ => Or.inl rfl) (fun _ => Or.inl rfl) (fun m mv => by cases mv) (fun m mv => Or.inr (hw m mv)) (hx0.imp id fun z => ⟨z, fun y => y, fun m m1 m2 => by omega⟩) (fun _ z => z.elim) (fun v => by omega)).mono fun o M' _ g => ?_
  rcases o with a | _ | x | ⟨q, u⟩ | j <;> first | exact g.elim | skip
  obtain ⟨rfl, V, VL, v0, v2, v5, v6, _⟩ := g
  exact mkEX V VL v0 (by omega) (by omega) v5 v6 (by omega) (by omega)
theorem e2u {Q : me_Q} {M5 : me_M} {t n dp D d : Nat} {y8 : Int} (hp : 164 < p) (he : e0 ≤ 2405) (hl : lim < 2408) (z0 : s e0 = 0) (H2 : C2 N X p s c lim gd e0 h k) (P : pr p s c lim e0 h M5 t n dp D) (hy : y8 = 0 ∨ y8 = 1) (hs : s t = 4) (hc : c t = 45 ∨ c t = 33) (hk : 32 * (e0 + 1 - t) + 6 ≤ k + 1) (hd : 20 * (22 - dp) + 9 ≤ d)
    (HR : ∀ t2 y M', t < lim → g_in s c dp (t + 1) → g s c lim gd k 2 0 (t + 1) (dp + 1) = some t2 → EX p s e0 h 1 16 D dp M5 n t (some t2) y M' → Q (.inr (some (.inl y))) M')
    (HE : ∀ a M', px (¬ (t < lim ∧ g_in s c dp (t + 1)) ∨ g s c lim gd k 2 0 (t + 1) (dp + 1) = none) (rE p n) M5 a M' → Q (.inl a) M') :
    ∃ d', d = d' + 1 ∧ me_W (mt_G N X) 299 d' 0 [some (.inr (.inl (some p, 29, 0)))] [] M5 (sx_qI (fun y12 M9 => ∃ d', d = d' + 1 ∧ me_W (mt_G N X) 311 d' 0 [some (.inr (.inl (some p, 29, 0)))] [] M9 (sx_qV (fun M13 => ∃ d', d = d' + 1 ∧ me_W (mt_G N X) 316 d' 0 [some (.inr (.inl (some p, 29, 0))), none, none, none, none] [] M13 (sx_qI (fun y19 M16 => let M20 : me_M := me_sI M16 p 37 (Int32.ofInt ((me_i M16 p 37) - 1)); me_r y8 ∧ (y8 = 0 → ∃ d', d = d' + 1 ∧ me_W (mt_G N X) 317 d' 0 [some (.inr (.inl (some p, 29, 0))), some (.inl 14), some (.inl y19), some (.inl (-1)), some (.inl (-1)), some (.inl (-1)), some (.inl ((t : Int))), none] [] M20 (sx_qI (fun y24 M21 => Q (.inr (some (.inl y24))) M21) (fun e23 M22 => Q (.inl e23) M22))) ∧ (¬ y8 = 0 → ∃ d', d = d' + 1 ∧ me_W (mt_G N X) 317 d' 0 [some (.inr (.inl (some p, 29, 0))), some (.inl 13), some (.inl y19), some (.inl (-1)), some (.inl (-1)), some (.inl (-1)), some (.inl ((t : Int))), none] [] M20 (sx_qI (fun y28 M25 => Q (.inr (some (.inl y28))) M25) (fun e27 M26 => Q (.inl e27) M26)))) (fun e18 M17 => Q (.inl e18) M17))) (fun e15 M14 => Q (.inl e15) M14))) (fun e11 M10 => Q (.inl e11) M10)) := by
  have ht := P.2.1
  have he1 := P.2.2.1
  have hz := P.2.2.2.2.2.2.2.2.2.1
  have hn0 := P.2.2.2.2.2.2.1
  have dp20 : dp ≤ 20 := by omega
  have te : t < e0 := by
    have : ¬ t = e0 := fun v => by
      rw [v, z0] at hs
      omega
    omega
  refine ca_I (by omega) (c_299 (by omega) P.1 ht (by omega) hl) (fun y M1 _ q => ?_) (fun a M' _ q => HE a M' (q.mo (fun z => Or.inl (by omega)) rE_F fr.rf))
  obtain ⟨rfl, rfl, q2⟩ := q
  have T := (P.st (w := fun _ => False)).pass hp (by omega) te (fun v => by omega)
  have PT := T.pr hp P (by omega) (by omega)
  refine ca_V (by omega) (c_311 (by omega) PT.1 hp PT.2.1 (by omega) PT.2.2.2.1 (by omega)) (fun M2 _ q => ?_) (fun a M' _ q => HE a M' (q.mo (fun z => Or.inl fun v => z v.2) rE_W T.1))
  obtain ⟨rfl, gi⟩ := q
  have W := T.deep (dp' := dp + 1) hp (by omega)
  rw [show ((dp : Int) + 1) = ((dp + 1 : Nat) : Int) by omega]
  have PW := W.pr hp P (by omega) (fun v => by unfold g_in at gi; omega)
  refine ca_I (by omega) (H2 _ (t + 1) n (dp + 1) D _ PW (by omega) (by omega)) (fun y M3 _ q => ?_) (fun a M' _ q => HE a M' (q.mo Or.inr (fun _ _ z => z) W.1))
  obtain ⟨t2, n2, g2, t12, n12, rfl, R, R6, o1, o2, o5, o6⟩ := q
  have U := (W.seq hp R w0 (fun _ _ z => z)).deep (dp' := dp) hp (by omega)
  have b1 := R.2.2.2.2.2.2.1
  intro M20
  have e20 : M20 = me_sI M3 p 37 (Int32.ofInt (dp : Int)) := by
    show me_sI _ _ _ _ = _
    rw [R.2.2.1, show ((dp + 1 : Nat) : Int) - 1 = (dp : Int) by omega]
  rw [e20]
  clear e20
  clear M20
  have UL := R6.eq (A' := nA p (me_sI M3 p 37 (Int32.ofInt (dp : Int)))) (fun i j _ _ => dp_A p M3 _ i j)
  have nm : ∀ o : Int, (o = 13 ∨ o = 14) → nmk s t2 o (-1) := fun o ho => ⟨by omega, by omega, by omega, by omega, fun _ => rfl⟩
  have node := fun (o : Int) (ho : o = 13 ∨ o = 14) => ca_I (d := d) (K := fun y M => Q (.inr (some (.inl y))) M) (E := fun e M => Q (.inl e) M) (by omega) (pe_one (N := N) (X := X) (d := d - 1) (o := o) (x5 := -1) (by omega) hp he P U UL (by omega) (by rw [dp_A]; exact o1) (by rw [dp_A]; exact o2) rfl (by omega) (by omega) (nm o ho) (fun _ z => z.elim) (Or.inl rfl)) (fun y M4 _ q => HR t2 y M4 q2 gi g2 q.1) nt_E_no
  exact ⟨by rcases hy with rfl | rfl <;> exact ⟨by omega, by omega⟩, fun _ => node 14 (by omega), fun _ => node 13 (by omega)⟩
theorem e2 (hp : 164 < p) (he : e0 ≤ 2405) (hl : lim < 2408) (z0 : s e0 = 0) (H2 : C2 N X p s c lim gd e0 h k) (H3 : C3 N X p s c lim gd e0 h k) (H4 : C4 N X p s c lim gd e0 h k) : C2 N X p s c lim gd e0 h (k + 1) := by
  intro M t n dp D d P hk hd
  have ht := P.2.1
  have he1 := P.2.2.1
  rw [g]
  refine b316_0 (ca_I (by omega) (c_307 (by omega) P.1 ht (by omega) ⟨by omega, by omega⟩) (fun y M1 _ q => ?_) (fun _ _ _ q => q.mo (fun z => by rw [if_pos z]) rE_F fr.rf))
  obtain ⟨rfl, q0, q⟩ := q
  rw [if_neg q0, ht]
  have tail := fun (y8 : Int) (hy : y8 = 0 ∨ y8 = 1) (hs : s t = 4) (hc : c t = 45 ∨ c t = 33) => e2u (Q := sx_qI (EX p s e0 h 1 16 D dp M1 n t (if s t = 4 ∧ (c t = 45 ∨ c t = 33) then (if t < lim ∧ g_in s c dp (t + 1) then g s c lim gd k 2 0 (t + 1) (dp + 1) else none) else (g s c lim gd k 3 0 t dp).bind fun t1 => g s c lim gd k 4 0 t1 dp)) (px ((if s t = 4 ∧ (c t = 45 ∨ c t = 33) then (if t < lim ∧ g_in s c dp (t + 1) then g s c lim gd k 2 0 (t + 1) (dp + 1) else none) else (g s c lim gd k 3 0 t dp).bind fun t1 => g s c lim gd k 4 0 t1 dp) = none) (rE p n) M1)) hp he hl z0 H2 P hy hs hc hk hd (fun t2 y M' a1 a2 a3 q => by rw [if_pos ⟨hs, hc⟩, if_pos ⟨a1, a2⟩, a3]; exact q) (fun a M' q => q.mo (fun z => by
    rw [if_pos ⟨hs, hc⟩]
    split
    · rename_i v
      rcases z with z | z
      · exact absurd v z
      · exact z
    · rfl) (fun _ _ z => z) fr.rf)
  refine ⟨⟨by omega, by omega⟩, fun z => ?_, fun z => ?_⟩
  · have q1 : s t = 4 ∧ c t = 45 := by omega
    refine ca_I (by omega) (c_307 (by omega) P.1 ht (by omega) ⟨by omega, by omega⟩) (fun y M2 _ q => ?_) (fun _ _ _ q => absurd q.2.1 q0)
    obtain ⟨rfl, _, q'⟩ := q
    exact tail y (by omega) q1.1 (Or.inl q1.2)
  refine ca_I (by omega) (c_307 (by omega) P.1 ht (by omega) ⟨by omega, by omega⟩) (fun y M2 _ q' => ?_) (fun _ _ _ q => absurd q.2.1 q0)
  obtain ⟨rfl, _, q'⟩ := q'
  refine ⟨⟨by omega, by omega⟩, fun w => ?_, fun w => ?_⟩
  · rw [if_neg (by omega)]
    refine ca_I (by omega) (H3 M2 t n dp D (d - 1) P (by omega) (by omega)) (fun y M3 _ q => ?_) (fun _ _ _ q => q.mo (fun z => by rw [z]; rfl) (fun _ _ z => z) fr.rf)
    obtain ⟨t1, n1, g1, q⟩ := id q
    rw [g1]
    have hdp : dp ≤ 20 := by
      by_cases v : 20 < dp
      · have := (g_sg (lim := lim) (dp := dp) (gd := gd) (P.2.2.2.2.2.2.2.2.2.1 v) k 0).2.2.1
        rw [g1] at this
        cases this
      · omega
    have q1 := q.1
    exact H4 M2 M3 t n t1 n1 dp D d y P ⟨t1, n1, rfl, q⟩ q.2.2.1 hdp (by omega) hd
  · refine ca_I (by omega) (c_307 (by omega) P.1 ht (by omega) ⟨by omega, by omega⟩) (fun y M2 _ q3 => ?_) (fun _ _ _ q => absurd q.2.1 q0)
    obtain ⟨rfl, _, q3⟩ := q3
    exact tail y (by omega) (by omega) (by omega)
end EXPS2
