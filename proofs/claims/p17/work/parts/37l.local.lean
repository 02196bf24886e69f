/-! the reference's parser: locals -/
section LOCAL
variable {N : Nat} {X : Nat → Int32} {p : Nat} {s c : Nat → Int} {lim : Nat} {gd : Nat → Option Nat} {e0 : Nat} {h : Int × Nat} {k : Nat}
/-- what a local's statement reads -/
def g_loc (s c : Nat → Int) (lim : Nat) (gd : Nat → Option Nat) (k t dp : Nat) : Option Nat := if t < lim then ((g_name s lim (t + 1)).bind fun t1 => (g_need s c lim 61 t1).bind fun t2 => (g s c lim gd k 0 1 t2 dp).bind fun t3 => g_need s c lim 59 t3) else none
theorem e7l {Q : me_Q} {M : me_M} {t n dp D d : Nat} (hp : 164 < p) (he : e0 ≤ 2405) (hl : lim < 2408) (z0 : s e0 = 0) (H0 : C0 N X p s c lim gd e0 h k) (P : pr p s c lim e0 h M t n dp D) (hD : D ≤ t) (hs : g_lo s c t) (hk : 32 * (e0 + 1 - t) + 15 ≤ k + 1) (hd : 20 * (22 - dp) + 19 ≤ d)
    (HR : ∀ y M', ST p s c e0 h 20 27 D dp M n t (g_loc s c lim gd k t dp) y M' → Q (.inr (some (.inl y))) M')
    (HE : ∀ a M', px (g_loc s c lim gd k t dp = none) (rS p n D) M a M' → Q (.inl a) M') :
    ∃ d', d = d' + 1 ∧ me_W (mt_G N X) 299 d' 0 [some (.inr (.inl (some p, 29, 0)))] [] M (sx_qI (fun y123 M120 => ∃ d', d = d' + 1 ∧ me_W (mt_G N X) 304 d' 0 [some (.inr (.inl (some p, 29, 0)))] [] M120 (sx_qI (fun y127 M124 => ∃ d', d = d' + 1 ∧ me_W (mt_G N X) 302 d' 0 [some (.inr (.inl (some p, 29, 0))), some (.inl 4), some (.inl y127), some (.inl y123), some (.inl (me_i M124 p 38)), some (.inl 0), some (.inl ((t : Int))), none] [] M124 (sx_qI (fun y131 M128 => ∃ d', d = d' + 1 ∧ me_W (mt_G N X) 305 d' 0 [some (.inr (.inl (some p, 29, 0))), some (.inl 61)] [] M128 (sx_qV (fun M132 => ∃ d', d = d' + 1 ∧ me_W (mt_G N X) 314 d' 0 [some (.inr (.inl (some p, 29, 0)))] [] M132 (sx_qI (fun y138 M135 => ∃ d', d = d' + 1 ∧ me_W (mt_G N X) 305 d' 0 [some (.inr (.inl (some p, 29, 0))), some (.inl 59)] [] M135 (sx_qV (fun M139 => ∃ d', d = d' + 1 ∧ me_W (mt_G N X) 317 d' 0 [some (.inr (.inl (some p, 29, 0))), some (.inl 21), some (.inl y138), some (.inl y131), some (.inl (-1)), some (.inl (-1)), some (.inl ((t : Int))), none] [] M139 (sx_qI (fun y145 M142 => 0 ≤ y131 ∧ y131 < ((2408 : Nat) : Int) ∧ let M146 : me_M := me_sI M142 (p + 30) y131.toNat (Int32.ofInt y145); 0 ≤ y131 ∧ y131 < ((2408 : Nat) : Int) ∧ let M147 : me_M := me_sI M146 (p + 32) y131.toNat (Int32.ofInt ((me_i M146 p 35) - 1)); Q (.inr (some (.inl y145))) M147) (fun e144 M143 => Q (.inl e144) M143))) (fun e141 M140 => Q (.inl e141) M140))) (fun e137 M136 => Q (.inl e137) M136))) (fun e134 M133 => Q (.inl e134) M133))) (fun e130 M129 => Q (.inl e130) M129))) (fun e126 M125 => Q (.inl e126) M125))) (fun e122 M121 => Q (.inl e122) M121)) := by
  have ht := P.2.1
  have he1 := P.2.2.1
  have hz := P.2.2.2.2.2.2.2.2.2.1
  have hn0 := P.2.2.2.2.2.2.1
  have hs' := hs
  unfold g_lo at hs'
  have dp20 : dp ≤ 20 := by omega
  have te := te_of z0 he1 (by omega)
  refine ca_I (by omega) (c_299 (by omega) P.1 ht (by omega) hl) (fun y M1 _ q => ?_) (fun a M' _ q => HE a M' (q.mo (fun z => by rw [g_loc, if_neg (by omega)]) rS_F fr.rf))
  obtain ⟨rfl, rfl, q2⟩ := q
  have T : ps p s c e0 h D dp M n t D (fun m => m = t ∨ m = t + 1) (pT M p t) (t + 1) n := P.ps.pass hp (by omega) te (fun _ => Or.inl rfl)
  have PT := T.pr hp P (by omega) (by omega)
  refine ca_I (by omega) (c_304 (by omega) PT.1 PT.2.1 (by omega) hl) (fun y M3 _ q => ?_) (fun a M' _ q => HE a M' (q.mo (fun z => by rw [g_loc, if_pos q2, g_name, if_neg z]; rfl) rS_F T.1))
  obtain ⟨rfl, rfl, q3, q4⟩ := q
  have te2 := te_of z0 (by omega) (show ¬ s (t + 1) = 0 by omega)
  have T2 : ps p s c e0 h D dp M n t D (fun m => m = t ∨ m = t + 1) (pT (pT M p t) p (t + 1)) (t + 2) n := T.pass hp (by omega) te2 (fun _ => Or.inr rfl)
  have PT2 := T2.pr hp P (by omega) (by omega)
  have go1 : g_loc s c lim gd k t dp = (g_need s c lim 61 (t + 2)).bind fun t2 => (g s c lim gd k 0 1 t2 dp).bind fun t3 => g_need s c lim 59 t3 := by
    rw [g_loc, if_pos q2, g_name, if_pos ⟨q3, q4⟩]
    rfl
  generalize hM2 : pT (pT M p t) p (t + 1) = M2 at *
  refine ca_I (by omega) (c_302 PT2.2.2.2.2.2.2.2.2.1 (by omega) ⟨by omega, by omega⟩ ⟨by omega, by omega⟩ ⟨by omega, by omega⟩ (me_i_r _ _ _) (Or.inl rfl) ⟨by omega, by omega⟩) (fun y M3 _ q => ?_) nt_E_no
  obtain ⟨rfl, f3, D3, v⟩ := q
  have A3 : ∀ i j, i < 11 → nA p M3 i j = nA p M2 i j := fun i j _ => f3.i (by omega)
  have v0 : tA p M3 0 D = 4 := v 0 (by omega)
  have v1 : tA p M3 1 D = ((t + 1 : Nat) : Int) := v 1 (by omega)
  have v2 : tA p M3 2 D = (t : Int) := v 2 (by omega)
  have v3 : tA p M3 3 D = h.1 := (v 3 (by omega)).trans PT2.2.2.2.2.2.2.2.1.1
  have v4 : tA p M3 4 D = 0 := v 4 (by omega)
  have v6 : tA p M3 6 D = (t : Int) := v 6 (by omega)
  have v8 : tA p M3 8 D = -5 := v 8 (by omega)
  have v9 : tA p M3 9 D = 0 := v 9 (by omega)
  have F3 : fr (rS p n D) M M3 := T2.1.tr (f3.mo fun b j z => Or.inr (by omega))
  have S3 : pe p s e0 h (D + 1) dp M3 n t (fun m => m = t ∨ m = t + 1) M3 (t + 2) n := ⟨fr.rf, by rw [f3.i (by omega), PT2.2.1], by rw [f3.i (by omega), PT2.2.2.2.1], by rw [f3.i (by omega), PT2.2.2.2.2.2.1], by omega, Nat.le_refl _, by omega, FR.nil, fun m m1 m2 _ => Or.inl (by omega), NI.nil⟩
  have h3 : me_i M3 p 38 = h.1 := by rw [f3.i (by omega), PT2.2.2.2.2.2.2.2.1.1]
  have h4 := P.2.2.2.2.2.2.2.1.2
  have hD := P.2.2.2.2.2.2.2.2.2.2
  -- pr at a place behind
  have PP : ∀ M' t' n', pe p s e0 h (D + 1) dp M3 n t (fun m => m = t ∨ m = t + 1) M' t' n' → pr p s c lim e0 h M' t' n' dp (D + 1) := fun M' t' n' S => ⟨pk_e (pk_s P.1 hp F3) hp S.1, S.2.1, S.2.2.2.2.1.2, S.2.2.1, by omega, S.2.2.2.1, by have := S.2.2.2.2.2.2.1; omega, ⟨by rw [S.1.i (by unfold rE fF; omega), h3], by have := S.2.2.2.2.1; omega⟩, by rw [S.1.i (by unfold rE fF; omega), D3], by omega, by omega⟩
  have P3 := PP _ _ _ S3
  refine ca_V (by omega) (c_305 (by omega) P3.1 P3.2.1 (by omega) hl ⟨by omega, by omega⟩) (fun M4 _ q => ?_) (fun a M' _ q => HE a M' (q.mo (fun z => by rw [go1, g_need, if_neg z]; rfl) rS_F F3))
  obtain ⟨rfl, q5, q6, q7⟩ := q
  have te3 := te_of z0 (by omega) (show ¬ s (t + 2) = 0 by omega)
  have S4 : pe p s e0 h (D + 1) dp M3 n t (fun m => m = t ∨ m = t + 1) (pT M3 p (t + 2)) (t + 3) n := S3.pass hp (by omega) te3 (fun z => by omega)
  have P4 := PP _ _ _ S4
  rw [show g_need s c lim 61 (t + 2) = some (t + 3) by rw [g_need, if_pos ⟨q5, q6, q7⟩], Option.bind_some] at go1
  refine ca_I (by omega) (c_314 (d := d - 1) H0 P4 (by omega) (by omega)) (fun y M5 _ q => ?_) (fun a M' _ q => HE a M' (q.mo (fun z => by rw [go1, z]; rfl) (rS_E (Nat.le_refl _)) (F3.tr (S4.1.mo (rS_E (Nat.le_refl _))))))
  obtain ⟨t1, n1, g1, t11, n11, rfl, R, R6, o1, o2, o5, o6⟩ := q
  rw [g1, Option.bind_some] at go1
  have S5 := S4.seq hp R w0 (fun k k1 z => by have z : k = t ∨ k = t + 1 := z; omega)
  have P5 := PP _ _ _ S5
  have b1 := R.2.2.2.2.1
  have b2 := R.2.2.2.2.2.2.1
  refine ca_V (by omega) (c_305 (by omega) P5.1 P5.2.1 (by omega) hl ⟨by omega, by omega⟩) (fun M6 _ q => ?_) (fun a M' _ q => HE a M' (q.mo (fun z => by rw [go1, g_need, if_neg z]) rS_F (F3.tr (S5.1.mo (rS_E (Nat.le_refl _))))))
  obtain ⟨rfl, r5, r6, r7⟩ := q
  have te4 := te_of z0 (by omega) (show ¬ s t1 = 0 by omega)
  have S6 := S5.pass hp (by omega) te4 (fun z => by omega)
  have P6 := PP _ _ _ S6
  rw [g_need, if_pos ⟨r5, r6, r7⟩] at go1
  have A6 : ∀ i j, nA p (pT M5 p t1) i j = nA p M5 i j := fun i j => pT_A p t1 M5 i j
  have B6 : ∀ i j, i < 10 → tA p (pT M5 p t1) i j = tA p M3 i j := fun i j _ => S6.1.i (by unfold rE fF; omega)
  have i1 : ((n1 : Int) - 1).toNat = n1 - 1 := by omega
  refine ca_I (by omega) (pe_nodeL (w' := fun m => m = t ∨ m = t + 1) (by omega) hp S6 (R6.eq fun i j _ _ => A6 i j) (by omega) (by omega) (by omega) (by omega) ⟨P6.2.2.2.2.2.2.2.1.1, h4⟩ ⟨by omega, by omega⟩ ⟨by omega, by omega⟩ ?_ (nm_no (by omega)) ⟨by omega, by omega⟩ (fun _ => ⟨by omega, by rw [Int.toNat_natCast, B6 0 D (by omega)]; exact v0, hD⟩) (Or.inr ⟨by omega, by rw [i1]; exact List.mem_cons_self⟩) (fun z => absurd rfl z) (fun _ => Or.inl rfl) (fun m mv => Or.inl (by rw [List.mem_singleton.mp mv]; omega)) (fun m z => Or.inl z) (Or.inl rfl) (fun _ z => z) (fun v => by omega)) (fun y M7 _ q => ?_) nt_E_no
  · unfold opk ex
    rw [i1, A6]
    exact Or.inr (Or.inr (Or.inr (Or.inr (Or.inr (Or.inr (Or.inl ⟨rfl, ⟨by omega, o1, o2⟩, by omega, rfl⟩))))))
  obtain ⟨rfl, V, VL, w0', w2, w5, w6, _, eN⟩ := q
  refine ⟨by omega, by omega, ?_⟩
  rw [Int.toNat_natCast]
  intro M8
  have f8 : fr (fun b j => b = p + 30 ∧ j = D) M7 M8 := fr_sI ⟨rfl, rfl⟩
  have t8 : me_i M8 p 35 = ((t1 + 1 : Nat) : Int) := by rw [f8.i (by omega), V.2.1]
  rw [t8]
  refine ⟨by omega, by omega, ?_⟩
  intro M9
  have f9 : fr (fun b j => b = p + 32 ∧ j = D) M8 M9 := fr_sI ⟨rfl, rfl⟩
  have f79 : fr (fun b j => (b = p + 30 ∨ b = p + 32) ∧ j = D) M7 M9 := (f8.mo fun b j z => ⟨Or.inl z.1, z.2⟩).tr (f9.mo fun b j z => ⟨Or.inr z.1, z.2⟩)
  have A9 : ∀ i j, i < 11 → nA p M9 i j = nA p M7 i j := fun i j _ => f79.i (by omega)
  have B7 : ∀ i j, i < 10 → tA p M7 i j = tA p M3 i j := fun i j _ => V.1.i (by unfold rE fF; omega)
  have B9 : ∀ i j, i < 10 → ¬ ((i = 5 ∨ i = 7) ∧ j = D) → tA p M9 i j = tA p M3 i j := fun i j i1 i2 => (f79.i (by omega)).trans (B7 i j i1)
  have B95 : tA p M9 5 D = (n1 : Int) := by
    show me_i M9 (p + 30) D = _
    rw [f9.i (by omega)]
    show me_i (me_sI _ _ _ _) _ _ = _
    rw [me_i_sI, if_pos ⟨rfl, rfl⟩, me_to ⟨by omega, by omega⟩]
  have B97 : tA p M9 7 D = (t1 : Int) := by
    show me_i (me_sI _ _ _ _) _ _ = _
    rw [me_i_sI, if_pos ⟨rfl, rfl⟩, me_to ⟨by omega, by omega⟩]
    omega
  refine HR _ _ ⟨t1 + 1, n1 + 1, D + 1, go1, by omega, by omega, by omega, ⟨F3.tr ((V.1.mo (rS_E (Nat.le_refl _))).tr (f79.mo fun b j z => Or.inr (Or.inr ⟨by omega, by omega, by omega⟩))), ⟨fr.rf, by rw [f79.i (by omega), V.2.1], by rw [f79.i (by omega), V.2.2.1], by rw [f79.i (by omega), V.2.2.2.1], V.2.2.2.2.1, by omega, V.2.2.2.2.2.2.1, ?_, fun m a1 a2 a3 => ?_, (V.2.2.2.2.2.2.2.2.2.eq fun m _ _ => A9 4 m (by omega)).mo (Nat.le_refl _) (fun k _ _ z => ?_)⟩, ?_, by omega, by omega, fun m m1 m2 => ?_, fun m m' m1 m2 m3 => by omega⟩, VL.eq fun i j i1 _ => A9 i j i1, ?_, ?_, ?_, ?_⟩
  · exact V.2.2.2.2.2.2.2.1.eq (fun i j i1 _ _ => A9 i j i1) fun j _ => f79.i (by omega)
  · rcases V.2.2.2.2.2.2.2.2.1 m a1 a2 a3 with z | ⟨x, z1, z2, z3⟩
    · refine Or.inl (Or.inr ⟨D, Nat.le_refl _, by omega, ?_⟩)
      rw [B9 1 D (by omega) (by omega), B9 2 D (by omega) (by omega), v1, v2]
      omega
    · exact Or.inr ⟨x, z1, z2, by rw [A9 4 x (by omega)]; exact z3⟩
  · rcases z with z | ⟨x, x1, x2, x3⟩
    · exact z.elim
    · have ex : x = D := by omega
      rw [ex, B9 1 D (by omega) (by omega), B9 2 D (by omega) (by omega), v1, v2] at x3
      show k = t ∨ k = t + 1
      omega
  · rw [f79.i (by omega), V.1.i (by unfold rE fF; omega), D3]
  · have : m = D := by omega
    subst this
    unfold ld
    rw [B95, B97, B9 0 m (by omega) (by omega), B9 1 m (by omega) (by omega), B9 2 m (by omega) (by omega), B9 3 m (by omega) (by omega), B9 4 m (by omega) (by omega), B9 6 m (by omega) (by omega), B9 8 m (by omega) (by omega), B9 9 m (by omega) (by omega), v0, v1, v2, v3, v4, v6, v8, v9, Int.toNat_natCast, Int.toNat_natCast, Int.toNat_natCast, A9 0 n1 (by omega), A9 2 n1 (by omega)]
    exact ⟨rfl, ⟨by omega, by omega, by omega, by omega, by omega⟩, q3, by unfold g_ty; omega, rfl, rfl, ⟨by omega, by omega, w0', w2⟩, rfl, rfl⟩
  · show 20 ≤ nA p M9 0 n1
    rw [A9 0 n1 (by omega)]
    omega
  · show nA p M9 0 n1 ≤ 27
    rw [A9 0 n1 (by omega)]
    omega
  · show nA p M9 5 n1 = t
    rw [A9 5 n1 (by omega)]
    exact w5
  · show nA p M9 6 n1 = _
    rw [A9 6 n1 (by omega)]
    exact w6
end LOCAL
