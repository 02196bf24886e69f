/-! the reference's parser: readClass -/
section CLS2
variable {N : Nat} {X : Nat → Int32} {p : Nat} {s c : Nat → Int} {Φ : Nat → Nat} {lim : Nat} {gd : Nat → Option Nat} {K e0 f0 : Nat} {d n m t own ot : Nat} {M0 : me_M}
theorem c_298 (hp : 164 < p) (he : e0 ≤ 2405) (hef : e0 ≤ f0 + 601) (hl : lim < 2408) (z0 : s e0 = 0) (hΦ : ∀ x : Int, (f0 : Int) ≤ x → x < e0 → Φ x.toNat = f0) (HD : ∀ h, CD N X p s c lim gd e0 h) (hK : 80000 ≤ K) (hK2 : K < 900000) (P : pz p s c Φ lim e0 f0 M0 t n m) (ho : me_i M0 p 39 = (ot : Int)) (hor : own + ot < 100000) (hs : s t = 3 ∧ c t = 0) (hd : 490 ≤ d) :
    me_W (mt_G N X) 298 d 0 [some (.inr (.inl (some p, 29, 0))), some (.inl (own : Int)), none, none, none, none, none] [] M0 (sx_qV (CE p s c Φ lim e0 f0 M0 n m t (g_cls s c lim gd K (own + ot) t)) (px (g_cls s c lim gd K (own + ot) t = none) (rM p n m) M0)) := by
  obtain ⟨P1, P2, P3, P4, P5, P6, P7, P8⟩ := id P
  have te := te_of z0 P3.2 (show ¬ s t = 0 by omega)
  generalize hgo : g_cls s c lim gd K (own + ot) t = go
  rw [g_cls] at hgo
  refine b298_0 (ca_I (by omega) (c_299 (by omega) P1 P2 (by omega) hl) (fun y M2 _ q => ?_) (fun _ _ _ q => q.mo (fun z => by rw [← hgo, if_neg (by omega)]) rM_F fr.rf))
  obtain ⟨rfl, rfl, l1⟩ := q
  have f1 : fr (fun b j => b = p ∧ j = 35) M0 (pT M0 p t) := fr_sI ⟨rfl, rfl⟩
  have t1 : me_i (pT M0 p t) p 35 = ((t + 1 : Nat) : Int) := by
    show me_i (me_sI _ _ _ _) _ _ = _
    rw [me_i_sI, if_pos ⟨rfl, rfl⟩, me_to ⟨by omega, by omega⟩]
    omega
  have fM1 : fr (rM p n m) M0 (pT M0 p t) := rM_T fr.rf
  have k1 := pk_m P1 hp fM1
  rw [show me_i (pT M0 p t) p 39 = (ot : Int) by rw [f1.i (by omega), ho]]
  refine ⟨⟨by omega, by omega⟩, ⟨by omega, by omega⟩, fun w => ?_, fun w => ?_⟩
  rotate_left
  · refine ca_I (by omega) (c_301 (by omega) k1 t1 (by omega) hl ⟨by omega, by omega⟩) (fun y M3 _ q => ?_) (fun _ _ _ q => q.mo (fun z => by rw [← hgo, if_neg (by omega)]) rM_F fM1)
    omega
  refine ca_I (by omega) (c_301 (by omega) k1 t1 (by omega) hl ⟨by omega, by omega⟩) (fun y M3 _ q => ?_) (fun _ _ _ q => q.mo (fun z => by rw [← hgo, if_neg (by omega)]) rM_F fM1)
  obtain ⟨rfl, rfl, s1, _, l2⟩ := q
  rw [if_pos ⟨l1, s1, by omega, l2⟩] at hgo
  have te2 := te_of z0 (by omega) (show ¬ s (t + 1) = 0 by omega)
  have f2 : fr (fun b j => b = p ∧ j = 35) (pT M0 p t) (pT (pT M0 p t) p (t + 1)) := fr_sI ⟨rfl, rfl⟩
  have fM2 : fr (rM p n m) M0 (pT (pT M0 p t) p (t + 1)) := rM_T fM1
  have t2 : me_i (pT (pT M0 p t) p (t + 1)) p 35 = ((t + 2 : Nat) : Int) := by
    show me_i (me_sI _ _ _ _) _ _ = _
    rw [me_i_sI, if_pos ⟨rfl, rfl⟩, me_to ⟨by omega, by omega⟩]
    omega
  have D2 : me_i (pT (pT M0 p t) p (t + 1)) p 16 = (m : Int) := by rw [f2.i (by omega), f1.i (by omega), P6]
  refine ca_I (by omega) (c_302 D2 (by omega) ⟨by omega, by omega⟩ ⟨by omega, by omega⟩ ⟨by omega, by omega⟩ ⟨by omega, by omega⟩ (Or.inl rfl) ⟨by omega, by omega⟩) (fun y M4 _ q => ?_) nt_E_no
  obtain ⟨rfl, f4, D4, v⟩ := q
  have fM4 : fr (rM p n m) M0 M4 := fM2.tr (f4.mo fun b j z => by unfold rM rS; omega)
  have k4 := pk_m P1 hp fM4
  have t4 : me_i M4 p 35 = ((t + 2 : Nat) : Int) := by rw [f4.i (by omega), t2]
  have n4 : me_i M4 p 4 = (n : Int) := by rw [f4.i (by omega), f2.i (by omega), f1.i (by omega), P4]
  have A4 : ∀ i j, i < 11 → j < n → nA p M4 i j = nA p M0 i j := fun i j _ _ => fM4.i (by unfold rM rS rE fF; omega)
  have B4 : ∀ i j, i < 10 → j < m → tA p M4 i j = tA p M0 i j := fun i j _ _ => fM4.i (by unfold rM rS rE fF; omega)
  have V0 : tA p M4 0 m = 0 := v 0 (by omega)
  have V1 : tA p M4 1 m = ((t + 1 : Nat) : Int) := v 1 (by omega)
  have V2 : tA p M4 2 m = -1 := v 2 (by omega)
  have V3 : tA p M4 3 m = -1 := v 3 (by omega)
  have V4 : tA p M4 4 m = 0 := v 4 (by omega)
  have V5 : tA p M4 5 m = -1 := v 5 (by omega)
  have V6 : tA p M4 6 m = (t : Int) := v 6 (by omega)
  have V8 : tA p M4 8 m = -5 := v 8 (by omega)
  have V9 : tA p M4 9 m = 0 := v 9 (by omega)
  have G4 : PG (nA p M4) (tA p M4) s c Φ n (m + 1) (t + 2) m := P8.opens (by omega) A4 B4 V0 (fun k a1 a2 a3 => by
    by_cases e : k = t
    · rw [e] at a3
      omega
    · exact Or.inl (by rw [V1]; omega)) ⟨by rw [V1]; omega, by rw [V1]; omega, V2⟩
  -- from { on
  have tail : ∀ (M5 : me_M) (t5 : Nat), fr (rM p n m) M0 M5 → me_i M5 p 35 = (t5 : Int) → t + 2 ≤ t5 → t5 ≤ e0 → me_i M5 p 4 = (n : Int) → me_i M5 p 16 = ((m + 1 : Nat) : Int) → PG (nA p M5) (tA p M5) s c Φ n (m + 1) t5 m → (∀ i, i < 10 → ¬ i = 2 → tA p M5 i m = tA p M4 i m) → (tA p M5 2 m = -1 ∨ 0 ≤ tA p M5 2 m ∧ tA p M5 2 m < t5 ∧ s (tA p M5 2 m).toNat = 1) → (g_need s c lim 123 t5).bind (fun t1 => g_mbs s c lim gd K K 0 t1) = go →
      ∃ d', d = d' + 1 ∧ me_W (mt_G N X) 305 d' 0 [some (.inr (.inl (some p, 29, 0))), some (.inl 123)] [] M5 (sx_qV (fun M17 => me_W (mt_G N X) 298 d 73 [some (.inr (.inl (some p, 29, 0))), none, none, none, none, some (.inl (m : Int)), some (.inl 0)] [] M17 (sx_qV (CE p s c Φ lim e0 f0 M0 n m t go) (px (go = none) (rM p n m) M0))) (fun e19 M18 => (sx_qV (CE p s c Φ lim e0 f0 M0 n m t go) (px (go = none) (rM p n m) M0)) (.inl e19) M18)) := by
    intro M5 t5 f5 h1 h2 h3 h4 h5 G h6 h7 hg
    have k5 := pk_m P1 hp f5
    refine ca_V (by omega) (c_305 (by omega) k5 h1 (by omega) hl ⟨by omega, by omega⟩) (fun M6 _ q => ?_) (fun _ _ _ q => q.mo (fun z => by rw [← hg, g_need, if_neg z]; rfl) rM_F f5)
    obtain ⟨rfl, a1, a2, a3⟩ := q
    rw [g_need, if_pos ⟨a1, a2, a3⟩, Option.bind_some] at hg
    have te5 := te_of z0 h3 (show ¬ s t5 = 0 by omega)
    have f6 : fr (fun b j => b = p ∧ j = 35) M5 (pT M5 p t5) := fr_sI ⟨rfl, rfl⟩
    have t6 : me_i (pT M5 p t5) p 35 = ((t5 + 1 : Nat) : Int) := by
      show me_i (me_sI _ _ _ _) _ _ = _
      rw [me_i_sI, if_pos ⟨rfl, rfl⟩, me_to ⟨by omega, by omega⟩]
      omega
    have eA : ∀ i j, nA p (pT M5 p t5) i j = nA p M5 i j := fun i j => f6.i (by omega)
    have eB : ∀ i j, tA p (pT M5 p t5) i j = tA p M5 i j := fun i j => f6.i (by omega)
    have G6 : PG (nA p (pT M5 p t5)) (tA p (pT M5 p t5)) s c Φ n (m + 1) (t5 + 1) m := G.re (by omega) (fun i j _ _ => eA i j) (fun i j _ _ _ => eB i j) (fun _ => ⟨eB 0 m, eB 3 m, eB 9 m, eB 5 m⟩) (fun _ => ⟨eB 1 m, Or.inl (eB 2 m)⟩) (fun x x1 x2 x3 => by rw [show x = t5 by omega] at x3; omega)
    refine cls_73 P1 hp he hef hl z0 hΦ HD hK (by omega) P3.1 K (pT M5 p t5) (t5 + 1) n (m + 1) 0 (rM_T f5) ⟨pk_m P1 hp (rM_T f5), t6, by omega, by rw [f6.i (by omega), h4], by omega, by rw [f6.i (by omega), h5], by omega, by omega, G6⟩ (Nat.le_refl _) (by omega) ?_ (by omega) (by omega) (by omega) ⟨by omega, ?_⟩ hg.symm
    · rw [eB, eB, eB, eB, eB, eB, eB, eB, h6 1 (by omega) (by omega), h6 3 (by omega) (by omega), h6 4 (by omega) (by omega), h6 5 (by omega) (by omega), h6 6 (by omega) (by omega), h6 8 (by omega) (by omega), h6 9 (by omega) (by omega), V1, V3, V4, V5, V6, V8, V9]
      exact ⟨rfl, s1, rfl, rfl, rfl, rfl, rfl, rfl, by omega⟩
    · rw [mcn, if_neg (by rw [eB, h6 0 (by omega) (by omega), V0]; omega), mcn_eq (B := tA p M0) (B' := tA p (pT M5 p t5)) m fun j j1 => (eB 0 j).trans (f5.i (by unfold rM rS rE fF; omega))]
      omega
  refine ca_I (by omega) (c_303 (by omega) k4 t4 (by omega) hl ⟨by omega, by omega⟩) (fun y M5 _ q => ?_) (fun _ _ _ q => q.mo (fun z => by
    rw [← hgo]
    rcases z with z | z
    · rw [if_pos z]
    · rw [if_neg (by omega), if_pos ⟨z.1, z.2.1⟩, if_neg (by omega)]) rM_F fM4)
  rcases q with ⟨rfl, rfl, e1, e2, e3⟩ | ⟨rfl, rfl, e1, e2⟩
  · refine ⟨⟨by omega, by omega⟩, fun z => by omega, fun _ => ?_⟩
    rw [if_neg (by omega), if_pos ⟨e1, e2⟩] at hgo
    have te5 := te_of z0 (by omega) (show ¬ s (t + 2) = 0 by omega)
    have f5 : fr (fun b j => b = p ∧ j = 35) M4 (pT M4 p (t + 2)) := fr_sI ⟨rfl, rfl⟩
    have fM5 : fr (rM p n m) M0 (pT M4 p (t + 2)) := rM_T fM4
    have t5 : me_i (pT M4 p (t + 2)) p 35 = ((t + 3 : Nat) : Int) := by
      show me_i (me_sI _ _ _ _) _ _ = _
      rw [me_i_sI, if_pos ⟨rfl, rfl⟩, me_to ⟨by omega, by omega⟩]
      omega
    refine ca_I (by omega) (c_304 (by omega) (pk_m P1 hp fM5) t5 (by omega) hl) (fun y M6 _ q => ?_) (fun _ _ _ q => q.mo (fun z => by rw [← hgo, if_neg fun w => z w.2]) rM_F fM5)
    obtain ⟨rfl, rfl, s3, l3⟩ := q
    have te6 := te_of z0 (by omega) (show ¬ s (t + 3) = 0 by omega)
    rw [if_pos ⟨e3, s3, l3⟩] at hgo
    have f6 : fr (fun b j => b = p ∧ j = 35) (pT M4 p (t + 2)) (pT (pT M4 p (t + 2)) p (t + 3)) := fr_sI ⟨rfl, rfl⟩
    have fM6 : fr (rM p n m) M0 (pT (pT M4 p (t + 2)) p (t + 3)) := rM_T fM5
    have t6 : me_i (pT (pT M4 p (t + 2)) p (t + 3)) p 35 = ((t + 4 : Nat) : Int) := by
      show me_i (me_sI _ _ _ _) _ _ = _
      rw [me_i_sI, if_pos ⟨rfl, rfl⟩, me_to ⟨by omega, by omega⟩]
      omega
    refine ⟨by omega, by omega, ?_⟩
    rw [Int.toNat_natCast]
    intro M7
    have f7 : fr (fun b j => b = p + 27 ∧ j = m) (pT (pT M4 p (t + 2)) p (t + 3)) M7 := fr_sI ⟨rfl, rfl⟩
    have fa : fr (fun b j => b = p ∧ j = 35 ∨ b = p + 27 ∧ j = m) M4 M7 := ((f5.mo fun b j z => Or.inl z).tr (f6.mo fun b j z => Or.inl z)).tr (f7.mo fun b j z => Or.inr z)
    have v2 : tA p M7 2 m = ((t + 3 : Nat) : Int) := by
      show me_i (me_sI _ _ _ _) _ _ = _
      rw [me_i_sI, if_pos ⟨rfl, rfl⟩, me_to ⟨by omega, by omega⟩]
    have eA : ∀ i j, i < 11 → nA p M7 i j = nA p M4 i j := fun i j _ => fa.i (by omega)
    have eB : ∀ i j, i < 10 → ¬ (i = 2 ∧ j = m) → tA p M7 i j = tA p M4 i j := fun i j _ _ => fa.i (by omega)
    refine tail M7 (t + 4) (fM4.tr (fa.mo fun b j z => by unfold rM rS rE; omega)) (by rw [f7.i (by omega), t6]) (by omega) (by omega) (by rw [fa.i (by omega), n4]) (by rw [fa.i (by omega), D4]) ?_ (fun i i1 i2 => eB i m i1 (by omega)) ?_ hgo
    · refine G4.re (by omega) (fun i j i1 _ => eA i j i1) (fun i j i1 _ j2 => eB i j i1 (by omega)) (fun _ => ⟨eB 0 m (by omega) (by omega), eB 3 m (by omega) (by omega), eB 9 m (by omega) (by omega), eB 5 m (by omega) (by omega)⟩) (fun _ => ⟨eB 1 m (by omega) (by omega), Or.inr ⟨V2, rfl, by rw [v2]; omega, by rw [v2]; omega⟩⟩) (fun x x1 x2 x3 => ⟨m, by omega, ?_⟩)
      · rw [v2]
        by_cases e : x = t + 2
        · rw [e] at x3
          omega
        · exact Or.inr (by omega)
    · rw [v2, Int.toNat_natCast]
      exact Or.inr ⟨by omega, by omega, s3⟩
  · refine ⟨⟨by omega, by omega⟩, fun _ => ?_, fun z => by omega⟩
    rw [if_neg e1, if_neg e2] at hgo
    exact tail _ (t + 2) fM4 t4 (by omega) (by omega) n4 D4 G4 (fun _ _ _ => rfl) (Or.inl V2) hgo
end CLS2
