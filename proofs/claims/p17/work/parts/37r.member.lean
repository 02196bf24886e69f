/-! the reference's parser: readMember -/
section MEM3
variable {N : Nat} {X : Nat → Int32} {p : Nat} {s c : Nat → Int} {Φ : Nat → Nat} {lim : Nat} {gd : Nat → Option Nat} {K e0 f0 : Nat} {u n m bg ty nm t pc d mb : Nat} {M0 M : me_M} {x4 x5 : Int}
theorem mb_53 {fl : Int} {v : Bool} (hp : 164 < p) (he : e0 ≤ 2405) (hef : e0 ≤ f0 + 601) (hl : lim < 2408) (z0 : s e0 = 0) (hΦ : ∀ x : Int, (f0 : Int) ≤ x → x < e0 → Φ x.toNat = f0) (HD : ∀ h, CD N X p s c lim gd e0 h) (hK : 80000 ≤ K) (P : pm p s c Φ lim e0 f0 u M0 bg n m) (hst : x4 = 0 ∨ x4 = 1) (hv : x5 = 1 ∧ v = true ∧ s ty = 3 ∧ c ty = 5 ∨ x5 = 0 ∧ v = false ∧ g_ty s c ty) (hfl : fl = 0 ∧ mb < 24 ∨ fl = 1 ∧ ¬ mb < 24) (hd : 470 ≤ d)
    (f : fr (rM p n m) M0 M) (q1 : me_i M p 35 = (t : Int)) (q3 : me_i M p 4 = (n : Int)) (q5 : me_i M p 16 = (m : Int)) (q6 : bg ≤ ty ∧ ty + 1 = t ∧ t ≤ e0) (qb : ∀ k, bg ≤ k → k < ty → ¬ s k = 1) :
    me_W (mt_G N X) 308 d 53 [some (.inr (.inl (some p, 29, 0))), some (.inl (u : Int)), none, some (.inl (bg : Int)), some (.inl x4), some (.inl x5), some (.inl (ty : Int)), none, none, none, none, none, none] [.inl fl, .inr (.inl (some p, 29, 0))] M (sx_qV (ME p s c Φ lim e0 f0 u M0 n m bg (g_nam s c lim gd K mb v t)) (px (g_nam s c lim gd K mb v t = none) (rM p n m) M0)) := by
  obtain ⟨P1, P2, P3, P4, P5, P6, P7, P8, P9⟩ := id P
  have kM := pk_m P1 hp f
  refine b308_53 (ca_I (by omega) (c_301 (by omega) kM q1 (by omega) hl (by rcases hfl with w | w <;> rw [w.1] <;> exact ⟨by omega, by omega⟩)) (fun y M1 _ q => ?_) (fun _ _ _ q => q.mo (fun z => by rw [g_nam, if_neg (by omega)]) rM_F f))
  obtain ⟨rfl, rfl, s1, fl0, l2⟩ := q
  have te := te_of z0 (by omega) (show ¬ s t = 0 by omega)
  have f1 : fr (fun b j => b = p ∧ j = 35) M (pT M p t) := fr_sI ⟨rfl, rfl⟩
  have t1 : me_i (pT M p t) p 35 = ((t + 1 : Nat) : Int) := by
    show me_i (me_sI _ _ _ _) _ _ = _
    rw [me_i_sI, if_pos ⟨rfl, rfl⟩, me_to ⟨by omega, by omega⟩]
    omega
  rw [g_nam, if_pos ⟨s1, by omega, l2⟩, show me_i (pT M p t) p 16 = (m : Int) by rw [f1.i (by omega), q5]]
  intro M5
  have f5 : fr (fun b j => b = p ∧ j = 38) (pT M p t) M5 := fr_sI ⟨rfl, rfl⟩
  have h5 : me_i M5 p 38 = (m : Int) := by
    show me_i (me_sI _ _ _ _) _ _ = _
    rw [me_i_sI, if_pos ⟨rfl, rfl⟩, me_to ⟨by omega, by omega⟩]
  intro M6
  have f6 : fr (fun b j => b = p ∧ j = 37) M5 M6 := fr_sI ⟨rfl, rfl⟩
  have fa : fr (fun b j => b = p ∧ (j = 35 ∨ j = 37 ∨ j = 38)) M M6 := ((f1.mo fun b j z => by omega).tr (f5.mo fun b j z => by omega)).tr (f6.mo fun b j z => by omega)
  have d6 : me_i M6 p 37 = ((0 : Nat) : Int) := by
    show me_i (me_sI _ _ _ _) _ _ = _
    rw [me_i_sI, if_pos ⟨rfl, rfl⟩, me_to ⟨by omega, by omega⟩]
    rfl
  have t6 : me_i M6 p 35 = ((t + 1 : Nat) : Int) := by rw [f6.i (by omega), f5.i (by omega), t1]
  have h6 : me_i M6 p 38 = (m : Int) := by rw [f6.i (by omega), h5]
  have n6 : me_i M6 p 4 = (n : Int) := by rw [fa.i (by omega), q3]
  have D6 : me_i M6 p 16 = (m : Int) := by rw [fa.i (by omega), q5]
  have fM : fr (rM p n m) M0 M6 := f.tr (fa.mo fun b j z => by unfold rM rS rE; omega)
  clear_value M6
  clear f6 f5 h5
  clear M5
  have k6 := pk_m P1 hp fM
  have meth : ∀ go, go = g_mth s c lim gd K (t + 1) → (g_ty s c ty ∨ s ty = 3 ∧ c ty = 5) → me_W (mt_G N X) 308 d 85 [some (.inr (.inl (some p, 29, 0))), some (.inl (u : Int)), none, some (.inl (bg : Int)), some (.inl x4), none, some (.inl (ty : Int)), some (.inl (t : Int)), none, none, none, none, none] [] M6 (sx_qV (ME p s c Φ lim e0 f0 u M0 n m bg go) (px (go = none) (rM p n m) M0)) := fun go hgo hty => by
    rw [hgo]
    exact mb_85 hp he hef hl z0 hΦ HD hK P hst hty (by omega) fM t6 d6 n6 h6 D6 (by omega) s1 qb
  refine ⟨by rcases hv with w | w <;> rw [w.1] <;> exact ⟨by omega, by omega⟩, fun z => ?_, fun z => ?_⟩
  · rcases hv with w | w
    · exact meth _ (by rw [w.2.1, if_pos rfl]) (Or.inr w.2.2)
    · omega
  obtain ⟨_, rfl, gty⟩ : x5 = 0 ∧ v = false ∧ g_ty s c ty := by
    rcases hv with w | w
    · omega
    · exact w
  rw [if_neg (by decide)]
  refine ca_I (by omega) (c_307 (by omega) k6 t6 (by omega) ⟨by omega, by omega⟩) (fun y M7 _ q => ?_) (fun _ _ _ q => q.mo (fun z => by rw [if_pos z]) rM_F fM)
  obtain ⟨rfl, a0, a1⟩ := q
  rw [if_neg a0]
  refine ⟨⟨by omega, by omega⟩, fun w => ?_, fun w => ?_⟩
  rotate_left
  · exact meth _ (by rw [if_pos (by omega)]) (Or.inl gty)
  rw [if_neg (by omega)]
  refine ca_I (by omega) (c_302 D6 (by omega) ⟨by omega, by omega⟩ ⟨by omega, by omega⟩ ⟨by omega, by omega⟩ ⟨by omega, by omega⟩ hst ⟨by omega, by omega⟩) (fun y M8 _ q => ?_) nt_E_no
  obtain ⟨rfl, f8, D8, vv⟩ := q
  have fM8 : fr (rM p n m) M0 M8 := fM.tr (f8.mo fun b j z => by unfold rM rS; omega)
  have k8 := pk_m P1 hp fM8
  have t8 : me_i M8 p 35 = ((t + 1 : Nat) : Int) := by rw [f8.i (by omega), t6]
  have n8 : me_i M8 p 4 = (n : Int) := by rw [f8.i (by omega), n6]
  have h8 : me_i M8 p 38 = (m : Int) := by rw [f8.i (by omega), h6]
  have d8 : me_i M8 p 37 = ((0 : Nat) : Int) := by rw [f8.i (by omega), d6]
  have V : tA p M8 0 m = 1 ∧ tA p M8 1 m = (t : Int) ∧ tA p M8 2 m = (ty : Int) ∧ tA p M8 3 m = (u : Int) ∧ tA p M8 4 m = x4 ∧ tA p M8 6 m = (bg : Int) ∧ tA p M8 8 m = -5 ∧ tA p M8 9 m = 0 := ⟨vv 0 (by omega), vv 1 (by omega), vv 2 (by omega), vv 3 (by omega), vv 4 (by omega), vv 6 (by omega), vv 8 (by omega), vv 9 (by omega)⟩
  have V5 : tA p M8 5 m = -1 := vv 5 (by omega)
  refine ca_I (by omega) (c_306 (by omega) k8 t8 (by omega) hl ⟨by omega, by omega⟩) (fun y M9 _ q => ?_) (fun _ _ _ q => q.mo (fun z => by
    rw [g_fld]
    rcases z with z | z
    · rw [if_pos z]
    · rw [if_neg (by omega), if_pos ⟨z.1, z.2.1⟩, if_neg (by omega)]) rM_F fM8)
  rcases q with ⟨rfl, rfl, e1, e2, e3⟩ | ⟨rfl, rfl, e1, e2⟩
  · refine ⟨⟨by omega, by omega⟩, fun z => by omega, fun _ => ?_⟩
    have te2 := te_of z0 (by omega) (show ¬ s (t + 1) = 0 by omega)
    have f9 : fr (fun b j => b = p ∧ j = 35) M8 (pT M8 p (t + 1)) := fr_sI ⟨rfl, rfl⟩
    have fM9 := rM_T (t := t + 1) fM8
    have t9 : me_i (pT M8 p (t + 1)) p 35 = ((t + 2 : Nat) : Int) := by
      show me_i (me_sI _ _ _ _) _ _ = _
      rw [me_i_sI, if_pos ⟨rfl, rfl⟩, me_to ⟨by omega, by omega⟩]
      omega
    have PB : pr p s c lim e0 ((m : Int), bg) (pT M8 p (t + 1)) (t + 2) n 0 (m + 1) := ⟨pk_m P1 hp fM9, t9, by omega, by rw [f9.i (by omega), d8], by omega, by rw [f9.i (by omega), n8], by omega, ⟨by rw [f9.i (by omega), h8], by show bg ≤ t + 2; omega⟩, by rw [f9.i (by omega), D8], by omega, by show (m : Int) < _; omega⟩
    have H0 := (exps hp he hl z0 (HD ((m : Int), bg)) K).1
    rw [g_fld, if_neg (by omega), if_pos ⟨e1, e2⟩, if_pos e3]
    refine ca_I (by omega) (c_314 (d := d - 1) H0 PB (by omega) (by omega)) (fun y M10 _ q => ?_) (fun _ _ _ q => q.mo (fun z => by rw [z]; rfl) (fun b j z => Or.inl (rS_E (Nat.le_refl _) b j z)) fM9)
    obtain ⟨t2, n2, g2, t12, n12, rfl, R, R6, o1, o2, o5, o6⟩ := q
    obtain ⟨g0, r1, r2, r3, r4, r5, r6, r7, r8, r9⟩ := id R
    rw [show g s c lim gd K 0 1 (t + 1 + 1) 0 = some t2 from g2, Option.bind_some]
    refine ⟨by omega, by omega, ?_⟩
    rw [Int.toNat_natCast]
    intro M11
    have f11 : fr (fun b j => b = p + 30 ∧ j = m) M10 M11 := fr_sI ⟨rfl, rfl⟩
    have A11 : ∀ i j, i < 11 → nA p M11 i j = nA p M10 i j := fun i j _ => f11.i (by omega)
    have B11 : ∀ i j, i < 10 → ¬ (i = 5 ∧ j = m) → tA p M11 i j = tA p M8 i j := fun i j _ _ => (f11.i (by omega)).trans ((g0.i (by unfold rE fF; omega)).trans (f9.i (by omega)))
    have v5 : tA p M11 5 m = (n2 : Int) - 1 := by
      show me_i (me_sI _ _ _ _) _ _ = _
      rw [me_i_sI, if_pos ⟨rfl, rfl⟩, me_to ⟨by omega, by omega⟩]
    refine mb_285 (n1 := n2) (nm := t) hp he hef hl z0 hΦ P hst gty (by omega) rfl ((fM9.tr (g0.mo fun b j z => Or.inl (rS_E (Nat.le_refl _) b j z))).tr (f11.mo fun b j z => by unfold rM rS; omega)) (by rw [f11.i (by omega), r1]) (by rw [f11.i (by omega), r3]) ?_ (by omega) s1 ?_ (Or.inr ⟨n12, v5, R6.eq fun i j i1 _ => A11 i j i1, by rw [A11 0 _ (by omega)]; exact o1, by rw [A11 0 _ (by omega)]; exact o2⟩) (r7.eq (fun i j i1 _ _ => A11 i j i1) fun j j1 => f11.i (by omega)) (fun k k1 k2 k3 => ?_) (((r9.mo (Nat.le_refl _) fun _ _ _ z => z.elim).eq fun x _ _ => A11 4 x (by omega)).lo (by omega)) (by omega)
    · rw [f11.i (by omega), g0.i (by unfold rE fF; omega), f9.i (by omega), D8]
    · rw [B11 0 m (by omega) (by omega), B11 1 m (by omega) (by omega), B11 2 m (by omega) (by omega), B11 3 m (by omega) (by omega), B11 4 m (by omega) (by omega), B11 6 m (by omega) (by omega), B11 8 m (by omega) (by omega), B11 9 m (by omega) (by omega)]
      exact V
    · by_cases e4 : k < t + 2
      · by_cases e5 : k < ty
        · exact absurd k3 (qb k k1 e5)
        · by_cases e6 : k = t + 1
          · rw [e6] at k3
            omega
          · exact Or.inr (by omega)
      · rcases r8 k (by omega) k2 k3 with z | ⟨x, x1, x2, x3⟩
        · exact z.elim
        · exact Or.inl ⟨x, x1, x2, by rw [A11 4 x (by omega)]; exact x3⟩
  · refine ⟨⟨by omega, by omega⟩, fun _ => ?_, fun z => by omega⟩
    refine mb_285 (n1 := n) (nm := t) hp he hef hl z0 hΦ P hst gty (by omega) (by rw [g_fld, if_neg e1, if_neg e2]) fM8 t8 n8 D8 (by omega) s1 V (Or.inl ⟨rfl, V5⟩) FR.nil (fun k k1 k2 k3 => ?_) NI.nil (by omega)
    by_cases e5 : k < ty
    · exact absurd k3 (qb k k1 e5)
    · exact Or.inr (by omega)
theorem mb_35 {v : Bool} {ms : Int} (hp : 164 < p) (he : e0 ≤ 2405) (hef : e0 ≤ f0 + 601) (hl : lim < 2408) (z0 : s e0 = 0) (hΦ : ∀ x : Int, (f0 : Int) ≤ x → x < e0 → Φ x.toNat = f0) (HD : ∀ h, CD N X p s c lim gd e0 h) (hK : 80000 ≤ K) (P : pm p s c Φ lim e0 f0 u M0 bg n m) (hst : x4 = 0 ∨ x4 = 1) (hv : x5 = 1 ∧ v = true ∧ s t = 3 ∧ c t = 5 ∨ x5 = 0 ∧ v = false ∧ g_ty s c t) (hms : ms = (mb : Int)) (hmr : mb < 2000000000) (hd : 470 ≤ d)
    (f : fr (rM p n m) M0 M) (q1 : me_i M p 35 = (t : Int)) (q3 : me_i M p 4 = (n : Int)) (q5 : me_i M p 16 = (m : Int)) (q6 : bg ≤ t ∧ t ≤ e0) (qb : ∀ k, bg ≤ k → k < t → ¬ s k = 1) :
    ∀ go, go = (if t < lim then g_nam s c lim gd K mb v (t + 1) else none) → me_W (mt_G N X) 308 d 35 [some (.inr (.inl (some p, 29, 0))), some (.inl (u : Int)), some (.inl ms), some (.inl (bg : Int)), some (.inl x4), some (.inl x5), none, none, none, none, none, none, none] [] M (sx_qV (ME p s c Φ lim e0 f0 u M0 n m bg go) (px (go = none) (rM p n m) M0)) := by
  intro go hgo
  obtain ⟨P1, P2, P3, P4, P5, P6, P7, P8, P9⟩ := id P
  have kM := pk_m P1 hp f
  subst hms
  have st0 : ¬ s t = 0 := by
    rcases hv with w | ⟨_, _, w⟩
    · omega
    · unfold g_ty at w
      omega
  have te := te_of z0 q6.2 st0
  refine b308_35 (ca_I (by omega) (c_299 (by omega) kM q1 (by omega) hl) (fun y M2 _ q => ?_) (fun _ _ _ q => q.mo (fun z => by rw [hgo, if_neg (by omega)]) rM_F f))
  obtain ⟨rfl, rfl, l1⟩ := q
  rw [if_pos l1] at hgo
  have f1 : fr (fun b j => b = p ∧ j = 35) M (pT M p t) := fr_sI ⟨rfl, rfl⟩
  have t1 : me_i (pT M p t) p 35 = ((t + 1 : Nat) : Int) := by
    show me_i (me_sI _ _ _ _) _ _ = _
    rw [me_i_sI, if_pos ⟨rfl, rfl⟩, me_to ⟨by omega, by omega⟩]
    omega
  rw [hgo]
  have X := fun (fl : Int) hfl => mb_53 (fl := fl) (v := v) (mb := mb) hp he hef hl z0 hΦ HD hK P hst hv hfl hd (rM_T f) t1 (by rw [f1.i (by omega), q3]) (by rw [f1.i (by omega), q5]) (by omega) qb
  exact ⟨⟨by omega, by omega⟩, ⟨by omega, by omega⟩, fun w => X 0 (by omega), fun w => X 1 (by omega)⟩
/-- readMember -/
theorem c_308 (hp : 164 < p) (he : e0 ≤ 2405) (hef : e0 ≤ f0 + 601) (hl : lim < 2408) (z0 : s e0 = 0) (hΦ : ∀ x : Int, (f0 : Int) ≤ x → x < e0 → Φ x.toNat = f0) (HD : ∀ h, CD N X p s c lim gd e0 h) (hK : 80000 ≤ K) (P : pm p s c Φ lim e0 f0 u M0 t n m) (hmr : mb < 2000000000) (hd : 470 ≤ d) :
    me_W (mt_G N X) 308 d 0 [some (.inr (.inl (some p, 29, 0))), some (.inl (u : Int)), some (.inl (mb : Int)), none, none, none, none, none, none, none, none, none, none] [] M0 (sx_qV (ME p s c Φ lim e0 f0 u M0 n m t (g_mem s c lim gd K mb t)) (px (g_mem s c lim gd K mb t = none) (rM p n m) M0)) := by
  obtain ⟨P1, P2, P3, P4, P5, P6, P7, P8, P9⟩ := id P
  have tail : ∀ (M : me_M) (t1 : Nat) (x4 : Int) (go : Option Nat), fr (rM p n m) M0 M → me_i M p 35 = (t1 : Int) → me_i M p 4 = (n : Int) → me_i M p 16 = (m : Int) → t ≤ t1 → t1 ≤ e0 → (∀ k, t ≤ k → k < t1 → ¬ s k = 1) → (x4 = 0 ∨ x4 = 1) → go = g_typ s c lim gd K mb t1 →
      ∃ d', d = d' + 1 ∧ me_W (mt_G N X) 296 d' 0 [some (.inr (.inl (some p, 29, 0))), some (.inl 5)] [] M (sx_qI (fun y8 M5 => me_r y8 ∧ (¬ y8 = 0 → me_W (mt_G N X) 308 d 35 [some (.inr (.inl (some p, 29, 0))), some (.inl (u : Int)), some (.inl (mb : Int)), some (.inl (t : Int)), some (.inl x4), some (.inl y8), none, none, none, none, none, none, none] [] M5 (sx_qV (ME p s c Φ lim e0 f0 u M0 n m t go) (px (go = none) (rM p n m) M0))) ∧ (y8 = 0 → ∃ d', d = d' + 1 ∧ me_W (mt_G N X) 309 d' 0 [some (.inr (.inl (some p, 29, 0)))] [] M5 (sx_qI (fun y12 M9 => me_r y12 ∧ (¬ y12 = 0 → me_W (mt_G N X) 308 d 35 [some (.inr (.inl (some p, 29, 0))), some (.inl (u : Int)), some (.inl (mb : Int)), some (.inl (t : Int)), some (.inl x4), some (.inl y8), none, none, none, none, none, none, none] [] M9 (sx_qV (ME p s c Φ lim e0 f0 u M0 n m t go) (px (go = none) (rM p n m) M0))) ∧ (y12 = 0 → ∃ d', d = d' + 1 ∧ me_W (mt_G N X) 297 d' 0 [some (.inr (.inl (some p, 29, 0)))] [] M9 (sx_qV (fun M13 => me_W (mt_G N X) 308 d 35 [some (.inr (.inl (some p, 29, 0))), some (.inl (u : Int)), some (.inl (mb : Int)), some (.inl (t : Int)), some (.inl x4), some (.inl y8), none, none, none, none, none, none, none] [] M13 (sx_qV (ME p s c Φ lim e0 f0 u M0 n m t go) (px (go = none) (rM p n m) M0))) (fun e15 M14 => (sx_qV (ME p s c Φ lim e0 f0 u M0 n m t go) (px (go = none) (rM p n m) M0)) (.inl e15) M14)))) (fun e11 M10 => (sx_qV (ME p s c Φ lim e0 f0 u M0 n m t go) (px (go = none) (rM p n m) M0)) (.inl e11) M10)))) (fun e7 M6 => (sx_qV (ME p s c Φ lim e0 f0 u M0 n m t go) (px (go = none) (rM p n m) M0)) (.inl e7) M6)) := by
    intro M t1 x4 go f q1 q3 q5 l1 l2 qb hst hgo
    have kM := pk_m P1 hp f
    rw [g_typ] at hgo
    refine ca_I (by omega) (c_296 (by omega) kM q1 (by omega) ⟨by omega, by omega⟩) (fun y M2 _ q => ?_) (fun _ _ _ q => q.mo (fun z => by rw [hgo, if_pos z]) rM_F f)
    obtain ⟨rfl, a0, a1⟩ := q
    rw [if_neg a0] at hgo
    refine ⟨⟨by omega, by omega⟩, fun w => ?_, fun w => ?_⟩
    · rw [if_pos (by omega)] at hgo
      exact mb_35 (v := true) hp he hef hl z0 hΦ HD hK P hst (Or.inl ⟨by omega, rfl, by omega, by omega⟩) rfl hmr hd f q1 q3 q5 ⟨l1, l2⟩ qb go hgo
    rw [if_neg (by omega)] at hgo
    refine ca_I (by omega) (c_309 (by omega) kM q1 (by omega)) (fun y2 M3 _ q => ?_) (fun _ _ _ q => absurd q.2.1 a0)
    obtain ⟨rfl, _, b1⟩ := q
    refine ⟨⟨by omega, by omega⟩, fun w2 => ?_, fun w2 => ?_⟩
    · have gt : g_ty s c t1 := by
        rcases b1 with v | v
        · exact v.2
        · omega
      refine mb_35 (v := false) hp he hef hl z0 hΦ HD hK P hst (Or.inr ⟨w, rfl, gt⟩) rfl hmr hd f q1 q3 q5 ⟨l1, l2⟩ qb go ?_
      rw [hgo]
      by_cases e : t1 < lim
      · rw [if_pos ⟨gt, e⟩, if_pos e]
      · rw [if_neg fun z => e z.2, if_neg e]
    · have gt : ¬ g_ty s c t1 := by
        rcases b1 with v | v
        · omega
        · exact v.2
      exact ca_V (by omega) (c_297 (by omega) kM q1 (by omega)) (fun _ _ w => w.elim) (fun _ _ _ q => q.mo (fun _ => by rw [hgo, if_neg fun z => gt z.1]) rM_F f)
  rw [g_mem]
  refine b308_0 (ca_I (by omega) (c_303 (by omega) P1 P2 (by omega) hl ⟨by omega, by omega⟩) (fun y M2 _ q => ?_) (fun _ _ _ q => q.mo (fun z => by
    rcases z with z | z
    · rw [if_pos z]
    · rw [if_neg (by omega), if_pos ⟨z.1, z.2.1⟩, if_neg (by omega)]) rM_F fr.rf))
  rw [P2]
  rcases q with ⟨rfl, rfl, e1, e2, e3⟩ | ⟨rfl, rfl, e1, e2⟩
  · have te := te_of z0 P3.2 (by omega)
    have f1 : fr (fun b j => b = p ∧ j = 35) M0 (pT M0 p t) := fr_sI ⟨rfl, rfl⟩
    have t1 : me_i (pT M0 p t) p 35 = ((t + 1 : Nat) : Int) := by
      show me_i (me_sI _ _ _ _) _ _ = _
      rw [me_i_sI, if_pos ⟨rfl, rfl⟩, me_to ⟨by omega, by omega⟩]
      omega
    rw [if_neg (by omega), if_pos ⟨e1, e2⟩, if_pos e3]
    exact tail _ (t + 1) 1 _ (rM_T fr.rf) t1 (by rw [f1.i (by omega), P4]) (by rw [f1.i (by omega), P6]) (by omega) (by omega) (fun k k1 k2 k3 => by rw [show k = t by omega] at k3; omega) (Or.inr rfl) rfl
  · rw [if_neg e1, if_neg e2]
    exact tail _ t 0 _ fr.rf P2 P4 P6 (by omega) (by omega) (fun k k1 k2 => by omega) (Or.inl rfl) rfl
end MEM3
