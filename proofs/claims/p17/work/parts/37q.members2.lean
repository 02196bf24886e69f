/-! the reference's parser: members, their contracts, further -/
section MEM2
variable {N : Nat} {X : Nat → Int32} {p : Nat} {s c : Nat → Int} {Φ : Nat → Nat} {lim : Nat} {gd : Nat → Option Nat} {K e0 f0 : Nat} {u n m bg ty nm t pc d : Nat} {so st : Int} {M0 M : me_M}
theorem rM_T {p t n m : Nat} {M0 M : me_M} (f : fr (rM p n m) M0 M) : fr (rM p n m) M0 (pT M p t) := f.tr (fr_sI (Or.inl (Or.inl (Or.inr (Or.inl ⟨rfl, Or.inr (Or.inl rfl)⟩)))))
theorem mb_115 (hp : 164 < p) (he : e0 ≤ 2405) (hef : e0 ≤ f0 + 601) (hl : lim < 2408) (z0 : s e0 = 0) (hΦ : ∀ x : Int, (f0 : Int) ≤ x → x < e0 → Φ x.toNat = f0) (HD : ∀ h, CD N X p s c lim gd e0 h) (hK : 80000 ≤ K) (P : pm p s c Φ lim e0 f0 u M0 bg n m) (hst : st = 0 ∨ st = 1) (hty : g_ty s c ty ∨ s ty = 3 ∧ c ty = 5) (hd : 460 ≤ d) : ∀ (k : Nat) (M : me_M) (t pc : Nat), MM p s c e0 2 u m n bg ty nm st M0 M t pc → e0 - t < k → ∀ go, go = (g_par s c lim k pc t).bind (fun t2 => g_blk s c lim gd K t2) →
    me_W (mt_G N X) 308 d 115 [some (.inr (.inl (some p, 29, 0))), none, none, none, none, none, none, none, some (.inl (m : Int)), none, none, none, none] [] M (sx_qV (ME p s c Φ lim e0 f0 u M0 n m bg go) (px (go = none) (rM p n m) M0)) := by
  intro k
  induction k with
  | zero => intro M t pc Q h; omega
  | succ k ih =>
    intro M t pc Q hk go hgo
    have P1 := P.1
    have kM := MM.pk Q hp P1
    obtain ⟨f, q1, q2, q3, q4, q5, q6, q7, q8, q9, q10⟩ := id Q
    rw [g_par] at hgo
    refine b308_115 (ca_I (by omega) (c_309 (by omega) kM q1 (by omega)) (fun y M1 _ q => ?_) (fun _ _ _ q => q.mo (fun z => by rw [hgo, if_neg (by unfold g_ty; omega)]; rfl) rM_F f))
    obtain ⟨rfl, a0, a1⟩ := q
    refine ⟨⟨by omega, by omega⟩, fun z => ?_, fun z => ?_⟩
    rotate_left
    · exact ca_V (by omega) (c_297 (by omega) kM q1 (by omega)) (fun _ _ w => w.elim) (fun _ _ _ q => q.mo (fun _ => by
        have : ¬ g_ty s c t := by
          rcases a1 with v | v
          · omega
          · exact v.2
        rw [hgo, if_neg fun w => this w.1]
        rfl) rM_F f)
    have gt : g_ty s c t := by
      rcases a1 with v | v
      · exact v.2
      · omega
    have gt0 := gt
    unfold g_ty at gt0
    refine b308_126 (ca_I (by omega) (c_299 (by omega) kM q1 (by omega) hl) (fun y M2 _ q => ?_) (fun _ _ _ q => q.mo (fun z => by rw [hgo, if_neg (by omega)]; rfl) rM_F f))
    obtain ⟨rfl, rfl, l1⟩ := q
    have te := te_of z0 q6.2.2.2.2.1 (by omega)
    have f1 : fr (fun b j => b = p ∧ j = 35) M1 (pT M1 p t) := fr_sI ⟨rfl, rfl⟩
    have t1 : me_i (pT M1 p t) p 35 = ((t + 1 : Nat) : Int) := by
      show me_i (me_sI _ _ _ _) _ _ = _
      rw [me_i_sI, if_pos ⟨rfl, rfl⟩, me_to ⟨by omega, by omega⟩]
      omega
    have fT : fr (rM p n m) M0 (pT M1 p t) := rM_T f
    have k1 := pk_m P1 hp fT
    rw [Int.toNat_natCast, show me_i (pT M1 p t) (p + 34) m = (pc : Int) by rw [f1.i (by omega)]; exact q8.2.2.2.2.2.2.2.2, q1]
    have tail : ∀ fl : Int, (fl = 0 ∧ ¬ pc = 8 ∨ fl = 1 ∧ pc = 8) → me_W (mt_G N X) 308 d 156 [some (.inr (.inl (some p, 29, 0))), none, none, none, none, none, none, none, some (.inl (m : Int)), some (.inl (t : Int)), some (.inl (t : Int)), none, none] [.inl fl, .inr (.inl (some p, 29, 0))] (pT M1 p t) (sx_qV (ME p s c Φ lim e0 f0 u M0 n m bg go) (px (go = none) (rM p n m) M0)) := by
      intro fl hfl
      refine b308_156 (ca_I (by omega) (c_301 (by omega) k1 t1 (by omega) hl (by rcases hfl with v | v <;> rw [v.1] <;> exact ⟨by omega, by omega⟩)) (fun y M3 _ q => ?_) (fun _ _ _ q => q.mo (fun z => by rw [hgo, if_neg (by omega)]; rfl) rM_F fT))
      obtain ⟨rfl, rfl, s1, fl0, l2⟩ := q
      have npc : ¬ pc = 8 := by omega
      have te2 := te_of z0 (by omega) (show ¬ s (t + 1) = 0 by omega)
      rw [if_pos ⟨gt, l1, s1, npc, l2⟩] at hgo
      have f2 : fr (fun b j => b = p ∧ j = 35) (pT M1 p t) (pT (pT M1 p t) p (t + 1)) := fr_sI ⟨rfl, rfl⟩
      have D2 : me_i (pT (pT M1 p t) p (t + 1)) p 16 = ((m + 1 + pc : Nat) : Int) := by rw [f2.i (by omega), f1.i (by omega), q5]
      refine ca_I (by omega) (c_302 D2 (by omega) ⟨by omega, by omega⟩ ⟨by omega, by omega⟩ ⟨by omega, by omega⟩ ⟨by omega, by omega⟩ (Or.inl rfl) ⟨by omega, by omega⟩) (fun y M4 _ q => ?_) nt_E_no
      obtain ⟨rfl, f3, D3, v⟩ := q
      refine ⟨by omega, by omega, ?_⟩
      rw [Int.toNat_natCast]
      intro M9
      have f9 : fr (fun b j => b = p + 32 ∧ j = m + 1 + pc) M4 M9 := fr_sI ⟨rfl, rfl⟩
      rw [Int.toNat_natCast, show me_i M9 (p + 34) m = (pc : Int) by rw [f9.i (by omega), f3.i (by omega), f2.i (by omega), f1.i (by omega)]; exact q8.2.2.2.2.2.2.2.2]
      refine ⟨by omega, by omega, by omega, by omega, ?_⟩
      intro M10
      have QQ := Q.param hp he P1 gt s1 npc te2 f3 D3 v (M4 := M9) (M5 := M10) rfl rfl
      have kQ := MM.pk QQ hp P1
      refine ca_I (by omega) (c_306 (by omega) kQ QQ.2.1 (by omega) hl ⟨by omega, by omega⟩) (fun y M6 _ q => ?_) (fun _ _ _ q => q.mo (fun z => by
        rw [hgo]
        rcases z with z | z
        · rw [if_pos z]
          rfl
        · rw [if_neg (by omega), if_pos ⟨z.1, z.2.1⟩, if_neg (by omega)]
          rfl) rM_F QQ.1)
      rcases q with ⟨rfl, rfl, d1, d2, d3⟩ | ⟨rfl, rfl, d1, d2⟩
      · refine ⟨⟨by omega, by omega⟩, fun _ => ?_, fun w => by omega⟩
        have te3 := te_of z0 (by have := QQ.2.2.2.2.2.2.1; omega) (show ¬ s (t + 2) = 0 by omega)
        exact ih _ (t + 3) (pc + 1) (QQ.pass hp (by omega) te3 (by omega)) (by omega) go (by rw [hgo, if_neg (by omega), if_pos ⟨d1, d2⟩, if_pos d3])
      · refine ⟨⟨by omega, by omega⟩, fun w => by omega, fun _ => ?_⟩
        rw [if_neg d1, if_neg d2] at hgo
        refine ca_V (by omega) (c_305 (by omega) kQ QQ.2.1 (by omega) hl ⟨by omega, by omega⟩) (fun M7 _ q => ?_) (fun _ _ _ q => q.mo (fun z => by rw [hgo, g_need, if_neg z]; rfl) rM_F QQ.1)
        obtain ⟨rfl, d3, d4, d5⟩ := q
        have te3 := te_of z0 (by have := QQ.2.2.2.2.2.2.1; omega) (show ¬ s (t + 2) = 0 by omega)
        rw [g_need, if_pos ⟨d3, d4, d5⟩, Option.bind_some] at hgo
        rw [hgo]
        exact mb_212 hp he hef hl z0 hΦ HD hK P (QQ.pass hp (by omega) te3 (by omega)) hst hty hd (by omega)
    exact ⟨by omega, by omega, ⟨by omega, by omega⟩, ⟨by omega, by omega⟩, fun w => tail 0 (by omega), fun w => tail 1 (by omega)⟩
/-- from the telling of a method on -/
theorem mb_85 {x4 : Int} (hp : 164 < p) (he : e0 ≤ 2405) (hef : e0 ≤ f0 + 601) (hl : lim < 2408) (z0 : s e0 = 0) (hΦ : ∀ x : Int, (f0 : Int) ≤ x → x < e0 → Φ x.toNat = f0) (HD : ∀ h, CD N X p s c lim gd e0 h) (hK : 80000 ≤ K) (P : pm p s c Φ lim e0 f0 u M0 bg n m) (hst : x4 = 0 ∨ x4 = 1) (hty : g_ty s c ty ∨ s ty = 3 ∧ c ty = 5) (hd : 460 ≤ d)
    (f : fr (rM p n m) M0 M) (q1 : me_i M p 35 = (t : Int)) (q2 : me_i M p 37 = ((0 : Nat) : Int)) (q3 : me_i M p 4 = (n : Int)) (q4 : me_i M p 38 = (m : Int)) (q5 : me_i M p 16 = (m : Int)) (q6 : bg ≤ ty ∧ ty + 1 = nm ∧ nm + 1 = t ∧ t ≤ e0) (q7 : s nm = 1) (qb : ∀ k, bg ≤ k → k < ty → ¬ s k = 1) :
    me_W (mt_G N X) 308 d 85 [some (.inr (.inl (some p, 29, 0))), some (.inl (u : Int)), none, some (.inl (bg : Int)), some (.inl x4), none, some (.inl (ty : Int)), some (.inl (nm : Int)), none, none, none, none, none] [] M (sx_qV (ME p s c Φ lim e0 f0 u M0 n m bg (g_mth s c lim gd K t)) (px (g_mth s c lim gd K t = none) (rM p n m) M0)) := by
  obtain ⟨P1, P2, P3, P4, P5, P6, P7, P8, P9⟩ := id P
  refine b308_85 (ca_I (by omega) (c_302 q5 (by omega) ⟨by omega, by omega⟩ ⟨by omega, by omega⟩ ⟨by omega, by omega⟩ ⟨by omega, by omega⟩ hst ⟨by omega, by omega⟩) (fun y M1 _ q => ?_) nt_E_no)
  obtain ⟨rfl, f1, D1, v⟩ := q
  have Q : MM p s c e0 2 u m n bg ty nm x4 M0 M1 t 0 := ⟨f.tr (f1.mo fun b j z => by unfold rM rS; omega), by rw [f1.i (by omega), q1], by rw [f1.i (by omega), q2], by rw [f1.i (by omega), q3], by rw [f1.i (by omega), q4], D1, by omega, q7, ⟨v 0 (by omega), v 1 (by omega), v 2 (by omega), v 3 (by omega), v 4 (by omega), v 5 (by omega), v 6 (by omega), v 8 (by omega), v 9 (by omega)⟩, ⟨fun e e1 e2 => by omega, fun e e' e1 e2 e3 => by omega⟩, fun k k1 k2 k3 => ⟨m, Nat.le_refl _, by omega, by
    rw [show tA p M1 1 m = (nm : Int) from v 1 (by omega), show tA p M1 2 m = (ty : Int) from v 2 (by omega)]
    by_cases e : k < ty
    · exact absurd k3 (qb k k1 e)
    · omega⟩⟩
  have kQ := MM.pk Q hp P1
  refine ca_V (by omega) (c_305 (by omega) kQ Q.2.1 (by omega) hl ⟨by omega, by omega⟩) (fun M7 _ q => ?_) (fun _ _ _ q => q.mo (fun z => by rw [g_mth, g_need, if_neg z]; rfl) rM_F Q.1)
  obtain ⟨rfl, d3, d4, d5⟩ := q
  have te3 := te_of z0 (by omega) (show ¬ s t = 0 by omega)
  have Q2 := Q.pass hp (by omega) te3 (by omega)
  have kQ2 := MM.pk Q2 hp P1
  rw [g_mth, show g_need s c lim 40 t = some (t + 1) by rw [g_need, if_pos ⟨d3, d4, d5⟩], Option.bind_some]
  refine ca_I (by omega) (c_306 (by omega) kQ2 Q2.2.1 (by omega) hl ⟨by omega, by omega⟩) (fun y M6 _ q => ?_) (fun _ _ _ q => q.mo (fun z => by
    rcases z with z | z
    · rw [if_pos z]
    · rw [if_neg (by omega), if_pos ⟨z.1, z.2.1⟩, if_neg (by omega)]) rM_F Q2.1)
  rcases q with ⟨rfl, rfl, e1, e2, e3⟩ | ⟨rfl, rfl, e1, e2⟩
  · refine ⟨⟨by omega, by omega⟩, fun _ => ?_, fun w => by omega⟩
    have te4 := te_of z0 (by omega) (show ¬ s (t + 1) = 0 by omega)
    rw [if_neg (by omega), if_pos ⟨e1, e2⟩, if_pos e3]
    exact mb_212 hp he hef hl z0 hΦ HD hK P (Q2.pass hp (by omega) te4 (by omega)) hst hty hd (by omega)
  · refine ⟨⟨by omega, by omega⟩, fun w => by omega, fun _ => ?_⟩
    rw [if_neg e1, if_neg e2]
    exact mb_115 hp he hef hl z0 hΦ HD hK P hst hty hd K _ (t + 1) 0 Q2 (by omega) _ rfl
/-- ; ends a field -/
theorem mb_285 {n1 : Nat} {go : Option Nat} (hp : 164 < p) (he : e0 ≤ 2405) (hef : e0 ≤ f0 + 601) (hl : lim < 2408) (z0 : s e0 = 0) (hΦ : ∀ x : Int, (f0 : Int) ≤ x → x < e0 → Φ x.toNat = f0) (P : pm p s c Φ lim e0 f0 u M0 bg n m) (hst : st = 0 ∨ st = 1) (hty : g_ty s c ty) (hd : 460 ≤ d) (hgo : go = g_need s c lim 59 t)
    (f : fr (rM p n m) M0 M) (q1 : me_i M p 35 = (t : Int)) (q3 : me_i M p 4 = (n1 : Int)) (q5 : me_i M p 16 = ((m + 1 : Nat) : Int)) (q6 : bg ≤ ty ∧ ty < nm ∧ nm < t ∧ t ≤ e0 ∧ m + 1 ≤ t ∧ n1 ≤ t) (q7 : s nm = 1)
    (q8 : tA p M 0 m = 1 ∧ tA p M 1 m = (nm : Int) ∧ tA p M 2 m = (ty : Int) ∧ tA p M 3 m = (u : Int) ∧ tA p M 4 m = st ∧ tA p M 6 m = (bg : Int) ∧ tA p M 8 m = -5 ∧ tA p M 9 m = 0)
    (qb : n1 = n ∧ tA p M 5 m = -1 ∨ n < n1 ∧ tA p M 5 m = (n1 : Int) - 1 ∧ RL (nA p M) n n1 [n1 - 1] ∧ 1 ≤ nA p M 0 (n1 - 1) ∧ nA p M 0 (n1 - 1) ≤ 16) (F : FR (nA p M) (tA p M 0) s n n1 (m + 1) t ((m : Int), bg))
    (qc : ∀ k, bg ≤ k → k < t → s k = 1 → (∃ x, n ≤ x ∧ x < n1 ∧ nA p M 4 x = k) ∨ (k = ty ∨ k = nm)) (qn : NI (nA p M) n n1 (nm + 1) t (fun _ => False)) (qw : n1 + nm ≤ n + t) :
    me_W (mt_G N X) 308 d 285 [some (.inr (.inl (some p, 29, 0))), none, none, none, none, none, none, none, some (.inl (m : Int)), none, none, none, none] [] M (sx_qV (ME p s c Φ lim e0 f0 u M0 n m bg go) (px (go = none) (rM p n m) M0)) := by
  obtain ⟨P1, P2, P3, P4, P5, P6, P7, P8, P9⟩ := id P
  have kM := pk_m P1 hp f
  obtain ⟨b0, b1, b2, b3, b4, b6, b8, b9⟩ := q8
  refine b308_285 (ca_V (by omega) (c_305 (by omega) kM q1 (by omega) hl ⟨by omega, by omega⟩) (fun M7 _ q => ?_) (fun _ _ _ q => q.mo (fun z => by rw [hgo, g_need, if_neg z]) rM_F f))
  obtain ⟨rfl, d3, d4, d5⟩ := q
  have te3 := te_of z0 (by omega) (show ¬ s t = 0 by omega)
  rw [g_need, if_pos ⟨d3, d4, d5⟩] at hgo
  have f1 : fr (fun b j => b = p ∧ j = 35) M (pT M p t) := fr_sI ⟨rfl, rfl⟩
  have t1 : me_i (pT M p t) p 35 = ((t + 1 : Nat) : Int) := by
    show me_i (me_sI _ _ _ _) _ _ = _
    rw [me_i_sI, if_pos ⟨rfl, rfl⟩, me_to ⟨by omega, by omega⟩]
    omega
  refine ⟨by omega, by omega, ?_⟩
  rw [Int.toNat_natCast, t1]
  intro M6
  have f6 : fr (fun b j => b = p + 32 ∧ j = m) (pT M p t) M6 := fr_sI ⟨rfl, rfl⟩
  have fa : fr (fun b j => b = p ∧ j = 35 ∨ b = p + 32 ∧ j = m) M M6 := (f1.mo fun b j z => Or.inl z).tr (f6.mo fun b j z => Or.inr z)
  have A6 : ∀ i j, i < 11 → nA p M6 i j = nA p M i j := fun i j _ => fa.i (by omega)
  have B6 : ∀ i j, i < 10 → ¬ (i = 7 ∧ j = m) → tA p M6 i j = tA p M i j := fun i j _ _ => fa.i (by omega)
  have v7 : tA p M6 7 m = (t : Int) := by
    show me_i (me_sI _ _ _ _) _ _ = _
    rw [me_i_sI, if_pos ⟨rfl, rfl⟩, me_to ⟨by omega, by omega⟩]
    omega
  have fM : fr (rM p n m) M0 M6 := f.tr (fa.mo fun b j z => by unfold rM rS rE; omega)
  have sm0 : tA p M6 0 m = 1 := (B6 0 m (by omega) (by omega)).trans b0
  have hmc : mcn (tA p M6) (m + 1) ≤ mcn (tA p M0) m + 1 := by
    rw [← mcn_eq (B := tA p M0) (B' := tA p M6) m fun j j1 => fM.i (by unfold rM rS rE fF; omega)]
    exact mcn_one (by omega) fun j j1 j2 => by omega
  refine ⟨t + 1, n1, m + 1, hgo, by omega, by omega, by omega, hmc, fM, pk_m P1 hp fM, by rw [f6.i (by omega), t1], by omega, by rw [fa.i (by omega), q3], by omega, by rw [fa.i (by omega), q5], by omega, by omega, ?_⟩
  refine P9.add (m := m) P8 (by omega) (by omega) (by omega) (fun i j _ j1 => fM.i (by unfold rM rS rE fF; omega)) (fun i j _ j1 => fM.i (by unfold rM rS rE fF; omega)) ?_ ((B6 6 m (by omega) (by omega)).trans b6) (by rw [v7]; omega) (fun e d1 d2 => by omega) (by rw [B6 5 m (by omega) (by omega)]; omega) (Or.inl sm0) (fun k k1 k2 k3 => ?_) (fun e d1 d2 => ?_) (fun e d1 d2 => ?_) (fun k k1 k2 k3 => ?_) ((((qn.mo (w' := tc (tA p M6) m (m + 1)) (Nat.le_succ _) (fun k k1 k2 z => ?_)).eq fun x _ _ => A6 4 x (by omega))).lo (by omega)) (fun e d1 d2 => ?_) (fun e e' d1 d2 d3 => by omega)
  · intro k k1 k2
    obtain ⟨c1, c2, c3, c4⟩ := (F.eq (A' := nA p M6) (b' := tA p M6 0) (fun i j i1 _ _ => A6 i j i1) (fun j j1 => B6 0 j (by omega) (by omega))) k k1 k2
    exact ⟨c1, ⟨by have := c2.1; omega, c2.2⟩, ⟨c3.1, c3.2.1, by omega, c3.2.2.2⟩, c4⟩
  · rw [A6 8 k (by omega)] at k3
    rcases qb with v | ⟨v1, v2, v3, _⟩
    · omega
    · have z1 := v3.1 k k1 k2 k3
      have z2 := List.mem_singleton.mp z1
      rw [A6 7 k (by omega), B6 5 m (by omega) (by omega), v2]
      exact ⟨(v3.2 k z1).2.2.2, by omega⟩
  · have e1 : e = m := by omega
    subst e1
    unfold td
    rw [sm0, B6 1 e (by omega) (by omega), B6 2 e (by omega) (by omega), B6 4 e (by omega) (by omega), B6 5 e (by omega) (by omega), B6 6 e (by omega) (by omega), B6 9 e (by omega) (by omega), v7, b1, b2, b4, b6, b9, Int.toNat_natCast, Int.toNat_natCast]
    refine ⟨⟨by have z := hΦ (t : Int) (by omega) (by omega); rw [Int.toNat_natCast] at z; omega, by omega, by omega, by omega, q7⟩, hst, Or.inr (Or.inl ⟨rfl, ⟨by omega, by omega, hty⟩, ?_, ?_, rfl⟩)⟩
    · have g3 := P9.2.2.1 P8
      have eo : ∀ j, j < e → tA p M6 0 j = tA p M0 0 j := fun j j1 => fM.i (by unfold rM rS rE fF; omega)
      unfold oc
      rw [B6 3 e (by omega) (by omega), b3, Int.toNat_natCast]
      refine ⟨by omega, by omega, by rw [eo u P8]; exact g3.1, fun j j1 j2 => ?_⟩
      by_cases je : j = e
      · rw [je, sm0]
        omega
      · rw [eo j (by omega)]
        exact g3.2 j (by omega) (by omega)
    · rcases qb with v | ⟨v1, v2, v3, v4, v5⟩
      · exact Or.inl v.2
      · have i1 : ((n1 : Int) - 1).toNat = n1 - 1 := by omega
        have r8' := (v3.2 _ List.mem_cons_self)
        refine Or.inr ?_
        rw [v2, i1]
        exact ⟨by omega, by omega, by rw [A6 8 _ (by omega)]; exact r8'.2.2.1, ex_of (by omega) (by rw [A6 0 _ (by omega)]; exact v4) (by rw [A6 0 _ (by omega)]; exact v5), by rw [A6 10 _ (by omega)]; exact (F _ (by omega) (by omega)).2.2.2.1⟩
  · rw [show e = m by omega, sm0]
    omega
  · by_cases e1 : k = t
    · rw [e1] at k3
      omega
    · rcases qc k k1 (by omega) k3 with ⟨x, x1, x2, x3⟩ | x
      · exact Or.inl ⟨x, x1, x2, by rw [A6 4 x (by omega)]; exact x3⟩
      · refine Or.inr ⟨m, Nat.le_refl _, by omega, ?_⟩
        rw [B6 1 m (by omega) (by omega), B6 2 m (by omega) (by omega), b1, b2]
        omega
  · obtain ⟨x, x1, x2, x3⟩ := z
    rw [show x = m by omega, B6 1 m (by omega) (by omega), B6 2 m (by omega) (by omega), b1, b2] at x3
    omega
  · rw [show e = m by omega, B6 1 m (by omega) (by omega), B6 2 m (by omega) (by omega), b1, b2]
    omega
end MEM2
