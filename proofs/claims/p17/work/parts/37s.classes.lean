/-! the reference's parser: classes -/
/-- how many classes are told -/
def cc (B : Nat → Nat → Int) : Nat → Nat
  | 0 => 0
  | D + 1 => cc B D + if B 0 D = 0 then 1 else 0
theorem cc_eq {B B' : Nat → Nat → Int} : ∀ (D : Nat), (∀ j, j < D → B' 0 j = B 0 j) → cc B' D = cc B D
  | 0, _ => rfl
  | D + 1, e => by rw [cc, cc, cc_eq D fun j j1 => e j (by omega), e D (by omega)]
theorem cc_no {B : Nat → Nat → Int} {m : Nat} : ∀ (D : Nat), m ≤ D → (∀ j, m ≤ j → j < D → ¬ B 0 j = 0) → cc B D = cc B m
  | 0, h, _ => by rw [show m = 0 by omega]
  | D + 1, h, e => by
    by_cases z : m = D + 1
    · rw [z]
    · rw [cc, if_neg (e D (by omega) (by omega)), cc_no D (by omega) fun j j1 j2 => e j j1 (by omega)]
      rfl
section PGO
variable {A A' B B' : Nat → Nat → Int} {s c : Nat → Int} {Φ : Nat → Nat} {n D t t' u : Nat}
theorem PG.re (G : PG A B s c Φ n D t u) (h3 : t ≤ t') (eA : ∀ i j, i < 11 → j < n → A' i j = A i j) (eB : ∀ i j, i < 10 → j < D → ¬ j = u → B' i j = B i j) (eu : u < D → B' 0 u = B 0 u ∧ B' 3 u = B 3 u ∧ B' 9 u = B 9 u ∧ B' 5 u = B 5 u) (hc : u < D → B' 1 u = B 1 u ∧ (B' 2 u = B 2 u ∨ B 2 u = -1 ∧ D = u + 1 ∧ (t : Int) ≤ B' 2 u ∧ B' 2 u < t')) (hv : ∀ k, t ≤ k → k < t' → s k = 1 → ∃ d, d < D ∧ (B' 1 d = k ∨ B' 2 d = k)) : PG A' B' s c Φ n D t' u := by
  obtain ⟨g1, g2, g3, g4, g5, g6⟩ := G
  have e0 : ∀ j, j < D → B' 0 j = B 0 j := fun j j1 => by
    by_cases e : j = u
    · rw [e]
      exact (eu (by omega)).1
    · exact eB 0 j (by omega) j1 e
  refine ⟨fun k k1 => ?_, fun d d1 d2 => ?_, fun z => ⟨by rw [e0 u z]; exact (g3 z).1, fun j j1 j2 => by rw [e0 j j2]; exact (g3 z).2 j j1 j2⟩, fun k k1 k2 => ?_, (g5.eq fun x _ x2 => eA 4 x (by omega) x2).mo h3 (fun k _ k2 z => ?_), fun d d1 => ?_, fun d d' d1 d2 => ?_⟩
  · obtain ⟨a1, a2, a3, a4, a5, a6, a7⟩ := g1 k k1
    have nu : ¬ (A 10 k).toNat = u := fun z => by
      clear a3
      have z0 := (g3 (by omega)).1
      have z1 := a2.2.2
      rw [z, z0] at z1
      clear a1 g1 g2 g4 g5 g6
      omega
    refine ⟨by
      have z : cl A' (B' 0) s 0 n D t' (A' 10 k, (B 6 (A 10 k).toNat).toNat) k := a1.mo (Nat.zero_le _) k1 (Nat.le_refl _) (Nat.le_refl _) h3 (fun i j i1 _ j2 => eA i j i1 j2) (fun j j1 => e0 j j1) (fun j z => by omega)
      rw [show B' 6 (A' 10 k).toNat = B 6 (A 10 k).toNat by rw [eA 10 k (by omega) k1, eB 6 _ (by omega) (by omega) nu]]
      exact z, ?_, fun z => ?_, by rw [eA 6 k (by omega) k1, eA 10 k (by omega) k1, eB 7 _ (by omega) (by omega) nu]; exact a4, fun z => ?_, fun z => ?_, by rw [eA 10 k (by omega) k1, eB 5 _ (by omega) (by omega) nu]; exact a7⟩
    · rw [eA 10 k (by omega) k1, e0 _ (by omega)]
      exact a2
    · rw [eA 8 k (by omega) k1] at z
      obtain ⟨b1, d, b2, b3, b4⟩ := a3 z
      refine ⟨by rw [eA 7 k (by omega) k1]; exact b1, d, b2, by rw [e0 d b2]; exact b3, ?_⟩
      by_cases e : d = u
      · rw [e, (eu (by omega)).2.2.2, ← e]
        exact b4
      · rw [eB 5 d (by omega) b2 e]
        exact b4
    · have b8 := a1.2.2.2.2.2.1
      rw [eA 8 k (by omega) k1] at z ⊢
      rw [eA 10 k (by omega) k1, eA 10 _ (by omega) (by omega)]
      exact a5 z
    · rw [eA 0 k (by omega) k1] at z
      obtain ⟨b5, b6, b7⟩ := a1.2.2.2.2.1 z
      have b7 : A 10 k < A 2 k := b7
      have nu2 : ¬ (A 2 k).toNat = u := fun w => by
        clear a3
        have z0 := (g3 (by omega)).1
        rw [w, z0] at b6
        exact absurd b6 (by decide)
      rw [eA 2 k (by omega) k1, eA 10 k (by omega) k1, eB 3 _ (by omega) (by omega) nu2]
      exact a6 z
  · exact (g2 d d1 d2).eq (Nat.le_refl _) (Nat.le_refl _) h3 d1 eA (fun i i1 => eB i d i1 d1 d2) (fun i j i1 j1 => by
      by_cases e : j = u
      · subst e
        have := eu j1
        rcases i1 with rfl | rfl | rfl | rfl
        · exact this.1
        · exact (hc j1).1
        · exact this.2.1
        · exact this.2.2.1
      · exact eB i j (by omega) j1 e)
  · by_cases e : k < t
    · rcases g4 k e k2 with ⟨x, x1, x2⟩ | ⟨d, d1, d2⟩
      · exact Or.inl ⟨x, x1, by rw [eA 4 x (by omega) x1]; exact x2⟩
      · refine Or.inr ⟨d, d1, ?_⟩
        by_cases e2 : d = u
        · subst e2
          have := hc d1
          omega
        · rw [eB 1 d (by omega) d1 e2, eB 2 d (by omega) d1 e2]
          exact d2
    · exact Or.inr (hv k (by omega) k1 k2)
  · obtain ⟨d, d1, d2, d3⟩ := z
    refine ⟨d, d1, d2, ?_⟩
    by_cases e : d = u
    · have := hc (show u < D by omega)
      rw [e] at d3 ⊢
      omega
    · rw [eB 1 d (by omega) d2 e, eB 2 d (by omega) d2 e] at d3
      exact d3
  · have := g6.1 d d1
    by_cases e : d = u
    · have y := hc (show u < D by omega)
      rw [e] at this ⊢
      omega
    · rw [eB 1 d (by omega) d1 e, eB 2 d (by omega) d1 e]
      omega
  · have z := g6.2 d d' d1 d2
    have z1 := g6.1 d (by omega)
    by_cases e : d' = u
    · have y := hc (show u < D by omega)
      rw [eB 1 d (by omega) (by omega) (by omega), eB 2 d (by omega) (by omega) (by omega)]
      rw [e] at z ⊢
      omega
    · rw [eB 1 d' (by omega) (by omega) e, eB 2 d' (by omega) (by omega) e]
      by_cases e2 : d = u
      · have y := hc (show u < D by omega)
        rw [e2] at z ⊢
        omega
      · rw [eB 1 d (by omega) (by omega) e2, eB 2 d (by omega) (by omega) e2]
        exact z
/-- a class begins -/
theorem PG.opens (G : PG A B s c Φ n D t D) (h3 : t ≤ t') (eA : ∀ i j, i < 11 → j < n → A' i j = A i j) (eB : ∀ i j, i < 10 → j < D → B' i j = B i j) (hu : B' 0 D = 0) (hv : ∀ k, t ≤ k → k < t' → s k = 1 → B' 1 D = k ∨ B' 2 D = k) (hb : (t : Int) ≤ B' 1 D ∧ B' 1 D < t' ∧ B' 2 D = -1) : PG A' B' s c Φ n (D + 1) t' D := by
  obtain ⟨g1, g2, _, g4, g5, g6⟩ := G
  refine ⟨fun k k1 => ?_, fun d d1 d2 => ?_, fun _ => ⟨hu, fun j j1 j2 => by omega⟩, fun k k1 k2 => ?_, (g5.eq fun x _ x2 => eA 4 x (by omega) x2).mo h3 (fun k _ k2 z => ?_), fun d d1 => ?_, fun d d' d1 d2 => ?_⟩
  · obtain ⟨a1, a2, a3, a4, a5, a6, a7⟩ := g1 k k1
    refine ⟨by
      have z : cl A' (B' 0) s 0 n (D + 1) t' (A' 10 k, (B 6 (A 10 k).toNat).toNat) k := a1.mo (Nat.zero_le _) k1 (Nat.le_refl _) (Nat.le_succ _) h3 (fun i j i1 _ j2 => eA i j i1 j2) (fun j j1 => eB 0 j (by omega) j1) (fun j z => by omega)
      rw [show B' 6 (A' 10 k).toNat = B 6 (A 10 k).toNat by rw [eA 10 k (by omega) k1, eB 6 _ (by omega) (by omega)]]
      exact z, ?_, fun z => ?_, by rw [eA 6 k (by omega) k1, eA 10 k (by omega) k1, eB 7 _ (by omega) (by omega)]; exact a4, fun z => ?_, fun z => ?_, by rw [eA 10 k (by omega) k1, eB 5 _ (by omega) (by omega)]; exact a7⟩
    · rw [eA 10 k (by omega) k1, eB 0 _ (by omega) (by omega)]
      exact ⟨a2.1, by omega, a2.2.2⟩
    · rw [eA 8 k (by omega) k1] at z
      obtain ⟨b1, d, b2, b3, b4⟩ := a3 z
      exact ⟨by rw [eA 7 k (by omega) k1]; exact b1, d, by omega, by rw [eB 0 d (by omega) b2]; exact b3, by rw [eB 5 d (by omega) b2]; exact b4⟩
    · have b8 := a1.2.2.2.2.2.1
      rw [eA 8 k (by omega) k1] at z ⊢
      rw [eA 10 k (by omega) k1, eA 10 _ (by omega) (by omega)]
      exact a5 z
    · rw [eA 0 k (by omega) k1] at z
      obtain ⟨b5, b6, b7⟩ := a1.2.2.2.2.1 z
      have b7 : A 10 k < A 2 k := b7
      rw [eA 2 k (by omega) k1, eA 10 k (by omega) k1, eB 3 _ (by omega) (by omega)]
      exact a6 z
  · exact (g2 d (by omega) (by omega)).eq (Nat.le_refl _) (Nat.le_succ _) h3 (by omega) eA (fun i i1 => eB i d i1 (by omega)) (fun i j i1 j1 => eB i j (by omega) j1)
  · by_cases e : k < t
    · rcases g4 k e k2 with ⟨x, x1, x2⟩ | ⟨d, d1, d2⟩
      · exact Or.inl ⟨x, x1, by rw [eA 4 x (by omega) x1]; exact x2⟩
      · exact Or.inr ⟨d, by omega, by rw [eB 1 d (by omega) d1, eB 2 d (by omega) d1]; exact d2⟩
    · exact Or.inr ⟨D, by omega, hv k (by omega) k1 k2⟩
  · obtain ⟨d, d1, d2, d3⟩ := z
    by_cases e : d = D
    · rw [e] at d3
      omega
    · exact ⟨d, d1, by omega, by rw [← eB 1 d (by omega) (by omega), ← eB 2 d (by omega) (by omega)]; exact d3⟩
  · by_cases e : d = D
    · rw [e]
      omega
    · have := g6.1 d (by omega)
      rw [eB 1 d (by omega) (by omega), eB 2 d (by omega) (by omega)]
      omega
  · by_cases e : d' = D
    · have := g6.1 d (by omega)
      rw [eB 1 d (by omega) (by omega), eB 2 d (by omega) (by omega), e]
      omega
    · rw [eB 1 d (by omega) (by omega), eB 2 d (by omega) (by omega), eB 1 d' (by omega) (by omega), eB 2 d' (by omega) (by omega)]
      exact g6.2 d d' d1 (by omega)
/-- a class ends -/
theorem PG.closes (G : PG A B s c Φ n D t u) (hu : u < D) (ht : td A B s c Φ n D t u) : PG A B s c Φ n D t D := by
  obtain ⟨g1, g2, _, g4⟩ := G
  refine ⟨g1, fun d d1 _ => ?_, fun z => by omega, g4⟩
  by_cases e : d = u
  · rw [e]
    exact ht
  · exact g2 d d1 e
end PGO
section GC
variable (s c : Nat → Int) (lim : Nat) (gd : Nat → Option Nat) (K : Nat)
def g_mbs : Nat → Nat → Nat → Option Nat
  | 0, _, _ => none
  | k + 1, mb, t => if s t = -1 then none else if s t = 4 ∧ c t = 125 then (if t < lim then some (t + 1) else none) else (g_mem s c lim gd K mb t).bind fun t1 => g_mbs k (mb + 1) t1
/-- a class; o: how many there are -/
def g_cls (o t : Nat) : Option Nat := if t < lim ∧ s (t + 1) = 1 ∧ o < 8 ∧ t + 1 < lim then (if s (t + 2) = -1 then none else if s (t + 2) = 3 ∧ c (t + 2) = 1 then (if t + 2 < lim ∧ s (t + 3) = 1 ∧ t + 3 < lim then (g_need s c lim 123 (t + 4)).bind fun t1 => g_mbs s c lim gd K K 0 t1 else none) else (g_need s c lim 123 (t + 2)).bind fun t1 => g_mbs s c lim gd K K 0 t1) else none
end GC
/-- between classes -/
def pz (p : Nat) (s c : Nat → Int) (Φ : Nat → Nat) (lim e0 f0 : Nat) (M : me_M) (t n m : Nat) : Prop := pk p s c lim M ∧ me_i M p 35 = (t : Int) ∧ (f0 ≤ t ∧ t ≤ e0) ∧ me_i M p 4 = (n : Int) ∧ n ≤ t ∧ me_i M p 16 = (m : Int) ∧ m ≤ t ∧ PG (nA p M) (tA p M) s c Φ n m t m
def CE (p : Nat) (s c : Nat → Int) (Φ : Nat → Nat) (lim e0 f0 : Nat) (M0 : me_M) (n0 m0 t0 : Nat) (go : Option Nat) : me_M → Prop := fun M => ∃ t n m, go = some t ∧ t0 < t ∧ n0 ≤ n ∧ m0 < m ∧ fr (rM p n0 m0) M0 M ∧ pz p s c Φ lim e0 f0 M t n m ∧ cc (tA p M) m = cc (tA p M0) m0 + 1 ∧ mcn (tA p M) m ≤ mcn (tA p M0) m0 + 24
theorem g_mem_lt {s c : Nat → Int} {lim : Nat} {gd : Nat → Option Nat} {K mb t t1 : Nat} (h : g_mem s c lim gd K mb t = some t1) : mb < 24 := by
  have N : ∀ v t, g_nam s c lim gd K mb v t = some t1 → mb < 24 := fun v t z => by
    rw [g_nam] at z
    split at z
    · rename_i w
      exact w.2.1
    · cases z
  have T : ∀ t, g_typ s c lim gd K mb t = some t1 → mb < 24 := fun t z => by
    rw [g_typ] at z
    split at z
    · cases z
    · split at z
      · split at z
        · exact N _ _ z
        · cases z
      · split at z
        · exact N _ _ z
        · cases z
  rw [g_mem] at h
  split at h
  · cases h
  · split at h
    · split at h
      · exact T _ h
      · cases h
    · exact T _ h
section CLS
variable {N : Nat} {X : Nat → Int32} {p : Nat} {s c : Nat → Int} {Φ : Nat → Nat} {lim : Nat} {gd : Nat → Option Nat} {K e0 f0 : Nat} {d : Nat} {M0 M : me_M}
theorem cls_73 {n0 u t0 : Nat} {go : Option Nat} (pk0 : pk p s c lim M0) (hp : 164 < p) (he : e0 ≤ 2405) (hef : e0 ≤ f0 + 601) (hl : lim < 2408) (z0 : s e0 = 0) (hΦ : ∀ x : Int, (f0 : Int) ≤ x → x < e0 → Φ x.toNat = f0) (HD : ∀ h, CD N X p s c lim gd e0 h) (hK : 80000 ≤ K) (hd : 480 ≤ d) (hf0 : f0 ≤ t0) : ∀ (k : Nat) (M : me_M) (t n m mb : Nat), fr (rM p n0 u) M0 M → pm p s c Φ lim e0 f0 u M t n m → n0 ≤ n → t0 < t → (tA p M 1 u = ((t0 + 1 : Nat) : Int) ∧ s (t0 + 1) = 1 ∧ tA p M 6 u = (t0 : Int) ∧ tA p M 4 u = 0 ∧ tA p M 8 u = -5 ∧ tA p M 3 u = -1 ∧ tA p M 5 u = -1 ∧ tA p M 9 u = 0 ∧ (tA p M 2 u = -1 ∨ 0 ≤ tA p M 2 u ∧ tA p M 2 u < t ∧ s (tA p M 2 u).toNat = 1)) → t0 + 1 < t → e0 - t < k → mb + k < 1000000 → mb ≤ 24 ∧ mcn (tA p M) m ≤ mcn (tA p M0) u + mb → go = g_mbs s c lim gd K k mb t →
    me_W (mt_G N X) 298 d 73 [some (.inr (.inl (some p, 29, 0))), none, none, none, none, some (.inl (u : Int)), some (.inl (mb : Int))] [] M (sx_qV (CE p s c Φ lim e0 f0 M0 n0 u t0 go) (px (go = none) (rM p n0 u) M0)) := by
  intro k
  induction k with
  | zero => intro M t n m mb _ _ _ _ _ _ h; omega
  | succ k ih =>
    intro M t n m mb f P hn ht0 V ht1 hk hmb hmc hgo
    obtain ⟨P1, P2, P3, P4, P5, P6, P7, P8, P9⟩ := id P
    obtain ⟨V1, Vs, V6, V4, V8, V3, V5, V9, V2⟩ := id V
    rw [g_mbs] at hgo
    refine b298_73 (ca_I (by omega) (c_306 (by omega) P1 P2 (by omega) hl ⟨by omega, by omega⟩) (fun y M2 _ q => ?_) (fun _ _ _ q => q.mo (fun z => by
      rw [hgo]
      rcases z with z | z
      · rw [if_pos z]
      · rw [if_neg (by omega), if_pos ⟨z.1, z.2.1⟩, if_neg (by omega)]) rM_F f))
    rcases q with ⟨rfl, rfl, e1, e2, e3⟩ | ⟨rfl, rfl, e1, e2⟩
    · have te := te_of z0 P3.2 (show ¬ s t = 0 by omega)
      rw [if_neg (by omega), if_pos ⟨e1, e2⟩, if_pos e3] at hgo
      have f1 : fr (fun b j => b = p ∧ j = 35) M (pT M p t) := fr_sI ⟨rfl, rfl⟩
      have t1 : me_i (pT M p t) p 35 = ((t + 1 : Nat) : Int) := by
        show me_i (me_sI _ _ _ _) _ _ = _
        rw [me_i_sI, if_pos ⟨rfl, rfl⟩, me_to ⟨by omega, by omega⟩]
        omega
      refine ⟨⟨by omega, by omega⟩, fun _ => ⟨by omega, by omega, ?_⟩, fun w => by omega⟩
      rw [Int.toNat_natCast, t1]
      intro M5
      have f5 : fr (fun b j => b = p + 32 ∧ j = u) (pT M p t) M5 := fr_sI ⟨rfl, rfl⟩
      have v7 : tA p M5 7 u = (t : Int) := by
        show me_i (me_sI _ _ _ _) _ _ = _
        rw [me_i_sI, if_pos ⟨rfl, rfl⟩, me_to ⟨by omega, by omega⟩]
        omega
      have fa : fr (fun b j => b = p ∧ j = 35 ∨ b = p + 32 ∧ j = u) M M5 := (f1.mo fun b j z => Or.inl z).tr (f5.mo fun b j z => Or.inr z)
      have fM : fr (rM p n0 u) M0 M5 := f.tr (fa.mo fun b j z => by unfold rM rS rE; omega)
      have eA : ∀ i j, i < 11 → nA p M5 i j = nA p M i j := fun i j _ => fa.i (by omega)
      have eB : ∀ i j, i < 10 → ¬ (i = 7 ∧ j = u) → tA p M5 i j = tA p M i j := fun i j _ _ => fa.i (by omega)
      have G := (P9.re (t' := t + 1) (by omega) (A' := nA p M5) (B' := tA p M5) (fun i j i1 _ => eA i j i1) (fun i j i1 _ j2 => eB i j i1 (by omega)) (fun _ => ⟨eB 0 u (by omega) (by omega), eB 3 u (by omega) (by omega), eB 9 u (by omega) (by omega), eB 5 u (by omega) (by omega)⟩) (fun _ => ⟨eB 1 u (by omega) (by omega), Or.inl (eB 2 u (by omega) (by omega))⟩) (fun x x1 x2 x3 => by rw [show x = t by omega] at x3; omega))
      have g3 := G.2.2.1 P8
      refine ⟨t + 1, n, m, hgo, by omega, hn, P8, fM, ⟨pk_m (pk0 : pk p s c lim M0) hp fM, by rw [f5.i (by omega), t1], by omega, by rw [fa.i (by omega), P4], by omega, by rw [fa.i (by omega), P6], by omega, G.closes P8 ?_⟩, ?_, ?_⟩
      · unfold td
        rw [g3.1, v7, eB 1 u (by omega) (by omega), eB 2 u (by omega) (by omega), eB 3 u (by omega) (by omega), eB 4 u (by omega) (by omega), eB 5 u (by omega) (by omega), eB 6 u (by omega) (by omega), eB 9 u (by omega) (by omega), V1, V6, V4, V3, V5, V9, Int.toNat_natCast]
        exact ⟨⟨by have z := hΦ (t : Int) (by omega) (by omega); rw [Int.toNat_natCast] at z; omega, by omega, by omega, by omega, Vs⟩, Or.inl rfl, Or.inl ⟨rfl, by omega, rfl, rfl, rfl, rfl⟩⟩
      · rw [cc_no m P8 fun j j1 j2 => g3.2 j j1 j2, cc, if_pos g3.1, cc_eq (B := tA p M0) (B' := tA p M5) u fun j j1 => fM.i (by unfold rM rS rE fF; omega)]
      · rw [mcn_eq (B := tA p M) (B' := tA p M5) m fun j _ => eB 0 j (by omega) (by omega)]
        omega
    · rw [if_neg e1, if_neg e2] at hgo
      refine ⟨⟨by omega, by omega⟩, fun w => by omega, fun _ => ?_⟩
      refine ca_V (by omega) (c_308 (mb := mb) hp he hef hl z0 hΦ HD hK P (by omega) (by omega)) (fun M3 _ q => ?_) (fun _ _ _ q => q.mo (fun z => by rw [hgo, z]; rfl) (rM_mo hn (by omega)) f)
      obtain ⟨t1, n1, m1, g1, tt, nn, mm, mc, f3, P'⟩ := q
      have mb24 := g_mem_lt g1
      rw [g1, Option.bind_some] at hgo
      have eu : ∀ i, i < 10 → tA p M3 i u = tA p M2 i u := fun i _ => f3.i (by unfold rM rS rE fF; omega)
      have := P'.2.2.1
      rw [show (mb : Int) + 1 = ((mb + 1 : Nat) : Int) by omega]
      refine ih M3 t1 n1 m1 (mb + 1) (f.tr (f3.mo (rM_mo hn (by omega)))) P' (by omega) (by omega) ?_ (by omega) (by omega) (by omega) ⟨by omega, by omega⟩ hgo
      rw [eu 1 (by omega), eu 2 (by omega), eu 3 (by omega), eu 4 (by omega), eu 5 (by omega), eu 6 (by omega), eu 8 (by omega), eu 9 (by omega)]
      exact ⟨V1, Vs, V6, V4, V8, V3, V5, V9, by omega⟩
end CLS
