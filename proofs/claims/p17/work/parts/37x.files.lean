/-! the reference's files: readFile -/
section GF
variable (s c : Nat → Int) (lim : Nat) (gd : Nat → Option Nat) (K : Nat)
/-- a file's classes; o: how many there are with those of other files -/
def g_fil : Nat → Nat → Nat → Option Nat
  | 0, _, _ => none
  | k + 1, o, t => if s t = -1 then none else if s t = 0 then some o else if s t = 3 ∧ c t = 0 then (g_cls s c lim gd K o t).bind fun t1 => g_fil k (o + 1) t1 else none
end GF
def tS (p : Nat) (M : me_M) (k : Nat) : Int := me_i M (p + 8) k
def tC (p : Nat) (M : me_M) (k : Nat) : Int := me_i M (p + 9) k
section PSC
variable {A B : Nat → Nat → Int} {s c s' c' : Nat → Int} {Φ Φ' : Nat → Nat} {n D t u : Nat}
theorem cl.sc {b : Nat → Int} {lo hi dhi T : Nat} {h : Int × Nat} {k : Nat} (F : cl A b s lo hi dhi T h k) (e : ∀ j, j < T → s' j = s j) : cl A b s' lo hi dhi T h k := by
  obtain ⟨c1, ⟨n1, n2, n3, n4, n5⟩, c3⟩ := F
  exact ⟨c1, ⟨n1, fun z => ⟨(n2 z).1, by rw [e _ (by have := n2 z; omega)]; exact (n2 z).2⟩, fun z => ⟨(n3 z).1, by rw [e _ (by have := n3 z; omega)]; exact (n3 z).2⟩, fun z => ⟨(n4 z).1, by rw [e _ (by have := n4 z; omega)]; exact (n4 z).2⟩, n5⟩, c3⟩
theorem td.sc {d : Nat} (H : td A B s c Φ n D t d) (e : ∀ j, j < t → s' j = s j ∧ c' j = c j) : td A B s' c' Φ n D t d := by
  obtain ⟨⟨a1, a2, a3, a4, a5⟩, h2, h4⟩ := H
  have G : ∀ x : Int, 0 ≤ x → x < t → g_ty s c x.toNat → g_ty s' c' x.toNat := fun x x1 x2 g => by
    have := e x.toNat (by omega)
    unfold g_ty at g ⊢
    rw [this.1, this.2]
    exact g
  refine ⟨⟨a1, a2, a3, a4, by rw [(e _ (by omega)).1]; exact a5⟩, h2, ?_⟩
  rcases h4 with z | z | z | z | z
  · refine Or.inl ⟨z.1, ?_, z.2.2⟩
    rcases z.2.1 with v | ⟨v1, v2, v3⟩
    · exact Or.inl v
    · exact Or.inr ⟨v1, v2, by rw [(e _ (by omega)).1]; exact v3⟩
  · exact Or.inr (Or.inl ⟨z.1, ⟨z.2.1.1, z.2.1.2.1, G _ z.2.1.1 (by omega) z.2.1.2.2⟩, z.2.2⟩)
  · obtain ⟨z1, ⟨z2, z3, z4⟩, z5⟩ := z
    refine Or.inr (Or.inr (Or.inl ⟨z1, ⟨z2, z3, ?_⟩, z5⟩))
    rcases z4 with v | v
    · exact Or.inl (G _ z2 (by omega) v)
    · have := e (B 2 d).toNat (by omega)
      rw [this.1, this.2]
      exact Or.inr v
  · exact Or.inr (Or.inr (Or.inr (Or.inl ⟨z.1, ⟨z.2.1.1, z.2.1.2.1, G _ z.2.1.1 (by omega) z.2.1.2.2⟩, z.2.2⟩)))
  · exact Or.inr (Or.inr (Or.inr (Or.inr ⟨z.1, ⟨z.2.1.1, z.2.1.2.1, G _ z.2.1.1 (by omega) z.2.1.2.2⟩, z.2.2⟩)))
theorem PG.sc (G : PG A B s c Φ n D t u) (e : ∀ j, j < t → s' j = s j ∧ c' j = c j) : PG A B s' c' Φ n D t u := by
  obtain ⟨g1, g2, g3, g4, g5⟩ := G
  exact ⟨fun m m1 => ⟨(g1 m m1).1.sc fun j j1 => (e j j1).1, (g1 m m1).2⟩, fun d d1 d2 => (g2 d d1 d2).sc e, g3, fun k k1 k2 => g4 k k1 (by rw [← (e k k1).1]; exact k2), g5⟩
theorem PG.empty : PG A B s c Φ 0 0 0 0 := ⟨fun _ z => by omega, fun _ z => by omega, fun z => by omega, fun _ z => by omega, NI.nil, fun _ z => by omega, fun _ _ _ z => by omega⟩
end PSC
section FILE
variable {N : Nat} {X : Nat → Int32} {p : Nat} {s c : Nat → Int} {Φ : Nat → Nat} {lim : Nat} {gd : Nat → Option Nat} {K e0 f0 : Nat} {d n0 m0 t0 ot : Nat} {M0 M : me_M}
/-- the classes of a file -/
theorem fil_72 (pk0 : pk p s c lim M0) (hp : 164 < p) (he : e0 ≤ 2405) (hef : e0 ≤ f0 + 601) (hl : lim < 2408) (z0 : s e0 = 0) (hΦ : ∀ x : Int, (f0 : Int) ≤ x → x < e0 → Φ x.toNat = f0) (hz : ∀ k, f0 ≤ k → k < e0 → ¬ s k = 0) (HD : ∀ h, CD N X p s c lim gd e0 h) (hK : 80000 ≤ K) (hK2 : K < 900000) (ho : me_i M0 p 39 = (ot : Int)) (hor : ot < 50000) (hd : 500 ≤ d) : ∀ (k : Nat) (M : me_M) (t n m own : Nat) (go : Option Nat), fr (rM p n0 m0) M0 M → pz p s c Φ lim e0 f0 M t n m → n0 ≤ n → m0 ≤ m → cc (tA p M) m = cc (tA p M0) m0 + own ∧ mcn (tA p M) m ≤ mcn (tA p M0) m0 + 24 * own → e0 - t < k → own + k < 10000 → go = g_fil s c lim gd K k (own + ot) t →
    me_W (mt_G N X) 285 d 72 [some (.inr (.inl (some p, 29, 0))), none, none, some (.inl (own : Int))] [] M (sx_qV (fun M' => ∃ o n m, go = some o ∧ n0 ≤ n ∧ m0 ≤ m ∧ fr (rM p n0 m0) M0 M' ∧ pz p s c Φ lim e0 f0 M' e0 n m ∧ cc (tA p M') m + ot = cc (tA p M0) m0 + o ∧ mcn (tA p M') m + 24 * ot ≤ mcn (tA p M0) m0 + 24 * o) (px (go = none) (rM p n0 m0) M0)) := by
  intro k
  induction k with
  | zero => intro M t n m own go _ _ _ _ _ h; omega
  | succ k ih =>
    intro M t n m own go f P hn hm hcc hk hown hgo
    obtain ⟨P1, P2, P3, P4, P5, P6, P7, P8⟩ := id P
    rw [g_fil] at hgo
    refine b285_72 (ca_I (by omega) (c_293 (by omega) P1 P2 (by omega)) (fun y M2 _ q => ?_) (fun _ _ _ q => q.mo (fun z => by rw [hgo, if_pos z]) rM_F f))
    obtain ⟨rfl, rfl, a0⟩ := q
    rw [if_neg a0] at hgo
    refine ⟨P1.rs t, fun z => ?_, fun z => ?_⟩
    · rw [if_pos z] at hgo
      have et : t = e0 := by
        by_cases e : t < e0
        · exact absurd z (hz t P3.1 e)
        · omega
      subst et
      exact ⟨own + ot, n, m, hgo, hn, hm, f, P, by omega, by omega⟩
    rw [if_neg z] at hgo
    refine ca_I (by omega) (c_296 (by omega) P1 P2 (by omega) ⟨by omega, by omega⟩) (fun y M3 _ q => ?_) (fun _ _ _ q => absurd q.2.1 a0)
    obtain ⟨rfl, _, a1⟩ := q
    refine ⟨⟨by omega, by omega⟩, fun w => ?_, fun w => ca_V (by omega) (c_297 (by omega) P1 P2 (by omega)) (fun _ _ q => q.elim) (fun _ _ _ q => q.mo (fun _ => by rw [hgo, if_neg (by omega)]) rM_F f)⟩
    have w3 : s t = 3 ∧ c t = 0 := by omega
    rw [if_pos w3] at hgo
    refine ca_V (by omega) (c_298 (own := own) (ot := ot) hp he hef hl z0 hΦ HD hK hK2 P (by rw [f.i (by unfold rM rS rE fF; omega), ho]) (by omega) w3 (by omega)) (fun M4 _ q => ?_) (fun _ _ _ q => q.mo (fun z => by rw [hgo, z]; rfl) (rM_mo hn hm) f)
    obtain ⟨t1, n1, m1, g1, tt, nn, mm, f3, P', cc', mc'⟩ := q
    have b3 := P'.2.2.1
    rw [g1, Option.bind_some] at hgo
    rw [show (own : Int) + 1 = ((own + 1 : Nat) : Int) by omega]
    exact ih M4 t1 n1 m1 (own + 1) go (f.tr (f3.mo (rM_mo hn hm))) P' (by omega) (by omega) ⟨by rw [cc', hcc.1]; omega, by omega⟩ (by omega) (by omega) (by rw [hgo, show own + 1 + ot = own + ot + 1 by omega])
end FILE
