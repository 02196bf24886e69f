/-! the reference's judge: workMembers' contract -/
/-- a method of a class below with the same signature: no statics, one told type -/
def OVP (p : Nat) (M : me_M) (a b : Nat) : Prop := tA p M 0 a = 2 → tA p M 0 b = 2 → heir (sp p M) (me_i M (p + 37) (tA p M 3 a).toNat) (me_i M (p + 37) (tA p M 3 b).toNat) → sig p M a b → tA p M 4 a = 0 ∧ tA p M 4 b = 0 ∧ tA p M 8 a = tA p M 8 b
section OVT
variable {N : Nat} {X : Nat → Int32} {d p C n m cl k c : Nat} {Φ : Nat → Nat} {M M' : me_M}
theorem nmd_fr {P : Nat → Nat → Prop} {k k' : Nat} (hk : tkv p M k) (hk' : tkv p M k') (f : fr P M M') (h : ∀ b j, P b j → ¬ (p + 2 ≤ b ∧ b ≤ p + 5) ∧ ¬ (p + 8 ≤ b ∧ b ≤ p + 12)) : nmd p p M' k k' ↔ nmd p p M k k' := by
  have e : ∀ i j, i < 5 → kA p M' i j = kA p M i j := fun i j _ => f.i fun z => by
    have := h _ _ z
    omega
  have eb : ∀ k, tkv p M k → ∀ i, bA p M' k i = bA p M k i := fun k hk i => by
    unfold bA
    rw [e 4 k (by omega), e 2 k (by omega)]
    have := hk.2.1
    exact f.i fun z => by
      have := h _ _ z
      omega
  unfold nmd
  rw [e 3 k (by omega), e 3 k' (by omega)]
  constructor
  · exact fun z => ⟨z.1, fun i i1 i2 => by rw [← eb k hk i, ← eb k' hk' i]; exact z.2 i i1 i2⟩
  · exact fun z => ⟨z.1, fun i i1 i2 => by rw [eb k hk i, eb k' hk' i]; exact z.2 i i1 i2⟩
theorem sig_fr {P : Nat → Nat → Prop} {a b : Nat} (ha : mtd p M a) (hb : mtd p M b) (f : fr P M M') (h : ∀ b j, P b j → ¬ (p + 2 ≤ b ∧ b ≤ p + 5) ∧ ¬ (p + 8 ≤ b ∧ b ≤ p + 12) ∧ ¬ (p + 25 ≤ b ∧ b ≤ p + 34)) : sig p M' a b ↔ sig p M a b := by
  have e : ∀ i j, i < 10 → tA p M' i j = tA p M i j := fun i j _ => f.i fun z => by
    have := h _ _ z
    omega
  obtain ⟨w, w1, w2⟩ := ha.2.2.2
  obtain ⟨v, v1, v2⟩ := hb.2.2.2
  have nm := nmd_fr w2 v2 f fun b j z => ⟨(h b j z).1, (h b j z).2.1⟩
  unfold sig
  rw [e 9 a (by omega), e 9 b (by omega), e 1 a (by omega), e 1 b (by omega), w1, v1, Int.toNat_natCast, Int.toNat_natCast]
  constructor
  · exact fun z => ⟨z.1, nm.mp z.2.1, fun i i1 i2 => by rw [← e 8 _ (by omega), ← e 8 _ (by omega)]; exact z.2.2 i i1 i2⟩
  · exact fun z => ⟨z.1, nm.mpr z.2.1, fun i i1 i2 => by rw [e 8 _ (by omega), e 8 _ (by omega)]; exact z.2.2 i i1 i2⟩
theorem OVP.fr {P : Nat → Nat → Prop} {a b : Nat} (H : WB p C n m Φ M) (ha : a < m) (hb : b < m) (O : OVP p M a b) (f : fr P M M') (h : ∀ b j, P b j → ¬ (p + 2 ≤ b ∧ b ≤ p + 5) ∧ ¬ (p + 8 ≤ b ∧ b ≤ p + 12) ∧ ¬ (p + 25 ≤ b ∧ b ≤ p + 34) ∧ ¬ (p + 36 ≤ b ∧ b ≤ p + 37)) : OVP p M' a b := by
  have e : ∀ i j, i < 10 → tA p M' i j = tA p M i j := fun i j _ => f.i fun z => by
    have := h _ _ z
    omega
  have e7 : ∀ j, me_i M' (p + 37) j = me_i M (p + 37) j := fun j => f.i fun z => by
    have := h _ _ z
    omega
  have es : sp p M' = sp p M := by
    funext i
    exact f.i fun z => by
      have := h _ _ z
      omega
  intro h1 h2 h3 h4
  rw [e 0 a (by omega)] at h1
  rw [e 0 b (by omega)] at h2
  rw [es, e7, e7, e 3 a (by omega), e 3 b (by omega)] at h3
  have s := (sig_fr (H.mtd ha h1) (H.mtd hb h2) f fun b j z => ⟨(h b j z).1, (h b j z).2.1, (h b j z).2.2.1⟩).mp h4
  rw [e 4 a (by omega), e 4 b (by omega), e 8 a (by omega), e 8 b (by omega)]
  exact O h1 h2 h3 s
/-- workMembers' last loop -/
def LO (p m : Nat) (M M1 : me_M) (j i : Nat) : Prop := ER p M M1 ∧ (me_i M1 p 33 = 0 → ∀ a b, a < m → b < m → (a < j ∨ a = j ∧ b < i) → OVP p M a b)
theorem mem_263 {Q : me_Q} (H : WB p C n m Φ M) (hC : CS p M cl m) (hd : 3 ≤ d) (hty : me_i M p 33 = 0 → ∀ q, q < m → tA p M 0 q = 2 → ¬ tA p M 8 q = -5) {j : Nat} (jm : j < m) (HQ : ∀ M2, LO p m M M2 (j + 1) 0 → me_W (mt_G N X) 336 d 253 [some (.inr (.inl (some p, 29, 0))), some (.inl ((j : Int) + 1)), none] [] M2 Q) : ∀ (f i : Nat) (M1 : me_M), m - i < f → i ≤ m → LO p m M M1 j i → me_W (mt_G N X) 336 d 263 [some (.inr (.inl (some p, 29, 0))), some (.inl (j : Int)), some (.inl (i : Int))] [] M1 Q := by
  have m7 := H.m7
  have c8 := hC.2.1
  intro f
  induction f with
  | zero => intro i M1 z; omega
  | succ f ih =>
    intro i M1 hf hi L
    have b1 : WB p C n m Φ M1 := H.fr L.1.W
    have fE := L.1.1
    have eB : ∀ a b, a < 10 → tA p M1 a b = tA p M a b := fun a b _ => fE.i (by omega)
    have rw1 : ∀ a b, me_r (tA p M a b) := fun a b => me_i_r _ _ _
    have nxt : i < m → ∀ M2, LO p m M M2 j (i + 1) → me_W (mt_G N X) 336 d 263 [some (.inr (.inl (some p, 29, 0))), some (.inl (j : Int)), some (.inl ((i : Int) + 1))] [] M2 Q := fun im M2 L2 => by
      rw [show (i : Int) + 1 = ((i + 1 : Nat) : Int) by omega]
      exact ih (i + 1) M2 (by omega) (by omega) L2
    have good : OVP p M j i → LO p m M M1 j (i + 1) := fun o => ⟨L.1, fun z a b a1 b1 ab => by
      by_cases c : a = j ∧ b = i
      · rw [c.1, c.2]
        exact o
      · exact L.2 z a b a1 b1 (by omega)⟩
    have all : (tA p M 0 j = 2 → False) → LO p m M M1 (j + 1) 0 := fun o => ⟨L.1, fun z a b a1 b1 ab => by
      by_cases c : a = j
      · rw [c]
        exact fun h => (o h).elim
      · exact L.2 z a b a1 b1 (by omega)⟩
    refine b336_263 ?_
    rw [b1.1.2.2.2.1, Int.toNat_natCast, Int.toNat_natCast, show me_i M1 (p + 25) j = tA p M 0 j from eB 0 j (by omega), show me_i M1 (p + 25) i = tA p M 0 i from eB 0 i (by omega), show me_i M1 (p + 28) j = tA p M 3 j from eB 3 j (by omega), show me_i M1 (p + 28) i = tA p M 3 i from eB 3 i (by omega)]
    refine ⟨⟨by omega, by omega⟩, ⟨by omega, by omega⟩, fun z => HQ M1 ⟨L.1, fun z a b a1 b1 ab => L.2 z a b a1 b1 (by omega)⟩, fun z => ⟨by omega, by omega, rw1 _ _, ⟨by omega, by omega⟩, fun z1 => HQ M1 (all fun v => z1 v), fun z1 => ⟨by omega, by omega, rw1 _ _, ⟨by omega, by omega⟩, fun z2 => nxt (by omega) M1 (good fun _ h2 => absurd h2 z2), fun z2 => ?_⟩⟩⟩
    have im : i < m := by omega
    obtain ⟨o, o1, o2, o3⟩ := H.own jm (Or.inr z1)
    obtain ⟨u, u1, u2, u3⟩ := H.own im (Or.inr z2)
    obtain ⟨x, x1, x2, _⟩ := hC.2.2.2.1 o o2 o3
    obtain ⟨y, y1, y2, _⟩ := hC.2.2.2.1 u u2 u3
    have C1 : CS p M1 cl m := hC.fr fE (by omega) (fun b a w => by omega)
    have e7 : ∀ a, me_i M1 (p + 37) a = me_i M (p + 37) a := fun a => fE.i (by omega)
    have es : sp p M1 = sp p M := by
      funext a
      exact fE.i (by omega)
    rw [o1, u1, Int.toNat_natCast, Int.toNat_natCast, e7, e7, x2, y2]
    refine ⟨by omega, by omega, by omega, by omega, by omega, by omega, by omega, by omega, ?_⟩
    refine ca_I (by omega) (c_335 C1.2.2.2.2 c8 (by omega) (by omega) ⟨by omega, by omega⟩) (fun y4 M2 _ g => ?_) nt_E_no
    obtain ⟨e2, g⟩ := g
    subst e2
    have hh : ∀ y' : Int, heir (sp p M) (me_i M (p + 37) (tA p M 3 j).toNat) (me_i M (p + 37) (tA p M 3 i).toNat) → (y' = 1 ∧ heir (sp p M2) (x : Int) (y : Int) ∨ y' = 0 ∧ ¬ heir (sp p M2) (x : Int) (y : Int)) → ¬ y' = 0 := fun y' v w => by
      rw [o1, u1, Int.toNat_natCast, Int.toNat_natCast, x2, y2, ← es] at v
      rcases w with w | w
      · omega
      · exact absurd v w.2
    refine ⟨by rcases g with g | g <;> rw [g.1] <;> exact ⟨by omega, by omega⟩, fun v => nxt im M2 (good fun _ _ h3 _ => absurd v (hh y4 h3 g)), fun _ => ?_⟩
    have sj : tA p M2 0 j = 2 := (eB 0 j (by omega)).trans z1
    have si : tA p M2 0 i = 2 := (eB 0 i (by omega)).trans z2
    refine ca_I (by omega) (c_338 (by omega) b1.2.2.1 (b1.mtd jm sj) (b1.mtd im si)) (fun y8 M5 _ g8 => ?_) nt_E_no
    obtain ⟨e5, g8⟩ := g8
    have sg : sig p M j i → ¬ y8 = 0 := fun v => by
      have v2 := (sig_fr (H.mtd jm z1) (H.mtd im z2) fE fun b a w => by omega).mpr v
      rcases g8 with w | w
      · omega
      · exact absurd v2 w.2
    have e54 : ∀ a b, a < 10 → tA p M5 a b = tA p M a b := fun a b h => by
      rw [e5]
      exact eB a b h
    rw [show me_i M5 (p + 29) j = tA p M 4 j from e54 4 j (by omega), show me_i M5 (p + 29) i = tA p M 4 i from e54 4 i (by omega), show me_i M5 (p + 33) j = tA p M 8 j from e54 8 j (by omega), show me_i M5 (p + 33) i = tA p M 8 i from e54 8 i (by omega)]
    subst e5
    obtain ⟨w, w1, w2⟩ := b1.hn j jm
    have err : ∃ d', d = d' + 1 ∧ me_W (mt_G N X) 334 d' 0 [some (.inr (.inl (some p, 29, 0))), some (.inl 9), some (.inl (me_i M5 (p + 26) j)), none] [] M5 (sx_qV (fun M9 => me_W (mt_G N X) 336 d 263 [some (.inr (.inl (some p, 29, 0))), some (.inl (j : Int)), some (.inl ((i : Int) + 1))] [] M9 Q) (fun e11 M10 => Q (.inl e11) M10)) := by
      rw [show me_i M5 (p + 26) j = (w : Int) from w1]
      exact ca_V (by omega) (c_334 (by omega) w2 (by omega) (by omega) L.1.2.1) (fun M3 _ g => nxt im M3 ⟨⟨fE.tr g.1, by omega, fun v => by omega⟩, fun v => by omega⟩) nt_E_no
    refine ⟨by rcases g8 with g | g <;> rw [g.1] <;> exact ⟨by omega, by omega⟩, fun v => nxt im M5 (good fun _ _ _ h4 => absurd v (sg h4)), fun _ => ⟨by omega, by omega, fun st1 => ⟨rw1 _ _, fun _ => ⟨by omega, by omega, err⟩, fun v1 => ⟨by omega, by omega, fun st2 => ⟨rw1 _ _, fun _ => ⟨by omega, by omega, err⟩, fun v2 => ⟨by omega, by omega, rw1 _ _, ⟨by omega, by omega⟩, fun v3 => nxt im M5 ⟨L.1, fun u => absurd v3 (hty (L.1.2.2 u) j jm z1)⟩, fun v3 => ⟨by omega, by omega, rw1 _ _, ⟨by omega, by omega⟩, fun v4 => nxt im M5 ⟨L.1, fun u => absurd v4 (hty (L.1.2.2 u) i im z2)⟩, fun v4 => ⟨by omega, by omega, by omega, by omega, rw1 _ _, rw1 _ _, fun v5 => nxt im M5 (good fun _ _ _ _ => ⟨v1, v2, v5⟩), fun v5 => ⟨by omega, by omega, err⟩⟩⟩⟩⟩⟩⟩⟩⟩
theorem mem_253 {Q : me_Q} (H : WB p C n m Φ M) (hC : CS p M cl m) (hd : 3 ≤ d) (hty : me_i M p 33 = 0 → ∀ q, q < m → tA p M 0 q = 2 → ¬ tA p M 8 q = -5) (HQ : ∀ M2, LO p m M M2 m 0 → Q (.inr none) M2) : ∀ (f j : Nat) (M1 : me_M), m - j < f → j ≤ m → LO p m M M1 j 0 → me_W (mt_G N X) 336 d 253 [some (.inr (.inl (some p, 29, 0))), some (.inl (j : Int)), none] [] M1 Q := by
  have m7 := H.m7
  intro f
  induction f with
  | zero => intro j M1 z; omega
  | succ f ih =>
    intro j M1 hf hj L
    refine b336_253 ?_
    rw [(H.fr L.1.W).1.2.2.2.1]
    refine ⟨⟨by omega, by omega⟩, ⟨by omega, by omega⟩, fun z => by
      have e : j = m := by omega
      exact HQ M1 (e ▸ L), fun z => ?_⟩
    refine mem_263 H hC hd hty (show j < m by omega) (fun M2 L2 => ?_) (m + 1) 0 M1 (by omega) (by omega) L
    rw [show (j : Int) + 1 = ((j + 1 : Nat) : Int) by omega]
    exact ih (j + 1) M2 (by omega) (by omega) L2
theorem c_336 (H : WB p C n m Φ M) (hC : CS p M cl m) (hd : 5 ≤ d) (he : 0 ≤ me_i M p 33 ∧ me_i M p 33 ≤ 14) : me_W (mt_G N X) 336 d 0 [some (.inr (.inl (some p, 29, 0))), none, none] [] M (sx_qV (fun M' => fr (r4 p m (tA p M)) M M' ∧ (0 ≤ me_i M' p 33 ∧ me_i M' p 33 ≤ 14) ∧ (me_i M' p 33 = 0 → me_i M p 33 = 0 ∧ (∀ q, q < m → ¬ tA p M 0 q = 0 → (ty_v cl (tA p M' 8 q) ∧ (¬ tA p M 0 q = 2 → ¬ tA p M' 8 q = 3)) ∧ (10 ≤ tA p M' 8 q → me_i M' (p + 38) (tA p M 2 q).toNat = me_i M (p + 35) (tA p M' 8 q - 10).toNat) ∧ (tS p M (tA p M 2 q).toNat = 1 → 10 ≤ tA p M' 8 q)) ∧ ∀ a b, a < m → b < m → OVP p M' a b)) nt_E) := by
  refine b336_0 (mem_2 H hC hd (fun M2 L2 => ?_) (m + 1) 0 M (by omega) (by omega) ⟨fr.rf, he, fun z => z, fun q z => by omega⟩)
  obtain ⟨l1, l2, l3, l4⟩ := L2
  have H2 := H.fr (l1.mo r4_W)
  have C2 := CS_r4 hC l1
  have e0 : ∀ q, tA p M2 0 q = tA p M 0 q := fun q => l1.i (fun w => by
    rcases w with w | w | w <;> omega)
  have hty : me_i M2 p 33 = 0 → ∀ q, q < m → tA p M2 0 q = 2 → ¬ tA p M2 8 q = -5 := fun z q q1 q2 => by
    rw [e0] at q2
    have := (l4 q q1 (by omega)).1
    unfold ty_v at this
    omega
  refine mem_103 H2 (by omega) (fun M3 E3 => ?_) (m + 1) 0 M2 (by omega) (by omega) ⟨fr.rf, l2, fun z => z⟩
  refine mem_253 H2 C2 (by omega) hty (fun M4 L4 => ?_) (m + 1) 0 M3 (by omega) (by omega) ⟨E3, fun z a b _ _ ab => by omega⟩
  obtain ⟨⟨f4, r4, m4⟩, o4⟩ := L4
  refine ⟨l1.tr (f4.mo fun b j z => Or.inl z), r4, fun z => ⟨l3 (m4 z), fun q q1 q2 => ?_, fun a b a1 b1 => (o4 z a b a1 b1 (Or.inl a1)).fr H2 a1 b1 f4 fun b j w => by omega⟩⟩
  obtain ⟨t1, t2, t3, t4⟩ := l4 q q1 q2
  have e8 : tA p M4 8 q = tA p M2 8 q := f4.i (by omega)
  rw [e8]
  have tv : ty_v cl (tA p M2 8 q) := by
    rcases t1 with v | v
    · exact absurd (m4 z) v.2
    · exact v
  refine ⟨⟨tv, t2⟩, fun v => by rw [f4.i (by omega)]; exact t3 v, fun v => ?_⟩
  have := t4 v
  unfold ty_v at tv
  omega
end OVT
