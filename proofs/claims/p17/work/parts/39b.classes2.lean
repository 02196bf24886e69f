/-! the reference's judge: workClasses' contract, work's first loops -/
section WC2
variable {N : Nat} {X : Nat → Int32} {d p C n m cl k c : Nat} {Φ : Nat → Nat} {M M' : me_M}
/-- workClasses' second loop -/
def L2 (p m cl : Nat) (M M1 : me_M) (c : Nat) : Prop := L1 p m cl M M1 cl cl ∧ (me_i M1 p 33 = 0 → ∀ i, i < c → ∀ q : Nat, me_i M (p + 35) i = (q : Int) → 0 ≤ tA p M 2 q → 0 ≤ sp p M1 i ∧ ¬ sp p M1 i = i ∧ ¬ heir (sp p M1) (sp p M1 i) i)
theorem cls2_124 {Q : me_Q} (H : WB p C n m Φ M) (hC : CS0 p M cl m) (hd : 3 ≤ d) (HQ : ∀ M2, L2 p m cl M M2 cl → Q (.inr none) M2) : ∀ (f c : Nat) (M1 : me_M), cl - c < f → c ≤ cl → L2 p m cl M M1 c → me_W (mt_G N X) 333 d 124 [some (.inr (.inl (some p, 29, 0))), some (.inl (c : Int)), none] [] M1 Q := by
  have m7 := H.m7
  have c8 := hC.2.1
  have hCC := H.2.1
  intro f
  induction f with
  | zero => intro c M1 z; omega
  | succ f ih =>
    intro c M1 hf hc L
    have b1 := H.fr (L.1.1.mo r3_W)
    have b2 := hC.fr L.1.1
    refine b333_124 ?_
    rw [b2.1]
    refine ⟨⟨by omega, by omega⟩, ⟨by omega, by omega⟩, fun z => by
      have e : c = cl := by omega
      exact HQ M1 (e ▸ L), fun z => ?_⟩
    obtain ⟨q, q1, q2, q3, q4⟩ := hC.2.2.1 c (by omega)
    have e35 : me_i M1 (p + 35) c = (q : Int) := (L.1.1.i (fun w => by
      rcases w with w | w | w <;> omega)).trans q1
    have e27 : ∀ M2, M2 = M1 → me_i M2 (p + 27) q = tA p M 2 q := fun M2 e => by
      rw [e]
      exact L.1.1.i (fun w => by
        rcases w with w | w | w <;> omega)
    have rt : me_r (tA p M 2 q) := me_i_r _ _ _
    have t2 := H.t2 q2
    have rs : me_r (me_i M1 (p + 36) c) := me_i_r _ _ _
    rw [Int.toNat_natCast, e35, Int.toNat_natCast, e27 M1 rfl]
    have nxt : ∀ M2, L2 p m cl M M2 (c + 1) → me_W (mt_G N X) 333 d 124 [some (.inr (.inl (some p, 29, 0))), some (.inl ((c : Int) + 1)), none] [] M2 Q := fun M2 L2 => by
      rw [show (c : Int) + 1 = ((c + 1 : Nat) : Int) by omega]
      exact ih (c + 1) M2 (by omega) (by omega) L2
    have good : (0 ≤ tA p M 2 q → 0 ≤ sp p M1 c ∧ ¬ sp p M1 c = c ∧ ¬ heir (sp p M1) (sp p M1 c) c) → L2 p m cl M M1 (c + 1) := fun g => ⟨L.1, fun w i i1 q' a1 a2 => by
      by_cases ci : i = c
      · subst ci
        have : q' = q := by omega
        subst this
        exact g a2
      · exact L.2 w i (by omega) q' a1 a2⟩
    have err : 0 ≤ tA p M 2 q → ∀ M2, M2 = M1 → ∃ d', d = d' + 1 ∧ me_W (mt_G N X) 334 d' 0 [some (.inr (.inl (some p, 29, 0))), some (.inl 2), some (.inl (tA p M 2 q)), none] [] M2 (sx_qV (fun M1 => me_W (mt_G N X) 333 d 124 [some (.inr (.inl (some p, 29, 0))), some (.inl ((c : Int) + 1)), none] [] M1 Q) (fun e3 M2 => Q (.inl e3) M2)) := fun h0 M2 e => by
      subst e
      obtain ⟨w, hw⟩ : ∃ w : Nat, tA p M 2 q = (w : Int) := ⟨(tA p M 2 q).toNat, by omega⟩
      rw [hw]
      refine ca_V (by omega) (c_334 (by omega) (b1.tk (by omega)) (by omega) (by omega) L.1.2.1) (fun M3 _ g => ?_) nt_E_no
      exact nxt M3 ⟨L.1.err g.1 g.2, fun w => by omega⟩
    have s6 : -1 ≤ me_i M1 (p + 36) c ∧ me_i M1 (p + 36) c < cl := (L.1.2.2.2.1 c (by omega) q q1).1
    have hsp : ∀ i, i < cl → -1 ≤ sp p M1 i ∧ sp p M1 i < cl := fun i i1 => by
      obtain ⟨q', a1, _⟩ := hC.2.2.1 i i1
      exact (L.1.2.2.2.1 i i1 q' a1).1
    refine ⟨by omega, by omega, by omega, by omega, rt, fun z2 => nxt M1 (good fun v => by omega), fun z2 => ⟨by omega, by omega, rs, fun z3 => ⟨by omega, by omega, err z2 M1 rfl⟩, fun z3 => ⟨by omega, by omega, rs, ⟨by omega, by omega⟩, fun z4 => ⟨by omega, by omega, err z2 M1 rfl⟩, fun z4 => ⟨by omega, by omega, ?_⟩⟩⟩⟩
    refine ca_I (by omega) (c_335 hsp c8 s6.1 s6.2 ⟨by omega, by omega⟩) (fun y M2 _ g => ?_) nt_E_no
    obtain ⟨e2, g⟩ := g
    refine ⟨by rcases g with g | g <;> rw [g.1] <;> exact ⟨by omega, by omega⟩, fun v => ?_, fun v => ⟨by omega, by omega, ?_⟩⟩
    · subst e2
      refine nxt M2 (good fun _ => ⟨z3, z4, ?_⟩)
      rcases g with g | g
      · omega
      · exact g.2
    · rw [e27 M2 e2]
      exact err z2 M2 e2
theorem it_m1 {nx : Nat → Int} : ∀ s : Nat, ∀ a : Int, 0 ≤ a → ¬ it nx s (-1) = a
  | 0, a, h, z => by
    have z : (-1 : Int) = a := z
    omega
  | s + 1, a, h, z => by
    have z : (if (-1 : Int) < 0 then -1 else it nx s (nx (-1 : Int).toNat)) = a := z
    rw [if_pos (by omega)] at z
    omega
/-- workClasses -/
theorem c_333 (H : WB p C n m Φ M) (hC : CS0 p M cl m) (hd : 3 ≤ d) (he : 0 ≤ me_i M p 33 ∧ me_i M p 33 ≤ 14) : me_W (mt_G N X) 333 d 0 [some (.inr (.inl (some p, 29, 0))), none, none] [] M (sx_qV (fun M' => fr (r3 p m (tA p M)) M M' ∧ (0 ≤ me_i M' p 33 ∧ me_i M' p 33 ≤ 14) ∧ CS p M' cl m ∧ (me_i M' p 33 = 0 → me_i M p 33 = 0 ∧ (∀ i : Nat, i < cl → ¬ heir (sp p M') i i) ∧ ∀ q, q < m → tA p M 0 q = 0 → 0 ≤ tA p M 2 q → ∃ o : Nat, me_i M' (p + 38) (tA p M 2 q).toNat = (o : Int) ∧ o < m ∧ tA p M 0 o = 0)) nt_E) := by
  have c8 := hC.2.1
  refine b333_0 (cls1_2 H hC hd (fun M2 L => cls2_124 H hC hd (fun M3 L3 => ?_) (cl + 1) 0 M2 (by omega) (by omega) ⟨L, fun _ i z => by omega⟩) (cl + 1) 0 M (by omega) (by omega) ⟨fr.rf, he, fun z => z, fun i z => by omega, fun i z => by omega⟩)
  have hsp : ∀ i, i < cl → -1 ≤ sp p M3 i ∧ sp p M3 i < cl := fun i i1 => by
    obtain ⟨q', a1, _⟩ := hC.2.2.1 i i1
    exact (L3.1.2.2.2.1 i i1 q' a1).1
  have C3 := hC.fr L3.1.1
  refine ⟨L3.1.1, L3.1.2.1, ⟨C3.1, C3.2.1, C3.2.2.1, C3.2.2.2, hsp⟩, fun z => ⟨L3.1.2.2.1 z, fun i i1 hh => ?_, fun q q1 q2 q3 => ?_⟩⟩
  · obtain ⟨q, a1, a2, a3, a4⟩ := hC.2.2.1 i i1
    obtain ⟨h1, h2, s, s1, s2⟩ := hh
    rw [Int.toNat_natCast] at s2
    by_cases c : 0 ≤ tA p M 2 q
    · obtain ⟨b1, b2, b3⟩ := L3.2 z i i1 q a1 c
      cases s with
      | zero => exact b2 s2
      | succ s =>
        refine b3 ⟨b1, by omega, s, by omega, ?_⟩
        have s2 : (if sp p M3 i < 0 then -1 else it (sp p M3) s (sp p M3 (sp p M3 i).toNat)) = (i : Int) := s2
        rw [if_neg (by omega)] at s2
        exact s2
    · rw [(L3.1.2.2.2.1 i i1 q a1).2 (by omega)] at s2
      exact it_m1 s _ (by omega) s2
  · obtain ⟨i, i1, i2, i3⟩ := hC.2.2.2 q q1 q2
    obtain ⟨b1, b2, b3⟩ := L3.2 z i i1 q i3 q3
    have m1 := L3.1.2.2.2.2 i i1 q i3 q3 b1
    obtain ⟨o, o1, o2, o3, _⟩ := hC.2.2.1 (sp p M3 i).toNat (by have := hsp i i1; omega)
    exact ⟨o, by rw [m1, o1], o2, o3⟩
/-- where work's first loops change ints -/
def r1 (p : Nat) : Nat → Nat → Prop := fun b j => b = p ∧ (j = 27 ∨ j = 33) ∨ b = p + 35 ∨ b = p + 37 ∨ b = p + 38
theorem r1_W : ∀ b j, r1 p b j → rW p b j := fun b j z => by
  unfold r1 at z
  unfold rW
  omega
/-- work's loop over the tellings -/
def KB (p m : Nat) (M M1 : me_M) (j : Nat) : Prop := fr (r1 p) M M1 ∧ me_i M1 p 33 = 0 ∧ me_i M1 p 27 = (cc (tA p M) j : Int) ∧ (∀ i, i < cc (tA p M) j → ∃ q : Nat, me_i M1 (p + 35) i = (q : Int) ∧ q < j ∧ tA p M 0 q = 0 ∧ me_i M1 (p + 37) q = (i : Int)) ∧ (∀ q, q < j → tA p M 0 q = 0 → ∃ i : Nat, i < cc (tA p M) j ∧ me_i M1 (p + 37) q = (i : Int) ∧ me_i M1 (p + 35) i = (q : Int)) ∧ ∀ q, q < j → me_i M1 (p + 38) (tA p M 1 q).toNat = (q : Int)
theorem cc_mo {B : Nat → Nat → Int} {a : Nat} : ∀ b, a ≤ b → cc B a ≤ cc B b := by
  intro b
  induction b with
  | zero =>
    intro h
    rw [show a = 0 by omega]
    exact Nat.le_refl _
  | succ b ih =>
    intro h
    by_cases c : a = b + 1
    · rw [c]
      exact Nat.le_refl _
    · have := ih (by omega)
      rw [cc]
      omega
theorem wk_38 {Q : me_Q} (H : WB p C n m Φ M) (hd : 1 ≤ d) (HQ : ∀ M2, KB p m M M2 m → me_W (mt_G N X) 331 d 38 [some (.inr (.inl (some p, 29, 0))), some (.inl (m : Int))] [] M2 Q) : ∀ (f j : Nat) (M1 : me_M), m - j < f → j ≤ m → KB p m M M1 j → me_W (mt_G N X) 331 d 38 [some (.inr (.inl (some p, 29, 0))), some (.inl (j : Int))] [] M1 Q := by
  have m7 := H.m7
  have hCC := H.2.1
  intro f
  induction f with
  | zero => intro j M1 z; omega
  | succ f ih =>
    intro j M1 hf hj K
    by_cases cj : j = m
    · exact cj ▸ HQ M1 (cj ▸ K)
    have jm : j < m := by omega
    obtain ⟨k1, k2, k3, k4, k5, k6⟩ := id K
    have b1 := H.fr (k1.mo r1_W)
    have eB : ∀ i a, i < 10 → ∀ M2, fr (r1 p) M M2 → tA p M2 i a = tA p M i a := fun i a _ M2 f2 => f2.i (by unfold r1; omega)
    have m16 : me_i M1 p 16 = (m : Int) := b1.1.2.2.2.1
    obtain ⟨w, w1, w2⟩ := H.hn j jm
    refine b331_38 ?_
    rw [m16, Int.toNat_natCast, show me_i M1 (p + 26) j = (w : Int) from (eB 1 j (by omega) M1 k1).trans w1]
    refine ⟨⟨by omega, by omega⟩, ⟨by omega, by omega⟩, fun z => by omega, fun _ => ⟨by omega, by omega, ?_⟩⟩
    refine ca_V (by omega) (c_332 w2.1 ⟨by omega, by omega⟩) (fun M2 _ g => ?_) nt_E_no
    obtain ⟨f2, v2⟩ := g
    have F2 : fr (r1 p) M M2 := k1.tr (f2.mo fun b a z => by unfold r1; omega)
    have names : ∀ M3, fr (fun b a => b = p ∧ a = 27 ∨ b = p + 35 ∨ b = p + 37) M2 M3 → ∀ q, q < j + 1 → me_i M3 (p + 38) (tA p M 1 q).toNat = (q : Int) := fun M3 f3 q hq => by
      rw [f3.i (by omega)]
      by_cases c : q = j
      · rw [c, w1, Int.toNat_natCast, v2]
      · have := H.t1ne (show q < m by omega) jm c
        have := (H.td (show q < m by omega)).1
        rw [f2.i (by omega)]
        exact k6 q (by omega)
    have s0 : me_i M2 (p + 25) j = tA p M 0 j := eB 0 j (by omega) M2 F2
    have rb : me_r (tA p M 0 j) := me_i_r _ _ _
    have e27 : me_i M2 p 27 = (cc (tA p M) j : Int) := by rw [f2.i (by omega), k3]
    have nxt : ∀ M3, KB p m M M3 (j + 1) → me_W (mt_G N X) 331 d 38 [some (.inr (.inl (some p, 29, 0))), some (.inl ((j : Int) + 1))] [] M3 Q := fun M3 K3 => by
      rw [show (j : Int) + 1 = ((j + 1 : Nat) : Int) by omega]
      exact ih (j + 1) M3 (by omega) (by omega) K3
    rw [s0]
    refine ⟨by omega, by omega, rb, fun z0 => nxt M2 ?_, fun z0 => ⟨by omega, by omega, ?_⟩⟩
    · have ce : cc (tA p M) (j + 1) = cc (tA p M) j := by
        rw [cc, if_neg z0]
        rfl
      refine ⟨F2, by rw [f2.i (by omega), k2], by rw [ce, e27], fun i i1 => ?_, fun q q1 q2 => ?_, names M2 fr.rf⟩
      · obtain ⟨q, a1, a2, a3, a4⟩ := k4 i (by omega)
        exact ⟨q, by rw [f2.i (by omega), a1], by omega, a3, by rw [f2.i (by omega), a4]⟩
      · by_cases c : q = j
        · rw [c] at q2
          exact absurd q2 z0
        · obtain ⟨i, a1, a2, a3⟩ := k5 q (by omega) q2
          exact ⟨i, by omega, by rw [f2.i (by omega), a2], by rw [f2.i (by omega), a3]⟩
    · have ce : cc (tA p M) (j + 1) = cc (tA p M) j + 1 := by rw [cc, if_pos z0]
      have c8 := H.2.2.2.1
      have cm := cc_mo (B := tA p M) (a := j + 1) m jm
      rw [e27]
      intro M3
      have f3 : fr (fun b a => b = p + 37 ∧ a = j) M2 M3 := fr_sI ⟨rfl, rfl⟩
      have v3 : me_i M3 (p + 37) j = (cc (tA p M) j : Int) := by
        show me_i (me_sI _ _ _ _) _ _ = _
        rw [me_i_sI, if_pos ⟨rfl, rfl⟩, me_to ⟨by omega, by omega⟩]
      have e3 : me_i M3 p 27 = (cc (tA p M) j : Int) := by rw [f3.i (by omega), e27]
      rw [e3, Int.toNat_natCast]
      refine ⟨by omega, by omega, ?_⟩
      intro M4
      have f4 : fr (fun b a => b = p + 35 ∧ a = cc (tA p M) j) M3 M4 := fr_sI ⟨rfl, rfl⟩
      have v4 : me_i M4 (p + 35) (cc (tA p M) j) = (j : Int) := by
        show me_i (me_sI _ _ _ _) _ _ = _
        rw [me_i_sI, if_pos ⟨rfl, rfl⟩, me_to ⟨by omega, by omega⟩]
      rw [show me_i M4 p 27 = (cc (tA p M) j : Int) by rw [f4.i (by omega), e3]]
      intro M5
      have f5 : fr (fun b a => b = p ∧ a = 27) M4 M5 := fr_sI ⟨rfl, rfl⟩
      have v5 : me_i M5 p 27 = (cc (tA p M) j : Int) + 1 := by
        show me_i (me_sI _ _ _ _) _ _ = _
        rw [me_i_sI, if_pos ⟨rfl, rfl⟩, me_to ⟨by omega, by omega⟩]
      clear_value M5 M4 M3
      have f25 : fr (fun b a => b = p ∧ a = 27 ∨ b = p + 35 ∧ a = cc (tA p M) j ∨ b = p + 37 ∧ a = j) M2 M5 := ((f3.mo fun b a z => by omega).tr (f4.mo fun b a z => by omega)).tr (f5.mo fun b a z => by omega)
      refine nxt M5 ⟨F2.tr (f25.mo fun b a z => by unfold r1; omega), by rw [f25.i (by omega), f2.i (by omega), k2], by rw [ce, v5]; omega, fun i i1 => ?_, fun q q1 q2 => ?_, names M5 (f25.mo fun b a z => by omega)⟩
      · by_cases c : i = cc (tA p M) j
        · subst c
          exact ⟨j, by rw [f5.i (by omega), v4], by omega, z0, by rw [f5.i (by omega), f4.i (by omega), v3]⟩
        · obtain ⟨q, a1, a2, a3, a4⟩ := k4 i (by omega)
          exact ⟨q, by rw [f25.i (by omega), f2.i (by omega), a1], by omega, a3, by rw [f25.i (by omega), f2.i (by omega), a4]⟩
      · by_cases c : q = j
        · subst c
          exact ⟨cc (tA p M) q, by omega, by rw [f5.i (by omega), f4.i (by omega), v3], by rw [f5.i (by omega), v4]⟩
        · obtain ⟨i, a1, a2, a3⟩ := k5 q (by omega) q2
          exact ⟨i, by omega, by rw [f25.i (by omega), f2.i (by omega), a2], by rw [f25.i (by omega), f2.i (by omega), a3]⟩
/-- work begins -/
theorem wk_7 {Q : me_Q} (H : WB p C n m Φ M) (HQ : ∀ M2, fr (r1 p) M M2 → me_i M2 p 33 = 0 → me_i M2 p 27 = 0 → me_W (mt_G N X) 331 d 38 [some (.inr (.inl (some p, 29, 0))), some (.inl 0)] [] M2 Q) : ∀ (f j : Nat) (M1 : me_M), C - j < f → j ≤ C → fr (r1 p) M M1 → me_i M1 p 33 = 0 → me_W (mt_G N X) 331 d 7 [some (.inr (.inl (some p, 29, 0))), some (.inl (j : Int))] [] M1 Q := by
  have hCC := H.2.1
  intro f
  induction f with
  | zero => intro j M1 z; omega
  | succ f ih =>
    intro j M1 hf hj F1 h33
    have c5 : me_i M1 (p + 7) 5 = (C : Int) := (H.fr (F1.mo r1_W)).1.1
    refine b331_7 ?_
    rw [c5, Int.toNat_natCast]
    refine ⟨⟨by omega, by omega⟩, ⟨by omega, by omega⟩, fun z => ?_, fun z => ⟨by omega, by omega, ?_⟩⟩
    · intro M2
      have f2 : fr (fun b a => b = p ∧ a = 27) M1 M2 := fr_sI ⟨rfl, rfl⟩
      refine HQ M2 (F1.tr (f2.mo fun b a z => by unfold r1; omega)) (by rw [f2.i (by omega), h33]) ?_
      show me_i (me_sI _ _ _ _) _ _ = _
      rw [me_i_sI, if_pos ⟨rfl, rfl⟩]
      rfl
    · intro M2
      have f2 : fr (fun b a => b = p + 38 ∧ a = j) M1 M2 := fr_sI ⟨rfl, rfl⟩
      rw [show (j : Int) + 1 = ((j + 1 : Nat) : Int) by omega]
      exact ih (j + 1) M2 (by omega) (by omega) (F1.tr (f2.mo fun b a z => by unfold r1; omega)) (by rw [f2.i (by omega), h33])
end WC2
