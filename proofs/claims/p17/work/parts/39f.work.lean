/-! the reference's judge: work -/
/-- where what is behind workMembers changes ints -/
def rG (p : Nat) : Nat → Nat → Prop := fun b j => rJ p b j ∨ b = p + 39 ∨ b = p + 44 ∨ b = p + 45
/-- a program that was judged without errors; Mb: when its members were worked out -/
def GOOD (p C n m cl : Nat) (Φ : Nat → Nat) (Mb M : me_M) : Prop := fr (rG p) Mb M ∧ JS p C n m cl Φ Mb ∧ (∀ k, k < n → AL p Mb m M k) ∧ (∀ a b, a < m → b < m → OVP p Mb a b) ∧ (∀ q, q < m → me_i M (p + 38) (tA p Mb 1 q).toNat = (q : Int) ∧ (0 ≤ tA p Mb 2 q → tS p Mb (tA p Mb 2 q).toNat = 1 → ∃ o : Nat, me_i M (p + 38) (tA p Mb 2 q).toNat = (o : Int) ∧ o < m ∧ tA p Mb 0 o = 0)) ∧ ∀ i, i < cl → FSL p m Mb M i
section WORK
variable {N : Nat} {X : Nat → Int32} {d p C n m cl k c : Nat} {Φ : Nat → Nat} {M M' : me_M}
theorem r4_J {B : Nat → Nat → Int} (H : WB p C n m Φ M) {q : Nat} (hq : q < m) (f : fr (r4 p m (tA p M)) M M') : me_i M' (p + 38) (tA p M 1 q).toNat = me_i M (p + 38) (tA p M 1 q).toNat := f.i (fun w => by
  rcases w with w | w | ⟨_, d, d1, _, d2⟩
  · omega
  · omega
  · have := (H.td hq).1
    exact H.t12 hq d1 (by omega))
/-- no node is named by a telling's token -/
theorem WB.nn (H : WB p C n m Φ M) {q k : Nat} (hq : q < m) (hk : k < n) {t : Nat} (ht : tA p M 1 q = (t : Int) ∨ tA p M 2 q = (t : Int)) : ¬ nA p M 4 k = (t : Int) := fun z => by
  have NN := H.1.2.2.2.2.2.1.2.2.2.2.1
  rcases NN.1 k (Nat.zero_le _) hk with v | ⟨v1, v2, v3⟩
  · omega
  · rw [z, Int.toNat_natCast] at v3
    exact v3 ⟨q, Nat.zero_le _, hq, ht⟩
theorem c_331 (H : WB p C n m Φ M) (hcl : cc (tA p M) m = cl) (hd : 1850 ≤ d) : me_W (mt_G N X) 331 d 0 [some (.inr (.inl (some p, 29, 0))), none] [] M (sx_qI (fun y M' => fr (rW p) M M' ∧ y = me_i M' p 33 ∧ (0 ≤ y ∧ y ≤ 14) ∧ (y = 0 → ∃ Mb, GOOD p C n m cl Φ Mb M' ∧ fr (rW p) M Mb)) nt_E) := by
  have hCC := H.2.1
  have c8 := H.2.2.2.1
  have m7 := H.m7
  refine b331_0 ?_
  intro M1
  have f1 : fr (r1 p) M M1 := fr_sI (Or.inl ⟨rfl, Or.inr rfl⟩)
  have v1 : me_i M1 p 33 = 0 := by
    show me_i (me_sI _ _ _ _) _ _ = _
    rw [me_i_sI, if_pos ⟨rfl, rfl⟩]
    rfl
  clear_value M1
  refine wk_7 H (fun M2 f2 h33 h27 => ?_) (C + 1) 0 M1 (by omega) (by omega) f1 v1
  refine wk_38 H (by omega) (fun M3 K => ?_) (m + 1) 0 M2 (by omega) (by omega) ⟨f2, h33, h27, fun i z => ?_, fun q z => by omega, fun q z => by omega⟩
  rotate_left
  · have : cc (tA p M) 0 = 0 := rfl
    omega
  obtain ⟨k1, k2, k3, k4, k5, k6⟩ := K
  rw [hcl] at k3 k4 k5
  have W3 := H.fr (k1.mo r1_W)
  have eB3 : ∀ i a, i < 10 → tA p M3 i a = tA p M i a := fun i a _ => k1.i (by unfold r1; omega)
  have S3 : CS0 p M3 cl m := ⟨k3, by omega, fun i i1 => by
    obtain ⟨q, a1, a2, a3, a4⟩ := k4 i i1
    exact ⟨q, a1, a2, (eB3 0 q (by omega)).trans a3, a4⟩, fun q q1 q2 => k5 q q1 ((eB3 0 q (by omega)).symm.trans q2)⟩
  refine b331_38 ?_
  rw [W3.1.2.2.2.1]
  refine ⟨⟨by omega, by omega⟩, ⟨by omega, by omega⟩, fun _ => ?_, fun z => by omega⟩
  refine ca_V (by omega) (c_333 W3 S3 (by omega) (by omega)) (fun M4 _ g => ?_) nt_E_no
  obtain ⟨f4, r4', C4, g4⟩ := g
  have W4 := W3.fr (f4.mo r3_W)
  have F4 : fr (rW p) M M4 := (k1.mo r1_W).tr (f4.mo r3_W)
  have rr : ∀ M', me_r (me_i M' p 33) := fun M' => me_i_r _ _ _
  have bad : ∀ M', fr (rW p) M M' → (0 ≤ me_i M' p 33 ∧ me_i M' p 33 ≤ 14) → ¬ me_i M' p 33 = 0 → sx_qI (fun y M' => fr (rW p) M M' ∧ y = me_i M' p 33 ∧ (0 ≤ y ∧ y ≤ 14) ∧ (y = 0 → ∃ Mb, GOOD p C n m cl Φ Mb M' ∧ fr (rW p) M Mb)) nt_E (.inr (some (.inl (me_i M' p 33)))) M' := fun M' f r z => ⟨f, rfl, r, fun w => absurd w z⟩
  refine ⟨rr M4, fun z => ⟨rr M4, fun _ => ⟨rr M4, fun _ => bad M4 F4 r4' z, fun w => absurd w z⟩, fun w => absurd w z⟩, fun z4 => ?_⟩
  obtain ⟨_, ac, n4⟩ := g4 z4
  refine ca_V (by omega) (c_336 W4 C4 (by omega) r4') (fun M5 _ g => ?_) nt_E_no
  obtain ⟨f5, r5', g5⟩ := g
  have F5 : fr (rW p) M M5 := F4.tr (f5.mo r4_W)
  refine ⟨rr M5, fun z => ⟨rr M5, fun _ => bad M5 F5 r5' z, fun w => absurd w z⟩, fun z5 => ?_⟩
  obtain ⟨_, ty, ov⟩ := g5 z5
  have W5 := W4.fr (f5.mo r4_W)
  have C5 := CS_r4 C4 f5
  have e0 : ∀ q, tA p M5 0 q = tA p M4 0 q := fun q => f5.i (fun w => by
    rcases w with w | w | w <;> omega)
  have e1 : ∀ i q, (i = 1 ∨ i = 2) → tA p M5 i q = tA p M4 i q := fun i q _ => f5.i (fun w => by
    rcases w with w | w | w <;> omega)
  have es : sp p M5 = sp p M4 := by
    funext i
    exact f5.i (fun w => by
      rcases w with w | w | w <;> omega)
  have e41 : ∀ i q, (i = 0 ∨ i = 1 ∨ i = 2) → tA p M4 i q = tA p M3 i q := fun i q _ => f4.i (fun w => by
    rcases w with w | w | w <;> omega)
  have J5 : JS p C n m cl Φ M5 := ⟨W5.1, hCC, W5.2.2.1, C5, by rw [es]; exact ac, fun q q1 q2 => by
    rw [e0] at q2 ⊢
    exact (ty q q1 q2).1, W5.2.2.2.2⟩
  refine ca_V (by omega) (c_340 J5 (by omega) r5') (fun M6 _ g => ?_) nt_E_no
  obtain ⟨f6, r6', g6, o6⟩ := g
  have F6 : fr (rW p) M M6 := F5.tr (f6.mo rJ_W)
  refine ⟨rr M6, fun z => bad M6 F6 r6' z, fun z6 => ?_⟩
  obtain ⟨_, al⟩ := g6 z6
  have W6 := W5.fr (f6.mo rJ_W)
  have C6 : CS p M6 cl m := C5.fr f6 (by unfold rJ; omega) (fun b j z => by unfold rJ; omega)
  refine ca_V (by omega) (c_361 W6 C6 (by omega)) (fun M7 _ g => ?_) nt_E_no
  obtain ⟨f7, fs⟩ := g
  have z7 : me_i M7 p 33 = 0 := (f7.i (by omega)).trans z6
  have F7 : fr (rW p) M M7 := F6.tr (f7.mo fun b j z => by unfold rW; omega)
  refine ⟨F7, rfl, by omega, fun _ => ⟨M5, ⟨(f6.mo fun b j z => Or.inl z).tr (f7.mo fun b j z => Or.inr z), J5, fun k k1 => ?_, ov, fun q q1 => ⟨?_, fun q2 q3 => ?_⟩, fun i i1 q q1 => ?_⟩, F5⟩⟩
  · have a2 := (J5.pg k1).1
    have E := (J5.eb (h := (nA p M5 10 k).toNat) (by omega) a2.2.2).1
    refine ⟨nt_fr E k1 f7 (fun j _ _ => by omega) (fun _ => by omega) (al k k1).1, fun z1 z2 => ?_⟩
    rw [show nA p M7 9 k = nA p M6 9 k from f7.i (by omega)]
    exact (al k k1).2 z1 z2
  · -- its own name
    obtain ⟨w, w1, w2⟩ := W5.hn q q1
    rw [w1, Int.toNat_natCast, f7.i (by omega), o6 w fun k k1 => W5.nn q1 k1 (Or.inl w1)]
    rw [e1 1 q (by omega)] at w1
    rw [show me_i M5 (p + 38) w = me_i M4 (p + 38) w from f5.i (fun v => by
      rcases v with v | v | ⟨_, d, d1, _, d2⟩
      · omega
      · omega
      · exact W4.t12 q1 d1 (by omega))]
    rw [e41 1 q (by omega)] at w1
    rw [show me_i M4 (p + 38) w = me_i M3 (p + 38) w from f4.i (fun v => by
      rcases v with v | v | ⟨_, d, d1, d2⟩
      · omega
      · omega
      · exact W3.t12 q1 d1 (by omega))]
    rw [eB3 1 q (by omega)] at w1
    have := k6 q q1
    rw [w1, Int.toNat_natCast] at this
    exact this
  · obtain ⟨w, w1⟩ : ∃ w : Nat, tA p M5 2 q = (w : Int) := ⟨(tA p M5 2 q).toNat, by omega⟩
    rw [w1, Int.toNat_natCast] at q3
    rw [w1, Int.toNat_natCast, f7.i (by omega), o6 w fun k k1 => W5.nn q1 k1 (Or.inr w1)]
    rw [e1 2 q (by omega)] at w1
    by_cases c0 : tA p M4 0 q = 0
    · have c03 : tA p M3 0 q = 0 := (e41 0 q (by omega)).symm.trans c0
      have w13 := (e41 2 q (by omega)).symm.trans w1
      obtain ⟨o, o1, o2, o3⟩ := n4 q q1 c03 (by omega)
      rw [w13, Int.toNat_natCast] at o1
      refine ⟨o, ?_, o2, (e0 o).trans ((e41 0 o (by omega)).trans o3)⟩
      rw [← o1]
      exact f5.i (fun v => by
        rcases v with v | v | ⟨_, d, d1, d0, d2⟩
        · omega
        · omega
        · by_cases e : d = q
          · rw [e] at d0
            exact d0 c0
          · exact W4.t2ne d1 q1 e (by omega) (by omega))
    · obtain ⟨t1, t2, t3⟩ := ty q q1 c0
      have kS : tS p M5 w = tS p M4 w := f5.i (fun v => by
        rcases v with v | v | v <;> omega)
      have t10 := t3 (by rw [w1, Int.toNat_natCast, ← kS]; exact q3)
      have tv := t1.1
      unfold ty_v at tv
      obtain ⟨o, o1, o2, o3, _⟩ := C4.2.2.1 (tA p M5 8 q - 10).toNat (by omega)
      refine ⟨o, ?_, o2, (e0 o).trans o3⟩
      have := t2 t10
      rw [w1, Int.toNat_natCast, o1] at this
      exact this
  · have q1' : me_i M6 (p + 35) i = (q : Int) := (f6.i (by unfold rJ; omega)).trans q1
    have eB6 : ∀ i a, i < 10 → tA p M6 i a = tA p M5 i a := fun i a _ => f6.i (by unfold rJ; omega)
    have fe : ∀ D, fcn (tA p M6) q D = fcn (tA p M5) q D := fun D => fcn_eq D fun i j i1 _ => eB6 i j (by omega)
    obtain ⟨b1, b2⟩ := fs i i1 q q1'
    rw [fe] at b1
    refine ⟨b1, fun a a1 a2 a3 => ?_⟩
    rw [← fe]
    exact b2 a a1 ((eB6 0 a (by omega)).trans a2) ((eB6 3 a (by omega)).trans a3)
end WORK
