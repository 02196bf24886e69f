/-! the reference's judge: workMembers -/
/-- where workMembers changes ints -/
def r4 (p m : Nat) (B : Nat → Nat → Int) : Nat → Nat → Prop := fun b j => b = p ∧ (j = 33 ∨ j = 34) ∨ b = p + 33 ∨ b = p + 38 ∧ ∃ d, d < m ∧ ¬ B 0 d = 0 ∧ B 2 d = (j : Int)
theorem r4_W {p m : Nat} {B : Nat → Nat → Int} : ∀ b j, r4 p m B b j → rW p b j := fun b j z => by
  unfold rW
  rcases z with z | z | z <;> omega
section WME
variable {N : Nat} {X : Nat → Int32} {d p C n m cl k c : Nat} {Φ : Nat → Nat} {M M' : me_M}
theorem CS_r4 {B : Nat → Nat → Int} (H : CS p M cl m) (f : fr (r4 p m B) M M') : CS p M' cl m := H.fr f (fun w => by
  rcases w with w | w | w <;> omega) (fun b j z w => by
  rcases w with w | w | w <;> omega)
theorem WB.met (H : WB p C n m Φ M) {q : Nat} (hq : q < m) (hs : tA p M 0 q = 2) : (0 ≤ tA p M 9 q ∧ tA p M 9 q ≤ 8 ∧ (q : Int) + tA p M 9 q < m) ∧ ∀ i : Nat, (i : Int) < tA p M 9 q → tA p M 0 (q + 1 + i) = 3 ∧ tA p M 3 (q + 1 + i) = q := by
  have t := (H.td hq).2.2
  rcases t with z | z | z | z | z
  · omega
  · omega
  · obtain ⟨_, _, _, _, w1, w2, w3, _, w4⟩ := z
    exact ⟨⟨w1, w2, w3⟩, fun i i1 => ⟨(w4 i i1).1, (w4 i i1).2.1⟩⟩
  · omega
  · omega
theorem WB.mtd (H : WB p C n m Φ M) {q : Nat} (hq : q < m) (hs : tA p M 0 q = 2) : mtd p M q := by
  have h := (H.met hq hs).1
  have := H.m7
  exact ⟨by omega, h.1, by omega, H.hn q hq⟩
theorem WB.own (H : WB p C n m Φ M) {q : Nat} (hq : q < m) (hs : tA p M 0 q = 1 ∨ tA p M 0 q = 2) : ∃ o : Nat, tA p M 3 q = (o : Int) ∧ o < m ∧ tA p M 0 o = 0 := by
  have t := (H.td hq).2.2
  have o : oc (tA p M) q := by
    rcases t with z | z | z | z | z
    · omega
    · exact z.2.2.1
    · exact z.2.2.1
    · omega
    · omega
  obtain ⟨h1, h2, h3, _⟩ := o
  exact ⟨(tA p M 3 q).toNat, by omega, by omega, h3⟩
/-- q's told type is worked out -/
def TYC (p cl : Nat) (M M1 : me_M) (q : Nat) : Prop := (tA p M1 8 q = -5 ∧ ¬ me_i M1 p 33 = 0 ∨ ty_v cl (tA p M1 8 q)) ∧ (¬ tA p M 0 q = 2 → ¬ tA p M1 8 q = 3) ∧ (10 ≤ tA p M1 8 q → me_i M1 (p + 38) (tA p M 2 q).toNat = me_i M (p + 35) (tA p M1 8 q - 10).toNat) ∧ (tS p M (tA p M 2 q).toNat = 1 → tA p M1 8 q = -5 ∨ 10 ≤ tA p M1 8 q)
/-- workMembers' first loop -/
def LA1 (p m cl : Nat) (M M1 : me_M) (a : Nat) : Prop := fr (r4 p m (tA p M)) M M1 ∧ (0 ≤ me_i M1 p 33 ∧ me_i M1 p 33 ≤ 14) ∧ (me_i M1 p 33 = 0 → me_i M p 33 = 0) ∧ ∀ q, q < a → ¬ tA p M 0 q = 0 → TYC p cl M M1 q
theorem mem_2 {Q : me_Q} (H : WB p C n m Φ M) (hC : CS p M cl m) (hd : 5 ≤ d) (HQ : ∀ M2, LA1 p m cl M M2 m → me_W (mt_G N X) 336 d 103 [some (.inr (.inl (some p, 29, 0))), some (.inl 0), none] [] M2 Q) : ∀ (f j : Nat) (M1 : me_M), m - j < f → j ≤ m → LA1 p m cl M M1 j → me_W (mt_G N X) 336 d 2 [some (.inr (.inl (some p, 29, 0))), some (.inl (j : Int)), none] [] M1 Q := by
  have m7 := H.m7
  have c8 := hC.2.1
  have hCC := H.2.1
  intro f
  induction f with
  | zero => intro j M1 z; omega
  | succ f ih =>
    intro j M1 hf hj L
    have b1 := H.fr (L.1.mo r4_W)
    have C1 := CS_r4 hC L.1
    have e : ∀ b a, (p + 25 ≤ b ∧ b ≤ p + 32 ∨ b = p + 35) → ∀ M2, fr (r4 p m (tA p M)) M M2 → me_i M2 b a = me_i M b a := fun b a z M2 f2 => f2.i (fun w => by
      rcases w with w | w | w <;> omega)
    refine b336_2 ?_
    rw [b1.1.2.2.2.1, Int.toNat_natCast, show me_i M1 (p + 25) j = tA p M 0 j from e _ _ (by omega) M1 L.1, show me_i M1 (p + 27) j = tA p M 2 j from e _ _ (by omega) M1 L.1]
    have rb : me_r (tA p M 0 j) := me_i_r _ _ _
    have nxt : j < m → ∀ M2, LA1 p m cl M M2 (j + 1) → me_W (mt_G N X) 336 d 2 [some (.inr (.inl (some p, 29, 0))), some (.inl ((j : Int) + 1)), none] [] M2 Q := fun jm0 M2 L2 => by
      rw [show (j : Int) + 1 = ((j + 1 : Nat) : Int) by omega]
      exact ih (j + 1) M2 (by omega) (by omega) L2
    refine ⟨⟨by omega, by omega⟩, ⟨by omega, by omega⟩, fun z => by
      have ej : j = m := by omega
      exact HQ M1 (ej ▸ L), fun z => ⟨by omega, by omega, rb, fun z0 => nxt (by omega) M1 ⟨L.1, L.2.1, L.2.2.1, fun q q1 q2 => ?_⟩, fun z0 => ⟨by omega, by omega, ?_⟩⟩⟩
    · by_cases c : q = j
      · rw [c] at q2
        exact absurd z0 q2
      · exact L.2.2.2 q (by omega) q2
    have jm : j < m := by omega
    have t2 := H.t2 jm
    have td := (H.td jm).2.2
    have h2 : 0 ≤ tA p M 2 j ∧ (¬ tA p M 0 j = 2 → g_ty (tS p M) (tC p M) (tA p M 2 j).toNat) := by
      rcases td with v | v | v | v | v
      · omega
      · exact ⟨v.2.1.1, fun _ => v.2.1.2.2⟩
      · exact ⟨v.2.1.1, fun w => absurd v.1 w⟩
      · exact ⟨v.2.1.1, fun _ => v.2.1.2.2⟩
      · exact ⟨v.2.1.1, fun _ => v.2.1.2.2⟩
    obtain ⟨w, hw⟩ : ∃ w : Nat, tA p M 2 j = (w : Int) := ⟨(tA p M 2 j).toNat, by omega⟩
    have wC : w < C := by omega
    rw [hw]
    refine ca_I (by omega) (c_337 (by omega) b1.2.2.1 C1 (by omega) b1.hn (b1.tk wC)) (fun y4 M2 _ g => ?_) nt_E_no
    obtain ⟨e2, g⟩ := g
    subst e2
    have kk : kA p M2 0 w = tS p M w ∧ kA p M2 1 w = tC p M w := ⟨L.1.i (fun v => by
      rcases v with v | v | v <;> omega), L.1.i (fun v => by
      rcases v with v | v | v <;> omega)⟩
    have gy : (y4 = -5 ∨ ty_v cl y4) ∧ (¬ tA p M 0 j = 2 → ¬ y4 = 3) ∧ (tS p M w = 1 → y4 = -5 ∨ 10 ≤ y4) := by
      unfold ty_v
      rcases g with ⟨g1, g2⟩ | ⟨g1, g2⟩
      · refine ⟨?_, fun v => ?_, fun v => by rw [kk.1] at g1; omega⟩
        · rw [g2]
          split
          · omega
          · split <;> omega
        · have gt := h2.2 v
          rw [hw, Int.toNat_natCast] at gt
          unfold g_ty at gt
          rw [kk.1] at g1
          rw [kk.2] at g2
          rw [g2]
          split
          · omega
          · split
            · omega
            · omega
      · exact ⟨by omega, fun _ => by omega, fun _ => by omega⟩
    refine ⟨by omega, by omega, ?_⟩
    intro M5
    have f5 : fr (fun b a => b = p + 33 ∧ a = j) M2 M5 := fr_sI ⟨rfl, rfl⟩
    have y5 : me_r y4 := by
      have := gy.1
      unfold ty_v at this
      exact ⟨by omega, by omega⟩
    have v5 : me_i M5 (p + 33) j = y4 := by
      show me_i (me_sI _ _ _ _) _ _ = _
      rw [me_i_sI, if_pos ⟨rfl, rfl⟩, me_to y5]
    clear_value M5
    have F5 : fr (r4 p m (tA p M)) M M5 := L.1.tr (f5.mo fun b a z => Or.inr (Or.inl z.1))
    have old : ∀ M6, fr (fun b a => b = p ∧ (a = 33 ∨ a = 34) ∨ b = p + 38 ∧ a = w) M5 M6 → (me_i M6 p 33 = 0 → me_i M2 p 33 = 0) → ∀ q, q < j → ¬ tA p M 0 q = 0 → TYC p cl M M6 q := fun M6 f6 h6 q q1 q2 => by
      obtain ⟨t1, t2, t3, t4⟩ := L.2.2.2 q q1 q2
      have e8 : tA p M6 8 q = tA p M2 8 q := (f6.i (by omega)).trans (f5.i (by omega))
      unfold TYC
      rw [e8]
      refine ⟨t1.imp (fun v => ⟨v.1, fun u => v.2 (h6 u)⟩) id, t2, fun v => ?_, t4⟩
      have nn := H.t2ne (a := j) (b := q) jm (by omega) (by omega) (by omega)
      have tq := H.t2 (show q < m by omega)
      have tq0 : 0 ≤ tA p M 2 q := by
        rcases (H.td (show q < m by omega)).2.2 with v | v | v | v | v
        · omega
        · exact v.2.1.1
        · exact v.2.1.1
        · exact v.2.1.1
        · exact v.2.1.1
      rw [f6.i (by omega), f5.i (by omega)]
      exact t3 v
    have all : ∀ M6, fr (fun b a => b = p ∧ (a = 33 ∨ a = 34) ∨ b = p + 38 ∧ a = w) M5 M6 → (0 ≤ me_i M6 p 33 ∧ me_i M6 p 33 ≤ 14) → (me_i M6 p 33 = 0 → me_i M2 p 33 = 0 ∧ ¬ y4 = -5) → (10 ≤ y4 → me_i M6 (p + 38) w = me_i M (p + 35) (y4 - 10).toNat) → LA1 p m cl M M6 (j + 1) := fun M6 f6 h6 h6' h6m => by
      refine ⟨F5.tr (f6.mo fun b a z => ?_), h6, fun z => L.2.2.1 (h6' z).1, fun q q1 q2 => ?_⟩
      · rcases z with z | z
        · exact Or.inl z
        · exact Or.inr (Or.inr ⟨z.1, j, jm, z0, by rw [hw, z.2]⟩)
      · by_cases c : q = j
        · subst c
          have e8 : tA p M6 8 q = y4 := (f6.i (by omega)).trans v5
          unfold TYC
          rw [e8, hw, Int.toNat_natCast]
          refine ⟨?_, gy.2.1, h6m, gy.2.2⟩
          rcases gy.1 with v | v
          · exact Or.inl ⟨v, fun u => (h6' u).2 v⟩
          · exact Or.inr v
        · exact old M6 f6 (fun z => (h6' z).1) q (by omega) q2
    rw [v5, show me_i M5 (p + 27) j = (w : Int) from (e _ _ (by omega) M5 F5).trans hw]
    have h33 : me_i M5 p 33 = me_i M2 p 33 := f5.i (by omega)
    have gy1 := gy.1
    unfold ty_v at gy1
    refine ⟨by omega, by omega, y5, ⟨by omega, by omega⟩, fun z5 => ⟨by omega, by omega, y5, ⟨by omega, by omega⟩, fun z6 => nxt jm M5 (all M5 fr.rf (by rw [h33]; exact L.2.1) (fun v => ⟨by rw [← h33]; exact v, z5⟩) (fun v => by omega)), fun z6 => ⟨by omega, by omega, by omega, by omega, by omega, by omega, ?_⟩⟩, fun z5 => ⟨by omega, by omega, ?_⟩⟩
    · refine ca_V (by omega) (c_332 (by omega) (me_i_r _ _ _)) (fun M6 _ g => ?_) nt_E_no
      refine nxt jm M6 (all M6 (g.1.mo fun b a z => Or.inr z) (by rw [g.1.i (by omega), h33]; exact L.2.1) (fun v => ⟨by rw [← h33, ← g.1.i (by omega)]; exact v, z5⟩) (fun _ => ?_))
      rw [g.2]
      exact e _ _ (by omega) M5 F5
    · have b5 := H.fr (F5.mo r4_W)
      refine ca_V (by omega) (c_334 (by omega) (b5.tk wC) (by omega) (by omega) (by rw [h33]; exact L.2.1)) (fun M6 _ g => ?_) nt_E_no
      exact nxt jm M6 (all M6 (g.1.mo fun b a z => Or.inl z) (by omega) (fun v => by omega) (fun v => by omega))
/-- only errors -/
def ER (p : Nat) (M M1 : me_M) : Prop := fr (fun b j => b = p ∧ (j = 33 ∨ j = 34)) M M1 ∧ (0 ≤ me_i M1 p 33 ∧ me_i M1 p 33 ≤ 14) ∧ (me_i M1 p 33 = 0 → me_i M p 33 = 0)
theorem ER.W {M1 : me_M} (E : ER p M M1) : fr (rW p) M M1 := E.1.mo fun b j z => by
  unfold rW
  omega
theorem mem_113 {Q : me_Q} (H : WB p C n m Φ M) (hd : 3 ≤ d) {j : Nat} (jm : j < m) (HQ : ∀ M2, ER p M M2 → me_W (mt_G N X) 336 d 103 [some (.inr (.inl (some p, 29, 0))), some (.inl ((j : Int) + 1)), none] [] M2 Q) : ∀ (f i : Nat) (M1 : me_M), j - i < f → i ≤ j → ER p M M1 → me_W (mt_G N X) 336 d 113 [some (.inr (.inl (some p, 29, 0))), some (.inl (j : Int)), some (.inl (i : Int))] [] M1 Q := by
  have m7 := H.m7
  intro f
  induction f with
  | zero => intro i M1 z; omega
  | succ f ih =>
    intro i M1 hf hi E1
    have nxt : i < j → ∀ M2, ER p M M2 → me_W (mt_G N X) 336 d 113 [some (.inr (.inl (some p, 29, 0))), some (.inl (j : Int)), some (.inl ((i : Int) + 1))] [] M2 Q := fun ij M2 E2 => by
      rw [show (i : Int) + 1 = ((i + 1 : Nat) : Int) by omega]
      exact ih (i + 1) M2 (by omega) (by omega) E2
    have base : ∀ M2, ER p M M2 → WB p C n m Φ M2 := fun M2 E2 => H.fr E2.W
    have err : i < j → ∀ M2, ER p M M2 → ∀ K : me_M → Prop, (∀ M3, ER p M M3 → K M3) → ∃ d', d = d' + 1 ∧ me_W (mt_G N X) 334 d' 0 [some (.inr (.inl (some p, 29, 0))), some (.inl 3), some (.inl (me_i M2 (p + 26) j)), none] [] M2 (sx_qV K (fun e7 M6 => Q (.inl e7) M6)) := fun ij M2 E2 K hK => by
      obtain ⟨w, w1, w2⟩ := (base M2 E2).hn j jm
      rw [show me_i M2 (p + 26) j = (w : Int) from w1]
      exact ca_V (by omega) (c_334 (by omega) w2 (by omega) (by omega) E2.2.1) (fun M3 _ g => hK M3 ⟨E2.1.tr g.1, by omega, fun v => by omega⟩) nt_E_no
    have T2 : i < j → ∀ M2, ER p M M2 → 0 ≤ (j : Int) ∧ (j : Int) < ((2408 : Nat) : Int) ∧ me_r (me_i M2 (p + 25) j) ∧ me_r 2 ∧ (¬ (me_i M2 (p + 25) j) = 2 → me_W (mt_G N X) 336 d 113 [some (.inr (.inl (some p, 29, 0))), some (.inl (j : Int)), some (.inl ((i : Int) + 1))] [] M2 Q) ∧ ((me_i M2 (p + 25) j) = 2 → 0 ≤ (i : Int) ∧ (i : Int) < ((2408 : Nat) : Int) ∧ me_r (me_i M2 (p + 25) i) ∧ me_r 2 ∧ (¬ (me_i M2 (p + 25) i) = 2 → me_W (mt_G N X) 336 d 113 [some (.inr (.inl (some p, 29, 0))), some (.inl (j : Int)), some (.inl ((i : Int) + 1))] [] M2 Q) ∧ ((me_i M2 (p + 25) i) = 2 → 0 ≤ (j : Int) ∧ (j : Int) < ((2408 : Nat) : Int) ∧ 0 ≤ (i : Int) ∧ (i : Int) < ((2408 : Nat) : Int) ∧ me_r (me_i M2 (p + 28) j) ∧ me_r (me_i M2 (p + 28) i) ∧ (¬ (me_i M2 (p + 28) j) = (me_i M2 (p + 28) i) → me_W (mt_G N X) 336 d 113 [some (.inr (.inl (some p, 29, 0))), some (.inl (j : Int)), some (.inl ((i : Int) + 1))] [] M2 Q) ∧ ((me_i M2 (p + 28) j) = (me_i M2 (p + 28) i) → ∃ d', d = d' + 1 ∧ me_W (mt_G N X) 338 d' 0 [some (.inr (.inl (some p, 29, 0))), some (.inl (j : Int)), some (.inl (i : Int)), none, none, none] [] M2 (sx_qI (fun y4 M31 => me_r y4 ∧ (y4 = 0 → me_W (mt_G N X) 336 d 113 [some (.inr (.inl (some p, 29, 0))), some (.inl (j : Int)), some (.inl ((i : Int) + 1))] [] M31 Q) ∧ (¬ y4 = 0 → 0 ≤ (j : Int) ∧ (j : Int) < ((2408 : Nat) : Int) ∧ ∃ d', d = d' + 1 ∧ me_W (mt_G N X) 334 d' 0 [some (.inr (.inl (some p, 29, 0))), some (.inl 3), some (.inl (me_i M31 (p + 26) j)), none] [] M31 (sx_qV (fun M5 => me_W (mt_G N X) 336 d 113 [some (.inr (.inl (some p, 29, 0))), some (.inl (j : Int)), some (.inl ((i : Int) + 1))] [] M5 Q) (fun e7 M6 => Q (.inl e7) M6)))) (fun e3 M2 => Q (.inl e3) M2))))) := fun ij M2 E2 => by
      have b2 := base M2 E2
      have r1 : me_r (me_i M2 (p + 25) j) := me_i_r _ _ _
      have r2 : me_r (me_i M2 (p + 25) i) := me_i_r _ _ _
      refine ⟨by omega, by omega, r1, ⟨by omega, by omega⟩, fun _ => nxt ij M2 E2, fun z1 => ⟨by omega, by omega, r2, ⟨by omega, by omega⟩, fun _ => nxt ij M2 E2, fun z2 => ⟨by omega, by omega, by omega, by omega, me_i_r _ _ _, me_i_r _ _ _, fun _ => nxt ij M2 E2, fun _ => ?_⟩⟩⟩
      refine ca_I (by omega) (c_338 (by omega) b2.2.2.1 (b2.mtd jm z1) (b2.mtd (show i < m by omega) z2)) (fun y4 M3 _ g => ?_) nt_E_no
      obtain ⟨e3, g⟩ := g
      have E3 : ER p M M3 := e3 ▸ E2
      exact ⟨by rcases g with g | g <;> rw [g.1] <;> exact ⟨by omega, by omega⟩, fun _ => nxt ij M3 E3, fun _ => ⟨by omega, by omega, err ij M3 E3 _ (nxt ij)⟩⟩
    refine b336_113 ?_
    rw [Int.toNat_natCast, Int.toNat_natCast]
    refine ⟨⟨by omega, by omega⟩, ⟨by omega, by omega⟩, fun z => ?_, fun z => ?_⟩
    · exact HQ M1 E1
    have ij : i < j := by omega
    have b1 := base M1 E1
    have r1 : me_r (me_i M1 (p + 25) j) := me_i_r _ _ _
    have r2 : me_r (me_i M1 (p + 25) i) := me_i_r _ _ _
    refine ⟨by omega, by omega, r1, ⟨by omega, by omega⟩, fun _ => T2 ij M1 E1, fun z1 => ⟨by omega, by omega, r2, ⟨by omega, by omega⟩, fun _ => T2 ij M1 E1, fun z2 => ⟨by omega, by omega, by omega, by omega, me_i_r _ _ _, me_i_r _ _ _, fun _ => T2 ij M1 E1, fun _ => ⟨by omega, by omega, by omega, by omega, ?_⟩⟩⟩⟩
    obtain ⟨w, w1, w2⟩ := b1.hn j jm
    obtain ⟨v, v1, v2⟩ := b1.hn i (by omega)
    rw [show me_i M1 (p + 26) j = (w : Int) from w1, show me_i M1 (p + 26) i = (v : Int) from v1]
    refine ca_I (by omega) (c_326 (by omega) b1.2.2.1 b1.2.2.1 w2 v2) (fun y M2 _ g => ?_) nt_E_no
    obtain ⟨e2, g⟩ := g
    have E2 : ER p M M2 := e2 ▸ E1
    exact ⟨by rcases g with g | g <;> rw [g.1] <;> exact ⟨by omega, by omega⟩, fun _ => T2 ij M2 E2, fun _ => ⟨by omega, by omega, err ij M2 E2 _ (T2 ij)⟩⟩
theorem mem_103 {Q : me_Q} (H : WB p C n m Φ M) (hd : 3 ≤ d) (HQ : ∀ M2, ER p M M2 → me_W (mt_G N X) 336 d 253 [some (.inr (.inl (some p, 29, 0))), some (.inl 0), none] [] M2 Q) : ∀ (f j : Nat) (M1 : me_M), m - j < f → j ≤ m → ER p M M1 → me_W (mt_G N X) 336 d 103 [some (.inr (.inl (some p, 29, 0))), some (.inl (j : Int)), none] [] M1 Q := by
  have m7 := H.m7
  intro f
  induction f with
  | zero => intro j M1 z; omega
  | succ f ih =>
    intro j M1 hf hj E1
    refine b336_103 ?_
    rw [(H.fr E1.W).1.2.2.2.1]
    refine ⟨⟨by omega, by omega⟩, ⟨by omega, by omega⟩, fun _ => HQ M1 E1, fun z => ?_⟩
    refine mem_113 H hd (show j < m by omega) (fun M2 E2 => ?_) (j + 1) 0 M1 (by omega) (by omega) E1
    rw [show (j : Int) + 1 = ((j + 1 : Nat) : Int) by omega]
    exact ih (j + 1) M2 (by omega) (by omega) E2
end WME
