/-! the reference's judge: work begins, workClasses -/
/-- where work changes ints -/
def rW (p : Nat) : Nat → Nat → Prop := fun b j => b = p ∧ (j = 27 ∨ j = 33 ∨ j = 34 ∨ 48 ≤ j ∧ j ≤ 51) ∨ b = p + 23 ∨ b = p + 33 ∨ p + 35 ≤ b ∧ b ≤ p + 39 ∨ p + 41 ≤ b ∧ b ≤ p + 45 ∨ b = p + 13
theorem rJ_W {p : Nat} : ∀ b j, rJ p b j → rW p b j := fun b j z => by
  unfold rJ at z
  unfold rW
  omega
/-- a program that was read, before it is judged -/
def WB (p C n m : Nat) (Φ : Nat → Nat) (M : me_M) : Prop := PF p M 4 Φ C n m ∧ C ≤ 2405 ∧ TX p M ∧ cc (tA p M) m ≤ 8 ∧ mcn (tA p M) m ≤ 192
/-- the classes' numbers -/
def CS0 (p : Nat) (M : me_M) (cl m : Nat) : Prop := me_i M p 27 = (cl : Int) ∧ cl ≤ 8 ∧ (∀ i, i < cl → ∃ q : Nat, me_i M (p + 35) i = (q : Int) ∧ q < m ∧ tA p M 0 q = 0 ∧ me_i M (p + 37) q = (i : Int)) ∧ (∀ q, q < m → tA p M 0 q = 0 → ∃ i : Nat, i < cl ∧ me_i M (p + 37) q = (i : Int) ∧ me_i M (p + 35) i = (q : Int))
section WBT
variable {p C n m cl : Nat} {Φ : Nat → Nat} {M M' : me_M}
theorem PG_frW {u : Nat} (G : PG (nA p M) (tA p M) (tS p M) (tC p M) Φ n m C u) (hu : m ≤ u) (f : fr (rW p) M M') : PG (nA p M') (tA p M') (tS p M') (tC p M') Φ n m C u := by
  have G1 := G.re (A' := fun i j => if i = 9 then nA p M i j else nA p M' i j) (B' := fun i j => if i = 8 then tA p M i j else tA p M' i j) (Nat.le_refl _) (fun i j i1 _ => by
    by_cases c : i = 9
    · exact if_pos c
    · show (if i = 9 then _ else _) = _
      rw [if_neg c]
      exact f.i (by unfold rW; omega)) (fun i j i1 _ _ => by
    by_cases c : i = 8
    · exact if_pos c
    · show (if i = 8 then _ else _) = _
      rw [if_neg c]
      exact f.i (by unfold rW; omega)) (fun z => by omega) (fun z => by omega) (fun k k1 k2 => by omega)
  have G2 := G1.sc (s' := tS p M') (c' := tC p M') fun j _ => ⟨f.i (by unfold rW; omega), f.i (by unfold rW; omega)⟩
  exact (PG.any (fun i j => nA p M i j) (fun i j => tA p M i j)).mp G2
theorem PF_frW {F : Int} (H : PF p M F Φ C n m) (f : fr (rW p) M M') : PF p M' F Φ C n m := by
  obtain ⟨h1, h2, h3, h4, h5, h6, h7, h8⟩ := H
  have k : ∀ i j, i < 5 → kA p M' i j = kA p M i j := fun i j _ => f.i (by unfold rW; omega)
  refine ⟨by rw [f.i (by unfold rW; omega), h1], by rw [f.i (by unfold rW; omega), h2], h3, by rw [f.i (by unfold rW; omega), h4], h5, PG_frW h6 (Nat.le_refl _) f, fun j j1 => ?_, fun i j i1 i2 => ?_⟩
  · have := h7 j j1
    unfold tkc at this ⊢
    rw [k 0 j (by omega), k 1 j (by omega), k 2 j (by omega), k 3 j (by omega), k 4 j (by omega), k 4 (Φ j) (by omega), f.i (by unfold rW; omega)]
    exact this
  · rw [k 4 i (by omega), k 4 j (by omega), k 2 i (by omega), k 2 j (by omega), k 3 i (by omega)]
    exact h8 i j i1 i2
theorem WB.fr (H : WB p C n m Φ M) (f : fr (rW p) M M') : WB p C n m Φ M' := by
  obtain ⟨h1, h2, h3, h4, h5⟩ := H
  have e : ∀ j, tA p M' 0 j = tA p M 0 j := fun j => f.i (by unfold rW; omega)
  exact ⟨PF_frW h1 f, h2, h3.fr f fun j => by unfold rW; omega, by rw [cc_eq (B := tA p M) m fun j _ => e j]; exact h4, by rw [mcn_eq (B := tA p M) m fun j _ => e j]; exact h5⟩
theorem WB.tk (H : WB p C n m Φ M) {k : Nat} (hk : k < C) : tkv p M k := H.1.tkv (by omega) (by have := H.2.1; omega) H.2.2.1 hk
theorem WB.td (H : WB p C n m Φ M) {q : Nat} (hq : q < m) : td (nA p M) (tA p M) (tS p M) (tC p M) Φ n m C q := H.1.2.2.2.2.2.1.2.1 q hq (by omega)
theorem WB.hn (H : WB p C n m Φ M) : ∀ q, q < m → ∃ w : Nat, tA p M 1 q = (w : Int) ∧ tkv p M w := fun q hq => by
  have t := (H.td hq).1
  exact ⟨(tA p M 1 q).toNat, by omega, H.tk (by omega)⟩
theorem WB.m7 (H : WB p C n m Φ M) : m ≤ 2405 := by
  have := H.2.1
  have := H.1.2.2.2.2.1
  omega
theorem WB.ti (H : WB p C n m Φ M) : TI (tA p M) m C := H.1.2.2.2.2.2.1.2.2.2.2.2
/-- a telling's second token -/
theorem WB.t2 (H : WB p C n m Φ M) {q : Nat} (hq : q < m) : tA p M 2 q = -1 ∨ 0 ≤ tA p M 2 q ∧ tA p M 2 q < C := by
  have t := H.ti.1 q hq
  rcases (H.td hq).2.2 with z | z | z | z | z
  · rcases z.2.1 with v | v
    · exact Or.inl v
    · exact Or.inr ⟨v.1, t.2.1⟩
  · exact Or.inr ⟨z.2.1.1, t.2.1⟩
  · exact Or.inr ⟨z.2.1.1, t.2.1⟩
  · exact Or.inr ⟨z.2.1.1, t.2.1⟩
  · exact Or.inr ⟨z.2.1.1, t.2.1⟩
theorem WB.t2ne (H : WB p C n m Φ M) {a b : Nat} (ha : a < m) (hb : b < m) (ab : ¬ a = b) (h0 : 0 ≤ tA p M 2 a) : ¬ tA p M 2 a = tA p M 2 b := fun z => by
  by_cases c : a < b
  · have := H.ti.2 a b c hb
    omega
  · have := H.ti.2 b a (by omega) ha
    omega
theorem WB.t12 (H : WB p C n m Φ M) {a b : Nat} (ha : a < m) (hb : b < m) : ¬ tA p M 1 a = tA p M 2 b := fun z => by
  by_cases c : a < b
  · have := H.ti.2 a b c hb
    have := (H.td ha).1
    omega
  · by_cases c2 : a = b
    · subst c2
      have := H.ti.1 a ha
      omega
    · have := H.ti.2 b a (by omega) ha
      omega
theorem WB.t1ne (H : WB p C n m Φ M) {a b : Nat} (ha : a < m) (hb : b < m) (ab : ¬ a = b) : ¬ tA p M 1 a = tA p M 1 b := fun z => by
  by_cases c : a < b
  · have := H.ti.2 a b c hb
    omega
  · have := H.ti.2 b a (by omega) ha
    omega
end WBT
section WCL
variable {N : Nat} {X : Nat → Int32} {d p C n m cl k c : Nat} {Φ : Nat → Nat} {M M' : me_M}
theorem c_325b (H : WB p C n m Φ M) (hd : 2 ≤ d) (hC : CS0 p M cl m) (hk' : tkv p M k) : me_W (mt_G N X) 325 d 0 [some (.inr (.inl (some p, 29, 0))), some (.inr (.inl (some p, 29, 0))), some (.inl (k : Int)), none] [] M (sx_qI (fun y M' => M' = M ∧ (y = -1 ∨ 0 ≤ y ∧ y < cl)) nt_E) := by
  obtain ⟨c1, c2, c3, _⟩ := hC
  have m7 := H.m7
  refine b325_0 ((cls_2 hd H.2.2.1 H.2.2.1 cl c1 c2 (fun i i1 => ?_) hk' cl 0 (by omega) (by omega)).mono fun o M' _ g => ?_)
  · obtain ⟨q, q1, q2, _⟩ := c3 i i1
    exact ⟨q, q1, by omega, H.hn q q2⟩
  · rcases o with a | _ | x | ⟨q, u⟩ | j <;> first | exact g.elim | skip
    obtain ⟨rfl, g⟩ := g
    refine ⟨rfl, ?_⟩
    rcases g with g | g
    · exact Or.inl g.1
    · exact Or.inr ⟨by omega, g.2.1⟩
/-- where workClasses changes ints -/
def r3 (p m : Nat) (B : Nat → Nat → Int) : Nat → Nat → Prop := fun b j => b = p ∧ (j = 33 ∨ j = 34) ∨ b = p + 36 ∨ b = p + 38 ∧ ∃ d, d < m ∧ B 2 d = (j : Int)
theorem r3_W {B : Nat → Nat → Int} : ∀ b j, r3 p m B b j → rW p b j := fun b j z => by
  unfold rW
  rcases z with z | z | z <;> omega
theorem CS0.fr {B : Nat → Nat → Int} (H : CS0 p M cl m) (f : fr (r3 p m B) M M') : CS0 p M' cl m := by
  obtain ⟨c1, c2, c3, c4⟩ := H
  have e : ∀ b j, (b = p + 25 ∨ b = p + 35 ∨ b = p + 37 ∨ b = p ∧ j = 27) → me_i M' b j = me_i M b j := fun b j z => f.i (fun w => by
    rcases w with w | w | w <;> omega)
  refine ⟨by rw [e _ _ (by omega), c1], c2, fun i i1 => ?_, fun q q1 q2 => ?_⟩
  · obtain ⟨q, a1, a2, a3, a4⟩ := c3 i i1
    exact ⟨q, by rw [e _ _ (by omega), a1], a2, by rw [show tA p M' 0 q = tA p M 0 q from e _ _ (by omega), a3], by rw [e _ _ (by omega), a4]⟩
  · rw [show tA p M' 0 q = tA p M 0 q from e _ _ (by omega)] at q2
    obtain ⟨i, a1, a2, a3⟩ := c4 q q1 q2
    exact ⟨i, a1, by rw [e _ _ (by omega), a2], by rw [e _ _ (by omega), a3]⟩
/-- class i's super -/
def SPO (p : Nat) (M M1 : me_M) (cl i : Nat) : Prop := ∀ q : Nat, me_i M (p + 35) i = (q : Int) → (-1 ≤ sp p M1 i ∧ sp p M1 i < cl) ∧ (tA p M 2 q < 0 → sp p M1 i = -1)
def SPM (p : Nat) (M M1 : me_M) (i : Nat) : Prop := ∀ q : Nat, me_i M (p + 35) i = (q : Int) → 0 ≤ tA p M 2 q → 0 ≤ sp p M1 i → me_i M1 (p + 38) (tA p M 2 q).toNat = me_i M (p + 35) (sp p M1 i).toNat
/-- workClasses' first loop -/
def L1 (p m cl : Nat) (M M1 : me_M) (a b : Nat) : Prop := fr (r3 p m (tA p M)) M M1 ∧ (0 ≤ me_i M1 p 33 ∧ me_i M1 p 33 ≤ 14) ∧ (me_i M1 p 33 = 0 → me_i M p 33 = 0) ∧ (∀ i, i < a → SPO p M M1 cl i) ∧ ∀ i, i < b → SPM p M M1 i
theorem L1.err {M1 M2 : me_M} {a b : Nat} (L : L1 p m cl M M1 a b) (f : fr (fun b j => b = p ∧ (j = 33 ∨ j = 34)) M1 M2) (h : 1 ≤ me_i M2 p 33 ∧ me_i M2 p 33 ≤ 14) : L1 p m cl M M2 a b := by
  obtain ⟨l1, l2, l3, l4, l5⟩ := L
  have e : ∀ i, sp p M2 i = sp p M1 i := fun i => f.i (by omega)
  refine ⟨l1.tr (f.mo fun b j z => Or.inl z), by omega, fun z => by omega, fun i i1 q q1 => ?_, fun i i1 q q1 q2 q3 => ?_⟩
  · rw [e]
    exact l4 i i1 q q1
  · rw [e] at q3 ⊢
    rw [f.i (by omega)]
    exact l5 i i1 q q1 q2 q3
theorem L1.mean (H : WB p C n m Φ M) (hC : CS0 p M cl m) {M1 M2 : me_M} {v : Int} {q w : Nat} (L : L1 p m cl M M1 (c + 1) c) (hc : c < cl) (hq : me_i M (p + 35) c = (q : Int)) (hqm : q < m) (hw : tA p M 2 q = (w : Int)) (f : fr (fun b j => b = p + 38 ∧ j = w) M1 M2) (hv : me_i M2 (p + 38) w = v) (h : 0 ≤ sp p M1 c → v = me_i M (p + 35) (sp p M1 c).toNat) : L1 p m cl M M2 (c + 1) (c + 1) := by
  obtain ⟨l1, l2, l3, l4, l5⟩ := L
  have e : ∀ i, sp p M2 i = sp p M1 i := fun i => f.i (by omega)
  refine ⟨l1.tr (f.mo fun b j z => Or.inr (Or.inr ⟨z.1, q, hqm, by rw [hw, z.2]⟩)), by rw [f.i (by omega)]; exact l2, fun z => l3 (by rw [← z, f.i (by omega)]), fun i i1 q q1 => ?_, fun i i1 q' q1 q2 q3 => ?_⟩
  · rw [e]
    exact l4 i i1 q q1
  · rw [e] at q3 ⊢
    by_cases ci : i = c
    · subst ci
      have : q' = q := by omega
      subst this
      rw [hw, Int.toNat_natCast, hv]
      exact h q3
    · obtain ⟨q2', a1, a2, a3, a4⟩ := hC.2.2.1 i (by omega)
      have eq : q2' = q' := by omega
      subst eq
      have ne : ¬ q2' = q := fun z => by
        obtain ⟨q3', b1, _, _, b4⟩ := hC.2.2.1 c hc
        rw [show q3' = q by omega, ← z, a4] at b4
        omega
      have := H.t2ne a2 hqm ne q2
      rw [f.i (by omega)]
      exact l5 i (by omega) q2' q1 q2 q3
theorem cls1_tail {Q : me_Q} (H : WB p C n m Φ M) (hC : CS0 p M cl m) (hd : 3 ≤ d) {q : Nat} (hc : c < cl) (hq : me_i M (p + 35) c = (q : Int)) (hqm : q < m) (HQ : ∀ M2, L1 p m cl M M2 (c + 1) (c + 1) → me_W (mt_G N X) 333 d 2 [some (.inr (.inl (some p, 29, 0))), some (.inl ((c : Int) + 1)), none] [] M2 Q) {M5 : me_M} (L : L1 p m cl M M5 (c + 1) c) :
    0 ≤ (q : Int) ∧ (q : Int) < ((2408 : Nat) : Int) ∧ ∃ d', d = d' + 1 ∧ me_W (mt_G N X) 325 d' 0 [some (.inr (.inl (some p, 29, 0))), some (.inr (.inl (some p, 29, 0))), some (.inl (me_i M5 (p + 26) q)), none] [] M5 (sx_qI (fun y9 M6 => me_r y9 ∧ me_r (c : Int) ∧ (y9 = (c : Int) → 0 ≤ (q : Int) ∧ (q : Int) < ((2408 : Nat) : Int) ∧ me_r (me_i M6 (p + 27) q) ∧ ((me_i M6 (p + 27) q) < 0 → me_W (mt_G N X) 333 d 2 [some (.inr (.inl (some p, 29, 0))), some (.inl ((c : Int) + 1)), none] [] M6 Q) ∧ (0 ≤ (me_i M6 (p + 27) q) → 0 ≤ (q : Int) ∧ (q : Int) < ((2408 : Nat) : Int) ∧ 0 ≤ (c : Int) ∧ (c : Int) < ((8 : Nat) : Int) ∧ me_r (me_i M6 (p + 36) c) ∧ (0 ≤ (me_i M6 (p + 36) c) → 0 ≤ (c : Int) ∧ (c : Int) < ((8 : Nat) : Int) ∧ 0 ≤ me_i M6 (p + 36) c ∧ me_i M6 (p + 36) c < ((8 : Nat) : Int) ∧ ∃ d', d = d' + 1 ∧ me_W (mt_G N X) 332 d' 0 [some (.inr (.inl (some p, 29, 0))), some (.inl (me_i M6 (p + 27) q)), some (.inl (me_i M6 (p + 35) (me_i M6 (p + 36) c).toNat))] [] M6 (sx_qV (fun M10 => me_W (mt_G N X) 333 d 2 [some (.inr (.inl (some p, 29, 0))), some (.inl ((c : Int) + 1)), none] [] M10 Q) (fun e12 M11 => Q (.inl e12) M11))) ∧ ((me_i M6 (p + 36) c) < 0 → ∃ d', d = d' + 1 ∧ me_W (mt_G N X) 332 d' 0 [some (.inr (.inl (some p, 29, 0))), some (.inl (me_i M6 (p + 27) q)), some (.inl (-1))] [] M6 (sx_qV (fun M13 => me_W (mt_G N X) 333 d 2 [some (.inr (.inl (some p, 29, 0))), some (.inl ((c : Int) + 1)), none] [] M13 Q) (fun e15 M14 => Q (.inl e15) M14))))) ∧ (¬ y9 = (c : Int) → 0 ≤ (q : Int) ∧ (q : Int) < ((2408 : Nat) : Int) ∧ ∃ d', d = d' + 1 ∧ me_W (mt_G N X) 334 d' 0 [some (.inr (.inl (some p, 29, 0))), some (.inl 1), some (.inl (me_i M6 (p + 26) q)), none] [] M6 (sx_qV (fun M16 => 0 ≤ (q : Int) ∧ (q : Int) < ((2408 : Nat) : Int) ∧ me_r (me_i M16 (p + 27) q) ∧ ((me_i M16 (p + 27) q) < 0 → me_W (mt_G N X) 333 d 2 [some (.inr (.inl (some p, 29, 0))), some (.inl ((c : Int) + 1)), none] [] M16 Q) ∧ (0 ≤ (me_i M16 (p + 27) q) → 0 ≤ (q : Int) ∧ (q : Int) < ((2408 : Nat) : Int) ∧ 0 ≤ (c : Int) ∧ (c : Int) < ((8 : Nat) : Int) ∧ me_r (me_i M16 (p + 36) c) ∧ (0 ≤ (me_i M16 (p + 36) c) → 0 ≤ (c : Int) ∧ (c : Int) < ((8 : Nat) : Int) ∧ 0 ≤ me_i M16 (p + 36) c ∧ me_i M16 (p + 36) c < ((8 : Nat) : Int) ∧ ∃ d', d = d' + 1 ∧ me_W (mt_G N X) 332 d' 0 [some (.inr (.inl (some p, 29, 0))), some (.inl (me_i M16 (p + 27) q)), some (.inl (me_i M16 (p + 35) (me_i M16 (p + 36) c).toNat))] [] M16 (sx_qV (fun M19 => me_W (mt_G N X) 333 d 2 [some (.inr (.inl (some p, 29, 0))), some (.inl ((c : Int) + 1)), none] [] M19 Q) (fun e21 M20 => Q (.inl e21) M20))) ∧ ((me_i M16 (p + 36) c) < 0 → ∃ d', d = d' + 1 ∧ me_W (mt_G N X) 332 d' 0 [some (.inr (.inl (some p, 29, 0))), some (.inl (me_i M16 (p + 27) q)), some (.inl (-1))] [] M16 (sx_qV (fun M22 => me_W (mt_G N X) 333 d 2 [some (.inr (.inl (some p, 29, 0))), some (.inl ((c : Int) + 1)), none] [] M22 Q) (fun e24 M23 => Q (.inl e24) M23))))) (fun e18 M17 => Q (.inl e18) M17)))) (fun e8 M7 => Q (.inl e8) M7)) := by
  have m7 := H.m7
  have c8 := hC.2.1
  have hCC := H.2.1
  have base : ∀ M6, L1 p m cl M M6 (c + 1) c → WB p C n m Φ M6 ∧ CS0 p M6 cl m ∧ me_i M6 (p + 26) q = tA p M 1 q ∧ me_i M6 (p + 27) q = tA p M 2 q ∧ ∀ i, me_i M6 (p + 35) i = me_i M (p + 35) i := fun M6 L6 => by
    have e : ∀ b j, (b = p + 26 ∨ b = p + 27 ∨ b = p + 35) → me_i M6 b j = me_i M b j := fun b j z => L6.1.i (fun w => by
      rcases w with w | w | w <;> omega)
    exact ⟨H.fr (L6.1.mo r3_W), hC.fr L6.1, e _ _ (by omega), e _ _ (by omega), fun i => e _ _ (by omega)⟩
  have t2 := H.t2 hqm
  have T2 : ∀ M6, L1 p m cl M M6 (c + 1) c → 0 ≤ (q : Int) ∧ (q : Int) < ((2408 : Nat) : Int) ∧ me_r (me_i M6 (p + 27) q) ∧ ((me_i M6 (p + 27) q) < 0 → me_W (mt_G N X) 333 d 2 [some (.inr (.inl (some p, 29, 0))), some (.inl ((c : Int) + 1)), none] [] M6 Q) ∧ (0 ≤ (me_i M6 (p + 27) q) → 0 ≤ (q : Int) ∧ (q : Int) < ((2408 : Nat) : Int) ∧ 0 ≤ (c : Int) ∧ (c : Int) < ((8 : Nat) : Int) ∧ me_r (me_i M6 (p + 36) c) ∧ (0 ≤ (me_i M6 (p + 36) c) → 0 ≤ (c : Int) ∧ (c : Int) < ((8 : Nat) : Int) ∧ 0 ≤ me_i M6 (p + 36) c ∧ me_i M6 (p + 36) c < ((8 : Nat) : Int) ∧ ∃ d', d = d' + 1 ∧ me_W (mt_G N X) 332 d' 0 [some (.inr (.inl (some p, 29, 0))), some (.inl (me_i M6 (p + 27) q)), some (.inl (me_i M6 (p + 35) (me_i M6 (p + 36) c).toNat))] [] M6 (sx_qV (fun M10 => me_W (mt_G N X) 333 d 2 [some (.inr (.inl (some p, 29, 0))), some (.inl ((c : Int) + 1)), none] [] M10 Q) (fun e12 M11 => Q (.inl e12) M11))) ∧ ((me_i M6 (p + 36) c) < 0 → ∃ d', d = d' + 1 ∧ me_W (mt_G N X) 332 d' 0 [some (.inr (.inl (some p, 29, 0))), some (.inl (me_i M6 (p + 27) q)), some (.inl (-1))] [] M6 (sx_qV (fun M13 => me_W (mt_G N X) 333 d 2 [some (.inr (.inl (some p, 29, 0))), some (.inl ((c : Int) + 1)), none] [] M13 Q) (fun e15 M14 => Q (.inl e15) M14)))) := fun M6 L6 => by
    obtain ⟨b1, b2, b3, b4, b5⟩ := base M6 L6
    have s6 := (L6.2.2.2.1 c (by omega) q hq).1
    have s6' : -1 ≤ me_i M6 (p + 36) c ∧ me_i M6 (p + 36) c < cl := s6
    rw [b4]
    have rt : me_r (tA p M 2 q) := me_i_r _ _ _
    have rs : me_r (me_i M6 (p + 36) c) := me_i_r _ _ _
    refine ⟨by omega, by omega, rt, fun z => HQ M6 ⟨L6.1, L6.2.1, L6.2.2.1, L6.2.2.2.1, fun i i1 q' q1 q2 q3 => ?_⟩, fun z => ⟨by omega, by omega, by omega, by omega, rs, fun z2 => ⟨by omega, by omega, by omega, by omega, ?_⟩, fun z2 => ?_⟩⟩
    · by_cases ci : i = c
      · subst ci
        have : q' = q := by omega
        subst this
        omega
      · exact L6.2.2.2.2 i (by omega) q' q1 q2 q3
    · obtain ⟨w, hw⟩ : ∃ w : Nat, tA p M 2 q = (w : Int) := ⟨(tA p M 2 q).toNat, by omega⟩
      rw [hw, b5]
      refine ca_V (by omega) (c_332 (by omega) (me_i_r _ _ _)) (fun M7 _ g => ?_) nt_E_no
      exact HQ M7 (L6.mean H hC hc hq hqm hw g.1 g.2 fun _ => rfl)
    · obtain ⟨w, hw⟩ : ∃ w : Nat, tA p M 2 q = (w : Int) := ⟨(tA p M 2 q).toNat, by omega⟩
      rw [hw]
      refine ca_V (by omega) (c_332 (by omega) ⟨by omega, by omega⟩) (fun M7 _ g => ?_) nt_E_no
      refine HQ M7 (L6.mean H hC hc hq hqm hw g.1 g.2 fun v => ?_)
      have v : 0 ≤ me_i M6 (p + 36) c := v
      omega
  obtain ⟨b1, b2, b3, b4, b5⟩ := base M5 L
  obtain ⟨w, w1, w2⟩ := b1.hn q hqm
  rw [show me_i M5 (p + 26) q = (w : Int) from w1]
  refine ⟨by omega, by omega, ca_I (by omega) (c_325b b1 (by omega) b2 w2) (fun y9 M6 _ g => ?_) nt_E_no⟩
  obtain ⟨e6, g⟩ := g
  have L6 : L1 p m cl M M6 (c + 1) c := e6 ▸ L
  refine ⟨by rcases g with rfl | g <;> exact ⟨by omega, by omega⟩, ⟨by omega, by omega⟩, fun _ => T2 M6 L6, fun _ => ⟨by omega, by omega, ?_⟩⟩
  rw [show me_i M6 (p + 26) q = (w : Int) by rw [e6]; exact w1]
  refine ca_V (by omega) (c_334 (by omega) (by rw [e6]; exact w2) (by omega) (by omega) L6.2.1) (fun M16 _ g => ?_) nt_E_no
  exact T2 M16 (L6.err g.1 g.2)
/-- the first loop -/
theorem cls1_2 {Q : me_Q} (H : WB p C n m Φ M) (hC : CS0 p M cl m) (hd : 3 ≤ d) (HQ : ∀ M2, L1 p m cl M M2 cl cl → me_W (mt_G N X) 333 d 124 [some (.inr (.inl (some p, 29, 0))), some (.inl 0), none] [] M2 Q) : ∀ (f c : Nat) (M1 : me_M), cl - c < f → c ≤ cl → L1 p m cl M M1 c c → me_W (mt_G N X) 333 d 2 [some (.inr (.inl (some p, 29, 0))), some (.inl (c : Int)), none] [] M1 Q := by
  have m7 := H.m7
  have c8 := hC.2.1
  have hCC := H.2.1
  intro f
  induction f with
  | zero => intro c M1 z; omega
  | succ f ih =>
    intro c M1 hf hc L
    have b1 := H.fr (L.1.mo r3_W)
    have b2 := hC.fr L.1
    refine b333_2 ?_
    rw [b2.1]
    refine ⟨⟨by omega, by omega⟩, ⟨by omega, by omega⟩, fun z => by
      have e : c = cl := by omega
      exact HQ M1 (e ▸ L), fun z => ?_⟩
    obtain ⟨q, q1, q2, q3, q4⟩ := hC.2.2.1 c (by omega)
    have e35 : me_i M1 (p + 35) c = (q : Int) := (L.1.i (fun w => by
      rcases w with w | w | w <;> omega)).trans q1
    have e27 : me_i M1 (p + 27) q = tA p M 2 q := L.1.i (fun w => by
      rcases w with w | w | w <;> omega)
    have rt : me_r (tA p M 2 q) := me_i_r _ _ _
    have t2 := H.t2 q2
    rw [Int.toNat_natCast, e35, Int.toNat_natCast, e27]
    have set : ∀ y4 : Int, (-1 ≤ y4 ∧ y4 < cl) → (tA p M 2 q < 0 → y4 = -1) → L1 p m cl M (me_sI M1 (p + 36) c (Int32.ofInt y4)) (c + 1) c := fun y4 h1 h2 => by
      obtain ⟨l1, l2, l3, l4, l5⟩ := L
      have f5 : fr (fun b j => b = p + 36 ∧ j = c) M1 (me_sI M1 (p + 36) c (Int32.ofInt y4)) := fr_sI ⟨rfl, rfl⟩
      have v : sp p (me_sI M1 (p + 36) c (Int32.ofInt y4)) c = y4 := by
        show me_i (me_sI _ _ _ _) _ _ = _
        rw [me_i_sI, if_pos ⟨rfl, rfl⟩, me_to ⟨by omega, by omega⟩]
      have o : ∀ i, ¬ i = c → sp p (me_sI M1 (p + 36) c (Int32.ofInt y4)) i = sp p M1 i := fun i hi => f5.i (by omega)
      refine ⟨l1.tr (f5.mo fun b j z => Or.inr (Or.inl z.1)), by rw [f5.i (by omega)]; exact l2, fun z => l3 (by rw [← z, f5.i (by omega)]), fun i i1 q' a1 => ?_, fun i i1 q' a1 a2 a3 => ?_⟩
      · by_cases ci : i = c
        · subst ci
          have : q' = q := by omega
          subst this
          rw [v]
          exact ⟨h1, h2⟩
        · rw [o i ci]
          exact l4 i (by omega) q' a1
      · rw [o i (by omega)] at a3 ⊢
        rw [f5.i (by omega)]
        exact l5 i i1 q' a1 a2 a3
    have nxt : ∀ M2, L1 p m cl M M2 (c + 1) (c + 1) → me_W (mt_G N X) 333 d 2 [some (.inr (.inl (some p, 29, 0))), some (.inl ((c : Int) + 1)), none] [] M2 Q := fun M2 L2 => by
      rw [show (c : Int) + 1 = ((c + 1 : Nat) : Int) by omega]
      exact ih (c + 1) M2 (by omega) (by omega) L2
    refine ⟨by omega, by omega, by omega, by omega, rt, fun z2 => ⟨by omega, by omega, ?_⟩, fun z2 => ⟨by omega, by omega, ?_⟩⟩
    · obtain ⟨w, hw⟩ : ∃ w : Nat, tA p M 2 q = (w : Int) := ⟨(tA p M 2 q).toNat, by omega⟩
      rw [hw]
      refine ca_I (by omega) (c_325b b1 (by omega) b2 (b1.tk (by omega))) (fun y4 M2 _ g => ?_) nt_E_no
      obtain ⟨rfl, g⟩ := g
      exact ⟨by omega, by omega, cls1_tail H hC hd (by omega) q1 q2 nxt (set y4 (by omega) (by omega))⟩
    · exact cls1_tail H hC hd (by omega) q1 q2 nxt (set (-1) (by omega) (fun _ => rfl))
end WCL
