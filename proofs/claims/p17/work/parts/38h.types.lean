/-! the reference's judge: told types, errors, meanings -/
/-- the classes' structure -/
def CS (p : Nat) (M : me_M) (cl m : Nat) : Prop := me_i M p 27 = (cl : Int) ∧ cl ≤ 8 ∧ (∀ i, i < cl → ∃ q : Nat, me_i M (p + 35) i = (q : Int) ∧ q < m ∧ tA p M 0 q = 0 ∧ me_i M (p + 37) q = (i : Int)) ∧ (∀ q, q < m → tA p M 0 q = 0 → ∃ i : Nat, i < cl ∧ me_i M (p + 37) q = (i : Int) ∧ me_i M (p + 35) i = (q : Int)) ∧ ∀ i, i < cl → -1 ≤ sp p M i ∧ sp p M i < cl
/-- a told type: of a field, param, local or method -/
def ty_v (cl : Nat) (y : Int) : Prop := y = 0 ∨ y = 1 ∨ y = 3 ∨ 10 ≤ y ∧ y < 10 + cl
section TYO
variable {N : Nat} {X : Nat → Int32} {d p p' k cl m n C o : Nat} {M : me_M} {x1 x2 : Int} {Φ : Nat → Nat}
theorem c_324 (hk : k < 2408) : me_W (mt_G N X) 324 d 0 [some (.inr (.inl (some (p + 7), 31, 0))), some (.inl (k : Int))] [] M (sx_qI (fun y M' => M' = M ∧ y = (if kA p M 1 k = 3 then 0 else if kA p M 1 k = 4 then 1 else 3)) nt_E) := by
  refine b324_0 ?_
  rw [Int.toNat_natCast, show me_i M (p + 7 + 2) k = kA p M 1 k from rfl]
  refine ⟨by omega, by omega, me_i_r _ _ _, ⟨by omega, by omega⟩, fun z => ⟨by omega, by omega, me_i_r _ _ _, ⟨by omega, by omega⟩, fun w => ⟨rfl, ?_⟩, fun w => ⟨rfl, ?_⟩⟩, fun z => ⟨rfl, ?_⟩⟩
  · rw [if_neg z, if_neg w]
  · rw [if_neg z, if_pos w]
  · rw [if_pos z]
/-- classOf, over the classes of p for a token of p' -/
theorem c_325 (hd : 2 ≤ d) (hT : TX p M) (hT' : TX p' M) (hC : CS p M cl m) (hm : m ≤ 2408) (hn : ∀ q, q < m → ∃ w : Nat, tA p M 1 q = (w : Int) ∧ tkv p M w) (hk' : tkv p' M k) : me_W (mt_G N X) 325 d 0 [some (.inr (.inl (some p, 29, 0))), some (.inr (.inl (some p', 29, 0))), some (.inl (k : Int)), none] [] M (sx_qI (fun y M' => M' = M ∧ (y = -1 ∨ 0 ≤ y ∧ y < cl)) nt_E) := by
  obtain ⟨c1, c2, c3, _, _⟩ := hC
  refine b325_0 ((cls_2 hd hT hT' cl c1 c2 (fun i i1 => ?_) hk' cl 0 (by omega) (by omega)).mono fun o M' _ g => ?_)
  · obtain ⟨q, q1, q2, _⟩ := c3 i i1
    exact ⟨q, q1, by omega, hn q q2⟩
  · rcases o with a | _ | x | ⟨q, u⟩ | j <;> first | exact g.elim | skip
    obtain ⟨rfl, g⟩ := g
    refine ⟨rfl, ?_⟩
    rcases g with g | g
    · exact Or.inl g.1
    · exact Or.inr ⟨by omega, g.2.1⟩
theorem c_323 (hd : 3 ≤ d) (hT : TX p M) (hT' : TX p' M) (hC : CS p M cl m) (hm : m ≤ 2408) (hn : ∀ q, q < m → ∃ w : Nat, tA p M 1 q = (w : Int) ∧ tkv p M w) (hk' : tkv p' M k) : me_W (mt_G N X) 323 d 0 [some (.inr (.inl (some p, 29, 0))), some (.inr (.inl (some (p' + 7), 31, 0))), some (.inl (k : Int)), some (.inr (.inl (some p', 29, 0))), none] [] M (sx_qI (fun y M' => M' = M ∧ (kA p' M 0 k = 3 ∧ y = (if kA p' M 1 k = 3 then 0 else if kA p' M 1 k = 4 then 1 else 3) ∨ ¬ kA p' M 0 k = 3 ∧ (y = -5 ∨ 10 ≤ y ∧ y < 10 + cl))) nt_E) := by
  have k1 := hk'.1
  refine b323_0 ?_
  rw [Int.toNat_natCast, show me_i M (p' + 7 + 1) k = kA p' M 0 k from rfl]
  refine ⟨by omega, by omega, me_i_r _ _ _, ⟨by omega, by omega⟩, fun z => ?_, fun z => ?_⟩
  · refine ca_I (by omega) (c_325 (by omega) hT hT' hC hm hn hk') (fun y M1 _ q => ?_) nt_E_no
    obtain ⟨rfl, q⟩ := q
    have c8 := hC.2.1
    exact ⟨⟨by omega, by omega⟩, fun w => ⟨rfl, Or.inr ⟨z, by omega⟩⟩, fun w => ⟨rfl, Or.inr ⟨z, Or.inl rfl⟩⟩⟩
  · refine ca_I (by omega) (c_324 k1) (fun y M1 _ q => ?_) nt_E_no
    obtain ⟨rfl, q⟩ := q
    exact ⟨rfl, Or.inl ⟨z, q⟩⟩
theorem c_337 (hd : 4 ≤ d) (hT : TX p M) (hC : CS p M cl m) (hm : m ≤ 2408) (hn : ∀ q, q < m → ∃ w : Nat, tA p M 1 q = (w : Int) ∧ tkv p M w) (hk' : tkv p M k) : me_W (mt_G N X) 337 d 0 [some (.inr (.inl (some p, 29, 0))), some (.inl (k : Int))] [] M (sx_qI (fun y M' => M' = M ∧ (kA p M 0 k = 3 ∧ y = (if kA p M 1 k = 3 then 0 else if kA p M 1 k = 4 then 1 else 3) ∨ ¬ kA p M 0 k = 3 ∧ (y = -5 ∨ 10 ≤ y ∧ y < 10 + cl))) nt_E) :=
  b337_0 (ca_I (by omega) (c_323 (by omega) hT hT hC hm hn hk') (fun _ _ _ q => q) nt_E_no)
theorem c_332 (hk : k < 2408) (hr : me_r x2) : me_W (mt_G N X) 332 d 0 [some (.inr (.inl (some p, 29, 0))), some (.inl (k : Int)), some (.inl x2)] [] M (sx_qV (fun M' => fr (fun b j => b = p + 38 ∧ j = k) M M' ∧ me_i M' (p + 38) k = x2) nt_E) := by
  refine b332_0 ⟨by omega, by omega, ?_⟩
  rw [Int.toNat_natCast]
  intro M1
  refine ⟨fr_sI ⟨rfl, rfl⟩, ?_⟩
  show me_i (me_sI _ _ _ _) _ _ = _
  rw [me_i_sI, if_pos ⟨rfl, rfl⟩, me_to hr]
/-- errs: an error is told; the least stays -/
theorem c_334 (hd : 1 ≤ d) (hk : tkv p M k) (h1 : 1 ≤ x1) (h2 : x1 ≤ 14) (he : 0 ≤ me_i M p 33 ∧ me_i M p 33 ≤ 14) : me_W (mt_G N X) 334 d 0 [some (.inr (.inl (some p, 29, 0))), some (.inl x1), some (.inl (k : Int)), none] [] M (sx_qV (fun M' => fr (fun b j => b = p ∧ (j = 33 ∨ j = 34)) M M' ∧ 1 ≤ me_i M' p 33 ∧ me_i M' p 33 ≤ 14) nt_E) := by
  obtain ⟨k1, k2, k3, k4, k5⟩ := hk
  have set : ∀ (y : Int), (fun M' => fr (fun b j => b = p ∧ (j = 33 ∨ j = 34)) M M' ∧ 1 ≤ me_i M' p 33 ∧ me_i M' p 33 ≤ 14) (me_sI (me_sI M p 33 (Int32.ofInt x1)) p 34 (Int32.ofInt y)) := fun y => by
    refine ⟨(fr_sI ⟨rfl, Or.inl rfl⟩).tr (fr_sI ⟨rfl, Or.inr rfl⟩), ?_⟩
    rw [me_i_sI, if_neg (by omega), me_i_sI, if_pos ⟨rfl, rfl⟩, me_to ⟨by omega, by omega⟩]
    exact ⟨h1, h2⟩
  refine b334_0 (ca_I hd (c_294 (by omega) (by omega)) (fun y M1 _ q => ?_) nt_E_no)
  obtain ⟨rfl, hy⟩ := q
  have hy : y = 10000 * kA p M1 4 k + kA p M1 2 k := hy
  have e : me_r y := ⟨by omega, by omega⟩
  exact ⟨⟨by omega, by omega⟩, fun _ => set y, fun z => ⟨e, me_i_r _ _ _, fun _ => set y, fun w => ⟨e, me_i_r _ _ _, fun _ => ⟨fr.rf, by omega, by omega⟩, fun _ => ⟨⟨by omega, by omega⟩, ⟨by omega, by omega⟩, fun _ => ⟨fr.rf, by omega, by omega⟩, fun _ => set y⟩⟩⟩⟩
/-- a method overrides another -/
def ovr (p : Nat) (M : me_M) (a b : Nat) : Prop := tA p M 4 a = 0 ∧ tA p M 4 b = 0 ∧ heir (sp p M) (me_i M (p + 37) (tA p M 3 a).toNat) (me_i M (p + 37) (tA p M 3 b).toNat) ∧ sig p M a b
theorem c_352 {a b : Nat} (hd : 3 ≤ d) (hT : TX p M) (hC : CS p M cl m) (hm : m ≤ 2408) (ha : mtd p M a) (hb : mtd p M b) (oa : ∃ q : Nat, tA p M 3 a = (q : Int) ∧ q < m ∧ tA p M 0 q = 0) (ob : ∃ q : Nat, tA p M 3 b = (q : Int) ∧ q < m ∧ tA p M 0 q = 0) : me_W (mt_G N X) 352 d 0 [some (.inr (.inl (some p, 29, 0))), some (.inl (a : Int)), some (.inl (b : Int))] [] M (sx_qI (fun y M' => M' = M ∧ (y = 1 ∧ ovr p M a b ∨ y = 0 ∧ ¬ ovr p M a b)) nt_E) := by
  obtain ⟨c1, c2, c3, c4, c5⟩ := hC
  obtain ⟨qa, a1, a2, a3⟩ := oa
  obtain ⟨qb, b1, b2, b3⟩ := ob
  obtain ⟨ia, a4, a5, _⟩ := c4 qa a2 a3
  obtain ⟨ib, b4, b5, _⟩ := c4 qb b2 b3
  have ha1 := ha.1
  have hb1 := hb.1
  refine b352_0 ?_
  rw [Int.toNat_natCast, Int.toNat_natCast, show me_i M (p + 29) a = tA p M 4 a from rfl, show me_i M (p + 29) b = tA p M 4 b from rfl, show me_i M (p + 28) a = (qa : Int) from a1, show me_i M (p + 28) b = (qb : Int) from b1, Int.toNat_natCast, Int.toNat_natCast, a5, b5]
  refine ⟨by omega, by omega, fun _ => ⟨me_i_r _ _ _, fun z => ⟨by omega, rfl, Or.inr ⟨rfl, fun w => z w.1⟩⟩, fun za => ⟨by omega, by omega, fun _ => ⟨me_i_r _ _ _, fun z => ⟨by omega, rfl, Or.inr ⟨rfl, fun w => z w.2.1⟩⟩, fun zb => ⟨by omega, by omega, by omega, by omega, by omega, by omega, by omega, by omega, ?_⟩⟩⟩⟩⟩
  have eh : heir (sp p M) (me_i M (p + 37) (tA p M 3 a).toNat) (me_i M (p + 37) (tA p M 3 b).toNat) ↔ heir (sp p M) (ia : Int) (ib : Int) := by
    rw [a1, b1, Int.toNat_natCast, Int.toNat_natCast, a5, b5]
  refine ca_I (by omega) (c_335 c5 c2 (by omega) (by omega) ⟨by omega, by omega⟩) (fun y M1 _ q => ?_) nt_E_no
  obtain ⟨rfl, q⟩ := q
  refine ⟨⟨by omega, by omega⟩, fun y0 => ⟨by omega, rfl, Or.inr ⟨rfl, fun w => ?_⟩⟩, fun y0 => ?_⟩
  · rcases q with q | q
    · omega
    · exact q.2 (eh.mp w.2.2.1)
  · have hh : heir (sp p M1) (ia : Int) (ib : Int) := by
      rcases q with q | q
      · exact q.2
      · omega
    refine ca_I (by omega) (c_338 (by omega) hT ha hb) (fun y M2 _ q => ?_) nt_E_no
    obtain ⟨rfl, q⟩ := q
    refine ⟨⟨by omega, by omega⟩, fun y0 => ⟨by omega, rfl, Or.inr ⟨rfl, fun w => ?_⟩⟩, fun y0 => ⟨by omega, rfl, Or.inl ⟨rfl, za, zb, eh.mpr hh, ?_⟩⟩⟩
    · rcases q with q | q
      · omega
      · exact q.2 w.2.2.2
    · rcases q with q | q
      · exact q.2
      · omega
/-- the locals and params that are known: kn of them, told before m -/
def KN (p : Nat) (M : me_M) (m kn : Nat) : Prop := me_i M p 48 = (kn : Int) ∧ kn ≤ 2407 ∧ ∀ i, i < kn → ∃ q : Nat, me_i M (p + 41) i = (q : Int) ∧ q < m ∧ (tA p M 0 q = 3 ∨ tA p M 0 q = 4)
theorem knw_7 {kn : Nat} (hd : 2 ≤ d) (hT : TX p M) (hm : m ≤ 2407) (hn : ∀ q, q < m → ∃ w : Nat, tA p M 1 q = (w : Int) ∧ tkv p M w) (hK : KN p M m kn) (hk : tkv p M k) : ∀ (i : Nat), i ≤ kn → me_W (mt_G N X) 346 d 7 [some (.inr (.inl (some p, 29, 0))), some (.inl (k : Int)), some (.inl ((i : Int) - 1))] [] M (sx_qI (fun y M' => M' = M ∧ (y = -1 ∨ ∃ j q : Nat, j < kn ∧ y = (q : Int) ∧ me_i M (p + 41) j = (q : Int) ∧ q < m ∧ (tA p M 0 q = 3 ∨ tA p M 0 q = 4))) nt_E) := by
  obtain ⟨g1, g2, g3⟩ := hK
  intro i
  induction i with
  | zero =>
    intro _
    exact b346_7 ⟨⟨by omega, by omega⟩, fun _ => ⟨rfl, Or.inl rfl⟩, fun z => by omega⟩
  | succ i ih =>
    intro i1
    obtain ⟨q, q1, q2, q3⟩ := g3 i (by omega)
    obtain ⟨w, w1, w2⟩ := hn q q2
    refine b346_7 ?_
    rw [show (((i + 1 : Nat) : Int) - 1) = (i : Int) by omega, Int.toNat_natCast, q1, Int.toNat_natCast, show me_i M (p + 26) q = (w : Int) from w1]
    refine ⟨⟨by omega, by omega⟩, fun z => by omega, fun _ => ⟨by omega, by omega, by omega, by omega, ?_⟩⟩
    refine ca_I (by omega) (c_326 (by omega) hT hT w2 hk) (fun y M1 _ g => ?_) nt_E_no
    obtain ⟨rfl, g⟩ := g
    refine ⟨⟨by omega, by omega⟩, fun _ => ih (by omega), fun _ => ⟨by omega, by omega, ?_⟩⟩
    rw [q1]
    exact ⟨rfl, Or.inr ⟨i, q, by omega, rfl, q1, q2, q3⟩⟩
theorem c_346 {kn : Nat} (hd : 2 ≤ d) (hT : TX p M) (hm : m ≤ 2407) (hn : ∀ q, q < m → ∃ w : Nat, tA p M 1 q = (w : Int) ∧ tkv p M w) (hK : KN p M m kn) (hk : tkv p M k) : me_W (mt_G N X) 346 d 0 [some (.inr (.inl (some p, 29, 0))), some (.inl (k : Int)), none] [] M (sx_qI (fun y M' => M' = M ∧ (y = -1 ∨ ∃ j q : Nat, j < kn ∧ y = (q : Int) ∧ me_i M (p + 41) j = (q : Int) ∧ q < m ∧ (tA p M 0 q = 3 ∨ tA p M 0 q = 4))) nt_E) := by
  refine b346_0 ?_
  rw [hK.1]
  exact knw_7 hd hT hm hn hK hk kn (Nat.le_refl _)
end TYO
