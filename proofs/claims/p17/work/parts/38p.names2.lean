/-! the reference's judge: names, classes in front, needs -/
/-- behind an exp whose type y isn't put down yet -/
def EQ (p : Nat) (Mb : me_M) (m cl h hc lo e : Nat) (M : me_M) (y : Int) (M' : me_M) : Prop := fr (rX p (nA p Mb) lo e) M M' ∧ (0 ≤ me_i M' p 33 ∧ me_i M' p 33 ≤ 14) ∧ ty_x cl y ∧ (me_i M' p 33 = 0 → me_i M p 33 = 0 ∧ ¬ y = -5 ∧ WR p Mb h hc m M' lo e ∧ wt p Mb h hc m M' e y)
section NMS
variable {N : Nat} {X : Nat → Int32} {d p C n m cl h hc kn lo e x k : Nat} {Φ : Nat → Nat} {Mb M M' : me_M} {y : Int}
theorem EB.n7 (E : EB p C n m cl Φ Mb h hc) : n ≤ 2405 := by
  have := E.1.2.1
  have := E.1.1.2.2.1
  omega
/-- a node's name -/
theorem EB.nm (E : EB p C n m cl Φ Mb h hc) (hk : k < n) (ho : nA p Mb 0 k = 7 ∨ nA p Mb 0 k = 8 ∨ nA p Mb 0 k = 9 ∨ nA p Mb 0 k = 11 ∨ nA p Mb 0 k = 12) : ∃ w : Nat, nA p Mb 4 k = (w : Int) ∧ w < C := by
  have z := (E.1.G k hk).2.1
  unfold nmk at z
  exact ⟨(nA p Mb 4 k).toNat, by omega, by omega⟩
/-- two nodes have not one name -/
theorem EB.ne (E : EB p C n m cl Φ Mb h hc) {a b : Nat} (ha : a < n) (hb : b < n) (ab : ¬ a = b) (h0 : 0 ≤ nA p Mb 4 a) : ¬ nA p Mb 4 a = nA p Mb 4 b := fun z => by
  have NN := E.1.1.2.2.2.2.2.1.2.2.2.2.1
  by_cases c : a < b
  · have := NN.2 a b (Nat.zero_le _) c hb z
    omega
  · have := NN.2 b a (Nat.zero_le _) (by omega) ha z.symm
    omega
theorem EB.tk (E : EB p C n m cl Φ Mb h hc) (S : ES p Mb h hc m kn lo e M) {w : Nat} (hw : w < C) : tkv p M w := (S.js E).tk hw
/-- well typed stays well typed -/
theorem wt_fr {P : Nat → Nat → Prop} (E : EB p C n m cl Φ Mb h hc) (hk : k < n) (f : fr P M M') (h1 : ∀ j : Nat, j < k → nA p Mb 8 j = k → ¬ P (p + 23) j) (h2 : 0 ≤ nA p Mb 4 k → ¬ P (p + 38) (nA p Mb 4 k).toNat) (H : wt p Mb h hc m M k y) : wt p Mb h hc m M' k y := WT.eq E.1.G hk H (fun j j1 j2 => f.i (h1 j j1 j2)) (fun z => f.i (h2 z))
theorem wt_before {lo2 e2 : Nat} (E : EB p C n m cl Φ Mb h hc) (hk : k < lo2) (h2 : lo2 ≤ e2) (he : e2 < n) (f : fr (rX p (nA p Mb) lo2 e2) M M') (H : wt p Mb h hc m M k y) : wt p Mb h hc m M' k y := by
  refine wt_fr E (by omega) f (fun j j1 _ z => ?_) (fun z w => ?_) H
  · rcases z with z | z | ⟨z, _⟩ | z | z <;> omega
  · rcases w with w | w | ⟨_, i, i1, i2, i3⟩ | w | w
    · omega
    · omega
    · exact E.ne (a := k) (b := i) (by omega) (by omega) (by omega) z (by omega)
    · omega
    · omega
theorem WR.keep {lo2 e2 hi : Nat} (E : EB p C n m cl Φ Mb h hc) (H : WR p Mb h hc m M lo hi) (h1 : hi ≤ lo2) (h2 : lo2 ≤ e2) (he : e2 < n) (f : fr (rX p (nA p Mb) lo2 e2) M M') : WR p Mb h hc m M' lo hi := fun k k1 k2 => by
  rw [show nA p M' 9 k = nA p M 9 k from f.i (fun z => by
    rcases z with z | z | ⟨z, _⟩ | z | z <;> omega)]
  exact wt_before E (by omega) h2 he f (H k k1 k2)
theorem WR.app {mid hi : Nat} (H : WR p Mb h hc m M lo mid) (H' : WR p Mb h hc m M mid hi) : WR p Mb h hc m M lo hi := fun k k1 k2 => by
  by_cases c : k < mid
  · exact H k k1 c
  · exact H' k (by omega) k2
theorem EB.first (E : EB p C n m cl Φ Mb h hc) (hk : k < n) : ∃ w : Nat, nA p Mb 5 k = (w : Int) ∧ w < C := by
  have z := (E.1.G k hk).2.2.1
  exact ⟨(nA p Mb 5 k).toNat, by omega, by omega⟩
/-- a telling's told type -/
theorem EB.ty (E : EB p C n m cl Φ Mb h hc) {q : Nat} (hq : q < m) (h0 : ¬ tA p Mb 0 q = 0) : ty_x cl (tA p Mb 8 q) ∧ ¬ tA p Mb 8 q = -5 := by
  have z := (E.1.2.2.2.2.2.1 q hq h0).1
  refine ⟨z.x, ?_⟩
  unfold ty_v at z
  omega
/-- errs, at the end -/
theorem er_end {P : Nat → Nat → Prop} {x1 : Int} {w : Nat} (hd : 1 ≤ d) (E : EB p C n m cl Φ Mb h hc) (S : ES p Mb h hc m kn lo e M) (hw : w < C) (h1 : 1 ≤ x1) (h2 : x1 ≤ 14) {M0 : me_M} (f : fr P M0 M) (hP : ∀ b j, P b j → rX p (nA p Mb) lo e b j) : me_W (mt_G N X) 334 d 0 [some (.inr (.inl (some p, 29, 0))), some (.inl x1), some (.inl (w : Int)), none] [] M (sx_qV (fun M' => fr (rX p (nA p Mb) lo e) M0 M' ∧ 1 ≤ me_i M' p 33 ∧ me_i M' p 33 ≤ 14) nt_E) := by
  refine (c_334 hd (E.tk S hw) h1 h2 S.2.2.1).mono fun o M' _ g => ?_
  rcases o with a | _ | x | ⟨q, u⟩ | j <;> first | exact g.elim | skip
  exact ⟨(f.mo hP).tr (g.1.mo rX_e), g.2⟩
/-- classInFront -/
theorem c_355 (E : EB p C n m cl Φ Mb h hc) (S : ES p Mb h hc m kn lo e M) (hx : x < n) (hd : 3 ≤ d) : me_W (mt_G N X) 355 d 0 [some (.inr (.inl (some p, 29, 0))), some (.inl (x : Int))] [] M (sx_qI (fun y M' => M' = M ∧ (y = -1 ∨ 0 ≤ y ∧ y < cl ∧ nA p Mb 0 x = 7)) nt_E) := by
  have n7 := E.n7
  have J := S.js E
  have m7 := J.m7
  have a0 : me_i M (p + 14) x = nA p Mb 0 x := S.A 0 x (by omega) (by omega)
  have a4 : me_i M (p + 18) x = nA p Mb 4 x := S.A 4 x (by omega) (by omega)
  have s2 := J.2.2.2.1.2.1
  have hcl := E.2.2
  refine b355_0 ?_
  rw [Int.toNat_natCast, a0, a4]
  refine ⟨by omega, by omega, by rw [← a0]; exact me_i_r _ _ _, ⟨by omega, by omega⟩, fun _ => ⟨rfl, Or.inl rfl⟩, fun z => ⟨by omega, by omega, ?_⟩⟩
  obtain ⟨w, w1, w2⟩ := E.nm hx (Or.inl z)
  rw [w1]
  refine ca_I (by omega) (c_346 (by omega) J.2.2.1 (by omega) J.hn S.2.2.2.1 (E.tk S w2)) (fun y M1 _ g => ?_) nt_E_no
  obtain ⟨rfl, g⟩ := g
  refine ⟨by rcases g with rfl | ⟨j, q, _, rfl, _, _, _⟩ <;> exact ⟨by omega, by omega⟩, fun _ => ⟨rfl, Or.inl rfl⟩, fun _ => ⟨by omega, by omega, ?_⟩⟩
  rw [a4, w1, S.2.1.1]
  refine ca_I (by omega) (c_347 J (by omega) (E.tk S w2) (Or.inl rfl) (by omega) (by omega)) (fun y2 M2 _ g2 => ?_) nt_E_no
  obtain ⟨rfl, g2⟩ := g2
  refine ⟨by rcases g2 with rfl | ⟨q, rfl, _⟩ <;> exact ⟨by omega, by omega⟩, fun _ => ⟨by omega, by omega, ?_⟩, fun _ => ⟨rfl, Or.inl rfl⟩⟩
  rw [a4, w1]
  refine ca_I (by omega) (c_325 (by omega) J.2.2.1 J.2.2.1 J.2.2.2.1 (by omega) J.hn (E.tk S w2)) (fun y3 M3 _ g3 => ?_) nt_E_no
  obtain ⟨rfl, g3⟩ := g3
  exact ⟨rfl, g3.imp id fun v => ⟨v.1, v.2, z⟩⟩
/-- a leaf that means a value -/
theorem nm_end (E : EB p C n m cl Φ Mb h hc) (S : ES p Mb h hc m kn e e M) (he : e < n) (ho : nA p Mb 0 e = 7) {w q : Nat} (hw : nA p Mb 4 e = (w : Int)) (hq : q < m) (h0 : ¬ tA p Mb 0 q = 0) (hv : tA p Mb 0 q = 1 ∧ (tA p Mb 4 h = 0 ∨ tA p Mb 4 q = 1) ∧ ME8 (tA p Mb) (sp p Mb) (fun q => me_i Mb (p + 37) q) m hc q ∨ SC (nA p Mb) (tA p Mb) h e e q) (f : fr (fun b j => b = p + 38 ∧ j = w) M M') (v : me_i M' (p + 38) w = (q : Int)) : EQ p Mb m cl h hc e e M (me_i M' (p + 33) q) M' := by
  have e8 : me_i M' (p + 33) q = tA p Mb 8 q := (f.i (by omega)).trans (S.B 8 q (by omega))
  have t := E.ty hq h0
  rw [e8]
  refine ⟨f.mo fun b j z => Or.inr (Or.inr (Or.inl ⟨z.1, e, Nat.le_refl _, Nat.le_refl _, by rw [hw, z.2]⟩)), by rw [f.i (by omega)]; exact S.2.2.1, t.1, fun z => ⟨by rw [← z, f.i (by omega)], t.2, fun k k1 k2 => by omega, ?_⟩⟩
  unfold wt WT
  rw [ho, hw, Int.toNat_natCast]
  refine ⟨fun z => by omega, fun z => by omega, fun z => by omega, fun _ => ⟨q, v, hq, Or.inr ⟨rfl, hv⟩⟩, fun z => by omega, fun z => by omega, fun z => by omega, fun z => by omega, fun z => by omega, fun z => by omega⟩
theorem EQ.bad (f : fr (rX p (nA p Mb) lo e) M M') (hb : 1 ≤ me_i M' p 33 ∧ me_i M' p 33 ≤ 14) : EQ p Mb m cl h hc lo e M (-5) M' := ⟨f, by omega, Or.inl rfl, fun z => by omega⟩
/-- a member of a class's chain, by base -/
theorem fo_base (S : ES p Mb h hc m kn lo e M) {c0 x3 : Int} {q : Nat} (g : ∃ i o : Nat, tA p M 3 q = (o : Int) ∧ o < m ∧ me_i M (p + 37) o = (i : Int) ∧ up (sp p M) c0 i) : ME8 (tA p Mb) (sp p Mb) (fun q => me_i Mb (p + 37) q) m c0 q := by
  obtain ⟨i, o, g1, g2, g3, g4⟩ := g
  refine ⟨i, o, by rw [← S.B 3 q (by omega)]; exact g1, g2, ?_, by rw [← S.sp]; exact g4⟩
  show me_i Mb (p + 37) o = _
  rw [← g3]
  exact (S.1.i (by unfold rJ; omega)).symm
/-- typeOfName -/
theorem c_345 (E : EB p C n m cl Φ Mb h hc) (S : ES p Mb h hc m kn e e M) (he : e < n) (ho : nA p Mb 0 e = 7) (hd : 3 ≤ d) : me_W (mt_G N X) 345 d 0 [some (.inr (.inl (some p, 29, 0))), some (.inl (e : Int)), none, none] [] M (sx_qI (fun y M' => EQ p Mb m cl h hc e e M y M') nt_E) := by
  have n7 := E.n7
  have J := S.js E
  have m7 := J.m7
  obtain ⟨w, w1, w2⟩ := E.nm he (Or.inl ho)
  have a4 : me_i M (p + 18) e = (w : Int) := (S.A 4 e (by omega) (by omega)).trans w1
  have hcl := E.2.2
  have s2 := J.2.2.2.1.2.1
  have hC := E.1.2.1
  have mean : ∀ q : Nat, q < m → ¬ tA p Mb 0 q = 0 → (tA p Mb 0 q = 1 ∧ (tA p Mb 4 h = 0 ∨ tA p Mb 4 q = 1) ∧ ME8 (tA p Mb) (sp p Mb) (fun q => me_i Mb (p + 37) q) m hc q ∨ SC (nA p Mb) (tA p Mb) h e e q) → ∃ d', d = d' + 1 ∧ me_W (mt_G N X) 332 d' 0 [some (.inr (.inl (some p, 29, 0))), some (.inl (w : Int)), some (.inl (q : Int))] [] M (sx_qV (fun M5 => 0 ≤ (q : Int) ∧ (q : Int) < ((2408 : Nat) : Int) ∧ sx_qI (fun y M' => EQ p Mb m cl h hc e e M y M') nt_E (.inr (some (.inl (me_i M5 (p + 33) (q : Int).toNat)))) M5) (fun e7 M6 => sx_qI (fun y M' => EQ p Mb m cl h hc e e M y M') nt_E (.inl e7) M6)) := fun q q1 q2 q3 => by
    refine ca_V (by omega) (c_332 (by omega) ⟨by omega, by omega⟩) (fun M5 _ g => ?_) nt_E_no
    refine ⟨by omega, by omega, ?_⟩
    rw [Int.toNat_natCast]
    exact nm_end E S he ho w1 q1 q2 q3 g.1 g.2
  have bad : ∀ (x1 : Int) (M2 : me_M), 1 ≤ x1 → x1 ≤ 14 → fr (fun b j => b = p + 38 ∧ j = w) M M2 → ∃ d', d = d' + 1 ∧ me_W (mt_G N X) 334 d' 0 [some (.inr (.inl (some p, 29, 0))), some (.inl x1), some (.inl (w : Int)), none] [] M2 (sx_qV (fun M8 => sx_qI (fun y M' => EQ p Mb m cl h hc e e M y M') nt_E (.inr (some (.inl (-5)))) M8) (fun e10 M9 => sx_qI (fun y M' => EQ p Mb m cl h hc e e M y M') nt_E (.inl e10) M9)) := fun x1 M2 h1 h2 f => by
    have S2 : ES p Mb h hc m kn e e M2 := S.fr f (fun b j z => by omega) (by rw [f.i (by omega)]; exact S.2.2.1)
    refine ca_V (by omega) (er_end (by omega) E S2 w2 h1 h2 f fun b j z => Or.inr (Or.inr (Or.inl ⟨z.1, e, Nat.le_refl _, Nat.le_refl _, by rw [w1, z.2]⟩))) (fun M5 _ g => ?_) nt_E_no
    exact EQ.bad g.1 g.2
  refine b345_0 ?_
  rw [Int.toNat_natCast, a4]
  refine ⟨by omega, by omega, ?_⟩
  refine ca_I (by omega) (c_346 (by omega) J.2.2.1 (by omega) J.hn S.2.2.2.1 (E.tk S w2)) (fun y M1 _ g => ?_) nt_E_no
  obtain ⟨rfl, g⟩ := g
  have ry : me_r y := by rcases g with rfl | ⟨j, q, _, rfl, _, _, _⟩ <;> exact ⟨by omega, by omega⟩
  refine ⟨ry, fun z => ⟨ry, fun _ => ?_, fun z2 => by omega⟩, fun z => ?_⟩
  · rcases g with rfl | ⟨j, q, g1, rfl, g2, g3, g4⟩
    · omega
    · have sc := S.2.2.2.2 j q g1 g2
      rw [S.B 0 q (by omega)] at g4
      exact mean q g3 (by omega) (Or.inr sc)
  · rw [S.2.1.1]
    refine ca_I (by omega) (c_347 J (by omega) (E.tk S w2) (Or.inl rfl) (by omega) (by omega)) (fun y2 M2 _ g2 => ?_) nt_E_no
    obtain ⟨rfl, g2⟩ := g2
    have ry2 : me_r y2 := by rcases g2 with rfl | ⟨q, rfl, _⟩ <;> exact ⟨by omega, by omega⟩
    refine ⟨ry2, fun z2 => ⟨ry2, fun _ => by omega, fun _ => bad 6 M2 (by omega) (by omega) fr.rf⟩, fun z2 => ?_⟩
    rcases g2 with rfl | ⟨q, rfl, q1, q2, q3, q4⟩
    · omega
    have q2' : tA p Mb 0 q = 1 := by rw [← S.B 0 q (by omega)]; exact q2
    have me8 := fo_base (x3 := 0) S q4
    have m4 : me_i M2 (p + 29) (q : Int).toNat = tA p Mb 4 q := by
      rw [Int.toNat_natCast]
      exact S.B 4 q (by omega)
    rw [m4, S.2.1.2.1]
    have rs : me_r (tA p Mb 4 h) := me_i_r _ _ _
    have rs2 : me_r (tA p Mb 4 q) := me_i_r _ _ _
    refine ⟨rs, fun z3 => ⟨ry2, fun _ => mean q q1 (by omega) (Or.inl ⟨q2', Or.inl z3, me8⟩), fun z4 => by omega⟩, fun z3 => ⟨by omega, by omega, fun st => ⟨rs2, fun z4 => ⟨ry2, fun _ => mean q q1 (by omega) (Or.inl ⟨q2', Or.inr (by omega), me8⟩), fun z5 => by omega⟩, fun z4 => ?_⟩⟩⟩
    refine ca_V (by omega) (c_332 (by omega) ry2) (fun M5 _ g => ?_) nt_E_no
    exact bad 10 M5 (by omega) (by omega) g.1
end NMS
