/-! the reference's judge: typeOfExp, typeNow -/
section TYN
variable {N : Nat} {X : Nat → Int32} {d p C n m cl h hc kn lo e x k sz : Nat} {Φ : Nat → Nat} {Mb M M' : me_M} {y : Int} {w : Nat}
theorem c_344 (E : EB p C n m cl Φ Mb h hc) (T : TNP N X p n m cl Mb h hc sz) (S : ES p Mb h hc m kn lo e M) (he : e < n) (sg : seg (nA p Mb) lo e) (o1 : 1 ≤ nA p Mb 0 e) (o2 : nA p Mb 0 e ≤ 16) (hsz : e - lo ≤ sz) (hd : 3 * (e - lo) + 29 ≤ d) : me_W (mt_G N X) 344 d 0 [some (.inr (.inl (some p, 29, 0))), some (.inl (e : Int)), none] [] M (sx_qI (fun y M' => EQ p Mb m cl h hc lo e M y M') nt_E) := by
  have n7 := E.n7
  have s8 := E.1.2.2.2.1.2.1
  have hC := E.1.2.1
  have m7 := E.1.m7
  have hcl := E.2.2
  have G := E.1.G
  have l0 := sg.1
  have wtL : ∀ M1 (v : Int), (nA p Mb 0 e = 1 ∨ nA p Mb 0 e = 2 ∨ nA p Mb 0 e = 3 ∨ nA p Mb 0 e = 6) → (v = 0 ∨ v = 1) → wt p Mb h hc m M1 e v := fun M1 v z hv => by
    unfold wt WT
    exact ⟨fun _ => hv, fun z => by omega, fun z => by omega, fun z => by omega, fun z => by omega, fun z => by omega, fun z => by omega, fun z => by omega, fun z => by omega, fun z => by omega⟩
  have wtU : ∀ M1 (v : Int), (nA p Mb 0 e = 13 ∨ nA p Mb 0 e = 14) → (v = 0 ∨ v = 1) → wt p Mb h hc m M1 e v := fun M1 v z hv => by
    unfold wt WT
    exact ⟨fun _ => hv, fun z => by omega, fun z => by omega, fun z => by omega, fun z => by omega, fun z => by omega, fun z => by omega, fun z => by omega, fun z => by omega, fun _ => hv⟩
  have leaf : ∀ v : Int, (v = 0 ∨ v = 1) → (nA p Mb 0 e = 1 ∨ nA p Mb 0 e = 2 ∨ nA p Mb 0 e = 3 ∨ nA p Mb 0 e = 6) → EQ p Mb m cl h hc lo e M v M := fun v hv z => by
    have le := kids_0 G he sg (by omega)
    exact ⟨fr.rf, S.2.2.1, Or.inr (Or.inl ⟨by omega, by omega⟩), fun w => ⟨w, by omega, fun k k1 k2 => by omega, wtL M v z hv⟩⟩
  have a0 : me_i M (p + 14) e = nA p Mb 0 e := S.A 0 e (by omega) (by omega)
  have a1 : me_i M (p + 15) e = nA p Mb 1 e := S.A 1 e (by omega) (by omega)
  have a4 : ∀ M1, M1 = M → me_i M1 (p + 18) e = nA p Mb 4 e := fun M1 z => by rw [z]; exact S.A 4 e (by omega) (by omega)
  have rop : me_r (nA p Mb 0 e) := me_i_r _ _ _
  have rs : me_r (tA p Mb 4 h) := me_i_r _ _ _
  refine b344_0 ?_
  rw [Int.toNat_natCast, a0, a1, S.2.1.1, S.2.1.2.1]
  refine ⟨by omega, by omega, rop, fun z => ?_, fun z => leaf 0 (Or.inl rfl) (by omega), fun z => leaf 1 (Or.inr rfl) (by omega), fun z => leaf 1 (Or.inr rfl) (by omega), fun z => ?_, fun z => ⟨rs, fun z0 => ?_, fun z0 => ⟨by omega, by omega, ?_⟩⟩, fun z => leaf 0 (Or.inl rfl) (by omega), fun z => ?_, fun z => ⟨by omega, by omega, ?_⟩, fun z => ⟨by omega, by omega, ?_⟩, fun z => ⟨by omega, by omega, ?_⟩, fun z => ?_, fun z => ?_, fun z => ⟨by omega, by omega, ?_⟩, fun z => ⟨by omega, by omega, ?_⟩, trivial⟩
  · -- both
    have n16 : ¬ nA p Mb 0 e = 16 := fun v => by
      have q := (G e he).2.1
      unfold nmk at q
      have q2 := q.2.2.2.1 v
      have q3 := (E.1.1.2.2.2.2.2.2.1 (nA p Mb 4 e).toNat (by omega)).2.2.2.2.1.2.1
      have q4 : kA p Mb 0 (nA p Mb 4 e).toNat = 5 := q2.2
      omega
    obtain ⟨x, y, h1, h2, h3, h4, h5, h6, h7, h8, h9, h10⟩ := kids_2 G he sg (by omega)
    exact ca_I (by omega) (c_357 E T S he (by omega) h1 h2 h3 h4 h5 h6 (h7 (by omega)) hsz (by omega)) (fun y M1 _ g => g) nt_E_no
  · -- null
    have le := kids_0 G he sg (by omega)
    refine ⟨fr.rf, S.2.2.1, Or.inr (Or.inl ⟨by omega, by omega⟩), fun w => ⟨w, by omega, fun k k1 k2 => by omega, ?_⟩⟩
    unfold wt WT
    exact ⟨fun z => by omega, fun _ => rfl, fun z => by omega, fun z => by omega, fun z => by omega, fun z => by omega, fun z => by omega, fun z => by omega, fun z => by omega, fun z => by omega⟩
  · -- this
    have le := kids_0 G he sg (by omega)
    refine ⟨fr.rf, S.2.2.1, Or.inr (Or.inr ⟨by omega, by omega⟩), fun w => ⟨w, by omega, fun k k1 k2 => by omega, ?_⟩⟩
    unfold wt WT
    exact ⟨fun z => by omega, fun z => by omega, fun _ => ⟨z0, rfl⟩, fun z => by omega, fun z => by omega, fun z => by omega, fun z => by omega, fun z => by omega, fun z => by omega, fun z => by omega⟩
  · obtain ⟨v, v1, v2⟩ := E.first he
    rw [show me_i M (p + 19) e = (v : Int) from (S.A 5 e (by omega) (by omega)).trans v1]
    exact ca_V (by omega) (er_end (by omega) E S v2 (by omega) (by omega) fr.rf fun _ _ z => z) (fun M5 _ g => EQ.bad g.1 g.2) nt_E_no
  · -- a name
    have le := kids_0 G he sg (by omega)
    subst le
    exact ca_I (by omega) (c_345 E S he z (by omega)) (fun y M1 _ g => g) nt_E_no
  · -- a call
    obtain ⟨ks, k1, k2⟩ := kids_c G he sg (Or.inl z)
    obtain ⟨w, w1, w2⟩ := E.nm he (by omega)
    refine ca_I (by omega) (c_348 (c := (hc : Int)) (x4 := 0) E T S he (Or.inl z) w1 w2 (by omega) (by omega) (Or.inl rfl) hsz (by omega) k2 k1) (fun y M' _ g => ?_) nt_E_no
    obtain ⟨g1, g2, g3, g4⟩ := g
    refine ⟨g1, g2, g3, fun v => ?_⟩
    obtain ⟨z1, z2, z3, q, q1, q2, q3, q4, q5, q6, q7, q8⟩ := g4 v
    refine ⟨z1, z2, z3, ?_⟩
    unfold wt WT
    rw [z, w1, Int.toNat_natCast]
    exact ⟨fun z => by omega, fun z => by omega, fun z => by omega, fun z => by omega, fun _ => ⟨q, q1, q2, q3, q4, q6 rfl, q7, q8⟩, fun z => by omega, fun z => by omega, fun z => by omega, fun z => by omega, fun z => by omega⟩
  · -- new
    have le := kids_0 G he sg (by omega)
    subst le
    have J := S.js E
    obtain ⟨w, w1, w2⟩ := E.nm he (by omega)
    rw [a4 M rfl, w1]
    refine ca_I (by omega) (c_325 (by omega) J.2.2.1 J.2.2.1 J.2.2.2.1 (by omega) J.hn (E.tk S w2)) (fun y3 M3 _ g3 => ?_) nt_E_no
    obtain ⟨e3, g3⟩ := g3
    rw [a4 M3 e3, w1]
    subst e3
    refine ⟨by rcases g3 with rfl | g3 <;> exact ⟨by omega, by omega⟩, fun v => ⟨by omega, by omega, by omega, by omega, ?_⟩, fun v => ⟨by omega, by omega, ?_⟩⟩
    · obtain ⟨c, hc3⟩ : ∃ c : Nat, y3 = (c : Int) := ⟨y3.toNat, by omega⟩
      subst hc3
      obtain ⟨q, q1, q2, q3, q4⟩ := E.1.2.2.2.1.2.2.1 c (by omega)
      rw [Int.toNat_natCast, show me_i M3 (p + 35) c = (q : Int) from (S.1.i (by unfold rJ; omega)).trans q1]
      refine ca_V (by omega) (c_332 (by omega) ⟨by omega, by omega⟩) (fun M5 _ g => ?_) nt_E_no
      obtain ⟨f5, v5⟩ := g
      refine ⟨f5.mo fun b j z => Or.inr (Or.inr (Or.inl ⟨z.1, lo, Nat.le_refl _, Nat.le_refl _, by rw [w1, z.2]⟩)), by rw [f5.i (by omega)]; exact S.2.2.1, Or.inr (Or.inr ⟨by omega, by omega⟩), fun u => ⟨by rw [← u, f5.i (by omega)], by omega, fun k k1 k2 => by omega, ?_⟩⟩
      unfold wt WT
      rw [z, w1, Int.toNat_natCast]
      exact ⟨fun z => by omega, fun z => by omega, fun z => by omega, fun z => by omega, fun z => by omega, fun _ => ⟨q, c, v5, q2, q3, q4, rfl⟩, fun z => by omega, fun z => by omega, fun z => by omega, fun z => by omega⟩
    · exact ca_V (by omega) (er_end (by omega) E S w2 (by omega) (by omega) fr.rf fun _ _ z => z) (fun M5 _ g => EQ.bad g.1 g.2) nt_E_no
  · -- round
    obtain ⟨x, h1, h2, h3, h4, h5, h6⟩ := kids_1 G he sg (by omega)
    have lx := h2.1
    rw [h1]
    refine ca_I (by omega) (T M kn lo x (d - 1) (by omega) h2 h4 h5 (by omega) (S.sub (Nat.le_refl _) (by omega)) (by omega)) (fun y4 M1 _ P => ?_) nt_E_no
    obtain ⟨p1, p2, p3, p4, p5⟩ := P
    refine ⟨p1.mo (rX_mo (Nat.le_refl _) (by omega)), p2, p3, fun v => ⟨(p5 v).1, (p5 v).2.1, by rw [← h3]; exact (p5 v).2.2, ?_⟩⟩
    unfold wt WT
    rw [z, h1, Int.toNat_natCast, p4]
    exact ⟨fun z => by omega, fun z => by omega, fun z => by omega, fun z => by omega, fun z => by omega, fun z => by omega, fun _ => rfl, fun z => by omega, fun z => by omega, fun z => by omega⟩
  · exact ca_I (by omega) (c_354 E T S he sg (Or.inl z) hsz (by omega)) (fun y M1 _ g => g) nt_E_no
  · exact ca_I (by omega) (c_354 E T S he sg (Or.inr z) hsz (by omega)) (fun y M1 _ g => g) nt_E_no
  · obtain ⟨x, h1, h2, h3, h4, h5, h6⟩ := kids_1 G he sg (by omega)
    have lx := h2.1
    rw [h1]
    refine ca_I (by omega) (c_356 E T (S.sub (Nat.le_refl _) (by omega)) (by omega) h2 h4 h5 (by omega) ⟨by omega, by omega⟩ (by omega)) (fun y4 M1 _ P => ?_) nt_E_no
    obtain ⟨p1, p2, p3, p5⟩ := P
    have F := p1.mo (rX_mo (lo := lo) (e := e) (Nat.le_refl _) (by omega))
    refine ⟨by rcases p3 with v | v <;> rw [v] <;> exact ⟨by omega, by omega⟩, fun v => ⟨F, p2, Or.inl rfl, fun u => by have := (p5 u).2.1; omega⟩, fun v => ⟨F, p2, Or.inr (Or.inl ⟨by omega, by omega⟩), fun u => ⟨(p5 u).1, by omega, by rw [← h3]; exact (p5 u).2.2, wtU M1 0 (Or.inl z) (Or.inl rfl)⟩⟩⟩
  · obtain ⟨x, h1, h2, h3, h4, h5, h6⟩ := kids_1 G he sg (by omega)
    have lx := h2.1
    rw [h1]
    refine ca_I (by omega) (c_356 E T (S.sub (Nat.le_refl _) (by omega)) (by omega) h2 h4 h5 (by omega) ⟨by omega, by omega⟩ (by omega)) (fun y4 M1 _ P => ?_) nt_E_no
    obtain ⟨p1, p2, p3, p5⟩ := P
    have F := p1.mo (rX_mo (lo := lo) (e := e) (Nat.le_refl _) (by omega))
    refine ⟨by rcases p3 with v | v <;> rw [v] <;> exact ⟨by omega, by omega⟩, fun v => ⟨F, p2, Or.inl rfl, fun u => by have := (p5 u).2.1; omega⟩, fun v => ⟨F, p2, Or.inr (Or.inl ⟨by omega, by omega⟩), fun u => ⟨(p5 u).1, by omega, by rw [← h3]; exact (p5 u).2.2, wtU M1 1 (Or.inr z) (Or.inr rfl)⟩⟩⟩
/-- typeNow -/
theorem c_343 (E : EB p C n m cl Φ Mb h hc) : ∀ sz, TNP N X p n m cl Mb h hc sz := by
  intro sz
  induction sz with
  | zero => intro M kn lo e d _ _ _ _ z; omega
  | succ sz ih =>
    intro M kn lo e d he sg o1 o2 hsz S hd
    have n7 := E.n7
    have s8 := E.1.2.2.2.1.2.1
    have l0 := sg.1
    refine b343_0 (ca_I (by omega) (c_344 E ih S he sg o1 o2 (by omega) (by omega)) (fun y M1 _ g => ?_) nt_E_no)
    obtain ⟨g1, g2, g3, g4⟩ := g
    refine ⟨by omega, by omega, ?_⟩
    intro M5
    have f5 : fr (fun b j => b = p + 23 ∧ j = e) M1 M5 := fr_sI ⟨rfl, by rw [Int.toNat_natCast]⟩
    have v5 : nA p M5 9 e = y := by
      show me_i (me_sI _ _ _ _) _ _ = _
      rw [me_i_sI, Int.toNat_natCast, if_pos ⟨rfl, rfl⟩, me_to (g3.r s8)]
    have T5 : ∀ k, ¬ k = e → nA p M5 9 k = nA p M1 9 k := fun k hk => f5.i (by omega)
    refine ⟨g1.tr (f5.mo fun b j z => Or.inr (Or.inl ⟨z.1, by omega, by omega⟩)), by rw [f5.i (by omega)]; exact g2, g3, v5, fun z => ?_⟩
    rw [f5.i (by omega)] at z
    obtain ⟨z1, z2, z3, z4⟩ := g4 z
    refine ⟨z1, z2, fun k k1 k2 => ?_⟩
    by_cases c : k = e
    · subst c
      rw [v5]
      exact wt_fr E he f5 (fun j j1 _ => by omega) (fun _ => by omega) z4
    · rw [T5 k c]
      exact wt_fr E (by omega) f5 (fun j j1 _ => by omega) (fun _ => by omega) (z3 k k1 (by omega))
end TYN
