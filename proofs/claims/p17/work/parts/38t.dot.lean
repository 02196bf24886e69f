/-! the reference's judge: typeOfDot, typeOfExp, typeNow -/
section DOT
variable {N : Nat} {X : Nat → Int32} {d p C n m cl h hc kn lo e a0 x k sz : Nat} {Φ : Nat → Nat} {Mb M M' : me_M} {y c0 : Int} {ks : List Nat} {w : Nat} {s : Int}
/-- what stands in front of the dot is judged; its class is c0 -/
def DF (p : Nat) (Mb : me_M) (m h hc lo e x : Nat) (s c0 : Int) (M M1 : me_M) : Prop := fr (rX p (nA p Mb) lo e) M M1 ∧ (0 ≤ me_i M1 p 33 ∧ me_i M1 p 33 ≤ 14) ∧ (me_i M1 p 33 = 0 → me_i M p 33 = 0 ∧ WR p Mb h hc m M1 lo (x + 1) ∧ (s = 2 ∧ nA p M1 9 x = -5 ∨ s = 1 ∧ nA p M1 9 x = 10 + c0))
theorem dot_f (E : EB p C n m cl Φ Mb h hc) (S : ES p Mb h hc m kn lo e M) (he : e < n) (ho : nA p Mb 0 e = 11) (hw : nA p Mb 4 e = (w : Int)) (hwC : w < C) (hx : nA p Mb 1 e = (x : Int)) (xe : x + 1 = e) (lx : lo ≤ x) (hd : 5 ≤ d) (hc0 : 0 ≤ c0) (hcl : c0 < cl) (hs : s = 1 ∨ s = 2) {M1 : me_M} (D : DF p Mb m h hc lo e x s c0 M M1) :
    0 ≤ (e : Int) ∧ (e : Int) < ((4816 : Nat) : Int) ∧ ∃ d', d = d' + 1 ∧ me_W (mt_G N X) 347 d' 0 [some (.inr (.inl (some p, 29, 0))), some (.inl c0), some (.inl (me_i M1 (p + 18) (e : Int).toNat)), some (.inl s), none, none] [] M1 (sx_qI (fun y12 M9 => me_r y12 ∧ (0 ≤ y12 → 0 ≤ (e : Int) ∧ (e : Int) < ((4816 : Nat) : Int) ∧ ∃ d', d = d' + 1 ∧ me_W (mt_G N X) 332 d' 0 [some (.inr (.inl (some p, 29, 0))), some (.inl (me_i M9 (p + 18) (e : Int).toNat)), some (.inl y12)] [] M9 (sx_qV (fun M13 => 0 ≤ y12 ∧ y12 < ((2408 : Nat) : Int) ∧ sx_qI (fun y M' => EQ p Mb m cl h hc lo e M y M') nt_E (.inr (some (.inl (me_i M13 (p + 33) y12.toNat)))) M13) (fun e15 M14 => sx_qI (fun y M' => EQ p Mb m cl h hc lo e M y M') nt_E (.inl e15) M14))) ∧ (y12 < 0 → 0 ≤ (e : Int) ∧ (e : Int) < ((4816 : Nat) : Int) ∧ ∃ d', d = d' + 1 ∧ me_W (mt_G N X) 334 d' 0 [some (.inr (.inl (some p, 29, 0))), some (.inl 6), some (.inl (me_i M9 (p + 18) (e : Int).toNat)), none] [] M9 (sx_qV (fun M16 => sx_qI (fun y M' => EQ p Mb m cl h hc lo e M y M') nt_E (.inr (some (.inl (-5)))) M16) (fun e18 M17 => sx_qI (fun y M' => EQ p Mb m cl h hc lo e M y M') nt_E (.inl e18) M17)))) (fun e11 M10 => sx_qI (fun y M' => EQ p Mb m cl h hc lo e M y M') nt_E (.inl e11) M10)) := by
  have n7 := E.n7
  obtain ⟨D1, D2, D3⟩ := D
  have S1 : ES p Mb h hc m kn lo e M1 := S.fr D1 rX_p D2
  have J1 := S1.js E
  have m7 := J1.m7
  have hC := E.1.2.1
  have nm : ∀ M9, M9 = M1 → me_i M9 (p + 18) (e : Int).toNat = (w : Int) := fun M9 z => by
    rw [z, Int.toNat_natCast]
    exact (S1.A 4 e (by omega) (by omega)).trans hw
  refine ⟨by omega, by omega, ?_⟩
  rw [nm M1 rfl]
  refine ca_I (by omega) (c_347 J1 (by omega) (E.tk S1 hwC) (by omega) (by omega) hcl) (fun y M9 _ g => ?_) nt_E_no
  obtain ⟨e9, g⟩ := g
  rw [nm M9 e9]
  subst e9
  have ry : me_r y := by
    rcases g with rfl | ⟨q, rfl, _⟩
    · exact ⟨by omega, by omega⟩
    · exact ⟨by omega, by omega⟩
  refine ⟨ry, fun z => ⟨by omega, by omega, ?_⟩, fun z => ⟨by omega, by omega, ?_⟩⟩
  · rcases g with rfl | ⟨q, rfl, q1, q2, q3, q4⟩
    · omega
    have q2' : tA p Mb 0 q = 1 := by rw [← S1.B 0 q (by omega)]; exact q2
    have q3' : s = 1 ∧ tA p Mb 4 q = 0 ∨ s = 2 ∧ tA p Mb 4 q = 1 := by
      rw [S1.B 4 q (by omega)] at q3
      omega
    have me8 := fo_base (x3 := s) S1 q4
    refine ca_V (by omega) (c_332 (by omega) ry) (fun M5 _ g => ?_) nt_E_no
    obtain ⟨f5, v5⟩ := g
    refine ⟨by omega, by omega, ?_⟩
    have t := E.ty q1 (by omega)
    rw [Int.toNat_natCast, show me_i M5 (p + 33) q = tA p Mb 8 q from (f5.i (by omega)).trans (S1.B 8 q (by omega))]
    refine ⟨D1.tr (f5.mo fun b j z => Or.inr (Or.inr (Or.inl ⟨z.1, e, by omega, Nat.le_refl _, by rw [hw, z.2]⟩))), by rw [f5.i (by omega)]; exact D2, t.1, fun z => ?_⟩
    rw [f5.i (by omega)] at z
    obtain ⟨z1, z2, z3⟩ := D3 z
    refine ⟨z1, t.2, ?_, ?_⟩
    · rw [← xe]
      exact z2.fr E (by omega) f5 (fun j => by omega) (fun k k1 k2 k3 v => by
        have := E.ne (a := k) (b := e) (by omega) he (by omega) k3
        omega)
    · unfold wt WT
      rw [ho, hw, hx, Int.toNat_natCast, Int.toNat_natCast, show nA p M5 9 x = nA p M9 9 x from f5.i (by omega)]
      refine ⟨fun z => by omega, fun z => by omega, fun z => by omega, fun z => by omega, fun z => by omega, fun z => by omega, fun z => by omega, fun _ => ⟨q, v5, q1, q2', rfl, ?_⟩, fun z => by omega, fun z => by omega⟩
      rcases z3 with ⟨z3, z4⟩ | ⟨z3, z4⟩
      · exact Or.inl ⟨z4, by omega⟩
      · refine Or.inr ⟨by omega, by omega, ?_⟩
        rw [z4, show 10 + c0 - 10 = c0 by omega]
        exact me8
  · refine ca_V (by omega) (er_end (by omega) E S1 hwC (by omega) (by omega) D1 fun _ _ z => z) (fun M5 _ g => ?_) nt_E_no
    exact EQ.bad g.1 g.2
theorem dot_c (E : EB p C n m cl Φ Mb h hc) (T : TNP N X p n m cl Mb h hc sz) (S : ES p Mb h hc m kn lo e M) (he : e < n) (ho : nA p Mb 0 e = 12) (hw : nA p Mb 4 e = (w : Int)) (hwC : w < C) (hx : nA p Mb 1 e = (x : Int)) (lx : lo ≤ x) (hsz : e - lo ≤ sz) (hd : 3 * (e - lo) + 27 ≤ d) (hsg : SG (nA p Mb) e (x + 1) ks) (hcn : CHN (nA p Mb) (nA p Mb 2 e) ks) (hc0 : 0 ≤ c0) (hcl : c0 < cl) (hs : s = 1 ∨ s = 2) {M1 : me_M} (D : DF p Mb m h hc lo e x s c0 M M1) :
    0 ≤ (e : Int) ∧ (e : Int) < ((4816 : Nat) : Int) ∧ ∃ d', d = d' + 1 ∧ me_W (mt_G N X) 348 d' 0 [some (.inr (.inl (some p, 29, 0))), some (.inl (e : Int)), some (.inl c0), some (.inl (me_i M1 (p + 16) (e : Int).toNat)), some (.inl s), none, none, none, none, none, none, none] [] M1 (sx_qI (fun y22 M19 => sx_qI (fun y M' => EQ p Mb m cl h hc lo e M y M') nt_E (.inr (some (.inl y22))) M19) (fun e21 M20 => sx_qI (fun y M' => EQ p Mb m cl h hc lo e M y M') nt_E (.inl e21) M20)) := by
  have n7 := E.n7
  obtain ⟨D1, D2, D3⟩ := D
  have S1 : ES p Mb h hc m kn lo e M1 := S.fr D1 rX_p D2
  have le := hsg.len
  refine ⟨by omega, by omega, ?_⟩
  rw [Int.toNat_natCast, show me_i M1 (p + 16) e = nA p Mb 2 e from S1.A 2 e (by omega) (by omega)]
  refine ca_I (by omega) (c_348 E T (S1.sub (by omega) (Nat.le_refl _)) he (Or.inr ho) hw hwC hc0 hcl (by omega) (by omega) (by omega) hsg hcn) (fun y M' _ g => ?_) nt_E_no
  obtain ⟨g1, g2, g3, g4⟩ := g
  refine ⟨D1.tr (g1.mo (rX_mo (by omega) (Nat.le_refl _))), g2, g3, fun z => ?_⟩
  obtain ⟨z1, z2, z3, q, q1, q2, q3, q4, q5, q6, q7, q8⟩ := g4 z
  obtain ⟨z4, z5, z6⟩ := D3 z1
  refine ⟨z4, z2, (z5.keep E (Nat.le_refl _) (by omega) he g1).app z3, ?_⟩
  unfold wt WT
  rw [ho, hw, hx, Int.toNat_natCast, Int.toNat_natCast, show nA p M' 9 x = nA p M1 9 x from g1.i (fun z => by
    rcases z with z | z | ⟨z, _⟩ | z | z <;> omega)]
  refine ⟨fun z => by omega, fun z => by omega, fun z => by omega, fun z => by omega, fun z => by omega, fun z => by omega, fun z => by omega, fun z => by omega, fun _ => ⟨q, q1, q2, q3, q4, ?_, q8⟩, fun z => by omega⟩
  rcases z6 with ⟨v1, v2⟩ | ⟨v1, v2⟩
  · exact Or.inl ⟨v2, q5.2 v1⟩
  · refine Or.inr ⟨q5.1 v1, by omega, ?_⟩
    rw [v2, show 10 + c0 - 10 = c0 by omega]
    exact q7
/-- the arguments, when what stands in front is no object -/
theorem dot_122 (E : EB p C n m cl Φ Mb h hc) (T : TNP N X p n m cl Mb h hc sz) (S : ES p Mb h hc m kn lo e M) (he : e < n) (ho : nA p Mb 0 e ≤ 16) (hsz : e - lo ≤ sz) (hd : 3 * (e - lo) + 28 ≤ d) : ∀ (r : List Nat) (M1 : me_M) (cur : Nat) (x5 : Int), lo ≤ cur → SG (nA p Mb) e cur r → CHN (nA p Mb) x5 r → fr (rX p (nA p Mb) lo e) M M1 → (1 ≤ me_i M1 p 33 ∧ me_i M1 p 33 ≤ 14) → me_W (mt_G N X) 354 d 122 [some (.inr (.inl (some p, 29, 0))), none, none, none, none, some (.inl x5)] [] M1 (sx_qI (fun y M' => EQ p Mb m cl h hc lo e M y M') nt_E) := by
  have n7 := E.n7
  intro r
  induction r with
  | nil =>
    intro M1 cur x5 hcu hsr hcr f g
    have hcr : x5 = -1 := hcr
    subst hcr
    exact b354_122 ⟨⟨by omega, by omega⟩, fun _ => EQ.bad f g, fun z => by omega⟩
  | cons a r ih =>
    intro M1 cur x5 hcu hsr hcr f g
    obtain ⟨rfl, hcr⟩ := hcr
    obtain ⟨g1, g2, g3, g4⟩ := hsr
    have l := g1.1
    have S1 : ES p Mb h hc m kn lo e M1 := S.fr f rX_p ⟨by omega, g.2⟩
    have oa := kid_ex E.1.G he ho a a g2 g3 (Nat.le_refl _)
    refine b354_122 ⟨⟨by omega, by omega⟩, fun z => by omega, fun _ => ?_⟩
    refine ca_I (by omega) (T M1 kn cur a (d - 1) (by omega) g1 oa.1 oa.2 (by omega) (S1.sub (by omega) (by omega)) (by omega)) (fun y4 M2 _ P => ?_) nt_E_no
    have S2 := P.es S1
    obtain ⟨p1, p2, p3, p4, p5⟩ := P
    refine ⟨by omega, by omega, ?_⟩
    rw [Int.toNat_natCast, show me_i M2 (p + 21) a = nA p Mb 7 a from S2.A 7 a (by omega) (by omega)]
    refine ih M2 (a + 1) _ (by omega) g4 hcr (f.tr (p1.mo (rX_mo hcu (by omega)))) ⟨?_, p2.2⟩
    by_cases z : me_i M2 p 33 = 0
    · have := (p5 z).1
      omega
    · omega
/-- typeOfDot -/
theorem c_354 (E : EB p C n m cl Φ Mb h hc) (T : TNP N X p n m cl Mb h hc sz) (S : ES p Mb h hc m kn lo e M) (he : e < n) (sg : seg (nA p Mb) lo e) (ho : nA p Mb 0 e = 11 ∨ nA p Mb 0 e = 12) (hsz : e - lo ≤ sz) (hd : 3 * (e - lo) + 28 ≤ d) : me_W (mt_G N X) 354 d 0 [some (.inr (.inl (some p, 29, 0))), some (.inl (e : Int)), none, none, none, none] [] M (sx_qI (fun y M' => EQ p Mb m cl h hc lo e M y M') nt_E) := by
  have n7 := E.n7
  have s8 := E.1.2.2.2.1.2.1
  have hC := E.1.2.1
  have m7 := E.1.m7
  obtain ⟨w, hw, hwC⟩ := E.nm he (by omega)
  obtain ⟨x, ks, hx, sx, xe, ox, px, hsg, h12⟩ : ∃ x : Nat, ∃ ks, nA p Mb 1 e = (x : Int) ∧ seg (nA p Mb) lo x ∧ x < e ∧ (1 ≤ nA p Mb 0 x ∧ nA p Mb 0 x ≤ 16) ∧ nA p Mb 8 x = e ∧ SG (nA p Mb) e (x + 1) ks ∧ (nA p Mb 0 e = 12 → CHN (nA p Mb) (nA p Mb 2 e) ks) := by
    rcases ho with z | z
    · obtain ⟨x, h1, h2, h3, h4, h5, h6⟩ := kids_1 E.1.G he sg (by omega)
      exact ⟨x, [], h1, h2, by omega, ⟨h4, h5⟩, h6, h3, fun v => by omega⟩
    · obtain ⟨x, ks, h1, h2, h3, h4, h5, h6, h7, h8⟩ := kids_d E.1.G he sg z
      exact ⟨x, ks, h1, h2, h3, ⟨h4, h5⟩, h6, h8, fun _ => h7⟩
  have lx := sx.1
  have kl := hsg.len
  have nx : ∀ M1, ES p Mb h hc m kn lo e M1 → me_i M1 (p + 15) (e : Int).toNat = (x : Int) := fun M1 S1 => by
    rw [Int.toNat_natCast]
    exact (S1.A 1 e (by omega) (by omega)).trans hx
  have no : ∀ M1, ES p Mb h hc m kn lo e M1 → me_i M1 (p + 14) (e : Int).toNat = nA p Mb 0 e := fun M1 S1 => by
    rw [Int.toNat_natCast]
    exact S1.A 0 e (by omega) (by omega)
  have n2 : ∀ M1, ES p Mb h hc m kn lo e M1 → me_i M1 (p + 16) (e : Int).toNat = nA p Mb 2 e := fun M1 S1 => by
    rw [Int.toNat_natCast]
    exact S1.A 2 e (by omega) (by omega)
  have rop : me_r (nA p Mb 0 e) := me_i_r _ _ _
  refine b354_0 ?_
  rw [nx M S]
  refine ⟨by omega, by omega, ca_I (by omega) (c_355 E S (by omega) (by omega)) (fun y4 M1 _ g => ?_) nt_E_no⟩
  obtain ⟨e1, g⟩ := g
  rw [nx M1 (e1 ▸ S)]
  subst e1
  refine ⟨by rcases g with rfl | g <;> exact ⟨by omega, by omega⟩, fun z => ⟨by omega, by omega, ?_⟩, fun z => ⟨by omega, by omega, by omega, by omega, by omega, by omega, ?_⟩⟩
  · -- an object in front
    refine ca_I (by omega) (T M1 kn lo x (d - 1) (by omega) sx ox.1 ox.2 (by omega) (S.sub (Nat.le_refl _) (by omega)) (by omega)) (fun y8 M5 _ P => ?_) nt_E_no
    have S5 := P.es S
    obtain ⟨p1, p2, p3, p4, p5⟩ := id P
    have r8 := p3.r s8
    have F5 : fr (rX p (nA p Mb) lo e) M1 M5 := p1.mo (rX_mo (Nat.le_refl _) (by omega))
    rw [no M5 S5]
    refine ⟨r8, ⟨by omega, by omega⟩, fun z10 => ?_, fun z10 => ⟨r8, ⟨by omega, by omega⟩, fun z5 => ?_, fun z5 => ?_⟩⟩
    · have D : DF p Mb m h hc lo e x 1 (y8 - 10) M1 M5 := ⟨F5, p2, fun v => ⟨(p5 v).1, (p5 v).2.2, Or.inr ⟨rfl, by rw [p4]; omega⟩⟩⟩
      have ty := p3
      unfold ty_x at ty
      refine ⟨by omega, by omega, rop, ⟨by omega, by omega⟩, fun z12 => ?_, fun z12 => ?_⟩
      · have z11 : nA p Mb 0 e = 11 := by omega
        have xe1 : x + 1 = e := by
          obtain ⟨x', h1, h2, h3, _⟩ := kids_1 E.1.G he sg (by omega)
          omega
        exact dot_f E S he z11 hw hwC hx xe1 lx (by omega) (by omega) (by omega) (Or.inl rfl) D
      · exact dot_c E T S he z12 hw hwC hx lx hsz (by omega) hsg (h12 z12) (by omega) (by omega) (Or.inl rfl) D
    · have bad : 1 ≤ me_i M5 p 33 ∧ me_i M5 p 33 ≤ 14 := by
        by_cases v : me_i M5 p 33 = 0
        · exact absurd z5 (p5 v).2.1
        · omega
      refine ⟨by omega, by omega, rop, ⟨by omega, by omega⟩, fun z12 => ?_, fun z12 => ⟨by omega, by omega, ?_⟩⟩
      · exact b354_122 ⟨⟨by omega, by omega⟩, fun _ => EQ.bad F5 bad, fun z => by omega⟩
      · rw [n2 M5 S5]
        exact dot_122 E T S he (by omega) hsz (by omega) ks M5 (x + 1) _ (by omega) hsg (h12 z12) F5 bad
    · obtain ⟨v, v1, v2⟩ := E.first (k := x) (by omega)
      rw [nx M5 S5, Int.toNat_natCast, show me_i M5 (p + 19) x = (v : Int) from (S5.A 5 x (by omega) (by omega)).trans v1]
      refine ⟨by omega, by omega, by omega, by omega, ?_⟩
      refine ca_V (by omega) (er_end (by omega) E S5 v2 (by omega) (by omega) F5 fun _ _ z => z) (fun M23 _ g => ?_) nt_E_no
      have S23 : ES p Mb h hc m kn lo e M23 := S.fr g.1 rX_p ⟨by omega, g.2.2⟩
      rw [no M23 S23]
      refine ⟨by omega, by omega, rop, ⟨by omega, by omega⟩, fun z12 => ?_, fun z12 => ⟨by omega, by omega, ?_⟩⟩
      · exact b354_122 ⟨⟨by omega, by omega⟩, fun _ => EQ.bad g.1 g.2, fun z => by omega⟩
      · rw [n2 M23 S23]
        exact dot_122 E T S he (by omega) hsz (by omega) ks M23 (x + 1) _ (by omega) hsg (h12 z12) g.1 g.2
  · -- a class in front
    rcases g with rfl | ⟨g1, g2, g3⟩
    · omega
    have lox : lo = x := kids_0 E.1.G (by omega) sx (by omega)
    obtain ⟨c, hcy⟩ : ∃ c : Nat, y4 = (c : Int) := ⟨y4.toNat, by omega⟩
    subst hcy
    obtain ⟨q, q1, q2, q3, q4⟩ := E.1.2.2.2.1.2.2.1 c (by omega)
    obtain ⟨v, v1, v2⟩ := E.nm (k := x) (by omega) (Or.inl g3)
    rw [Int.toNat_natCast, Int.toNat_natCast, show me_i M1 (p + 18) x = (v : Int) from (S.A 4 x (by omega) (by omega)).trans v1, show me_i M1 (p + 35) c = (q : Int) from (S.1.i (by unfold rJ; omega)).trans q1]
    refine ca_V (by omega) (c_332 (by omega) ⟨by omega, by omega⟩) (fun M26 _ g => ?_) nt_E_no
    obtain ⟨f26, v26⟩ := g
    have S26 : ES p Mb h hc m kn lo e M26 := S.fr f26 (fun b j z => by omega) (by rw [f26.i (by omega)]; exact S.2.2.1)
    rw [nx M26 S26]
    refine ⟨by omega, by omega, by omega, by omega, ?_⟩
    intro M29
    have f29 : fr (fun b j => b = p + 23 ∧ j = x) M26 M29 := fr_sI ⟨rfl, by rw [Int.toNat_natCast]⟩
    have t29 : nA p M29 9 x = -5 := by
      show me_i (me_sI _ _ _ _) _ _ = _
      rw [me_i_sI, Int.toNat_natCast, if_pos ⟨rfl, rfl⟩, me_to ⟨by omega, by omega⟩]
    have S29 : ES p Mb h hc m kn lo e M29 := S26.fr f29 (fun b j z => by omega) (by rw [f29.i (by omega)]; exact S26.2.2.1)
    have F29 : fr (rX p (nA p Mb) lo e) M1 M29 := (f26.mo fun b j z => Or.inr (Or.inr (Or.inl ⟨z.1, x, by omega, by omega, by rw [v1, z.2]⟩))).tr (f29.mo fun b j z => Or.inr (Or.inl ⟨z.1, by omega, by omega⟩))
    have D : DF p Mb m h hc lo e x 2 (c : Int) M1 M29 := by
      refine ⟨F29, S29.2.2.1, fun z => ⟨by rw [← z, f29.i (by omega), f26.i (by omega)], fun k k1 k2 => ?_, Or.inl ⟨rfl, t29⟩⟩⟩
      have kx : k = x := by omega
      subst kx
      rw [t29]
      unfold wt WT
      rw [g3, v1, Int.toNat_natCast, px, Int.toNat_natCast]
      exact ⟨fun z => by omega, fun z => by omega, fun z => by omega, fun _ => ⟨q, by show me_i M29 (p + 38) v = _; rw [f29.i (by omega), v26], q2, Or.inl ⟨q3, rfl, by omega, ho, hx⟩⟩, fun z => by omega, fun z => by omega, fun z => by omega, fun z => by omega, fun z => by omega, fun z => by omega⟩
    rw [no M29 S29]
    clear_value M29
    refine ⟨by omega, by omega, rop, ⟨by omega, by omega⟩, fun z12 => ?_, fun z12 => ?_⟩
    · have z11 : nA p Mb 0 e = 11 := by omega
      have xe1 : x + 1 = e := by
        obtain ⟨x', h1, h2, h3, _⟩ := kids_1 E.1.G he sg (by omega)
        omega
      exact dot_f E S he z11 hw hwC hx xe1 lx (by omega) (by omega) (by omega) (Or.inr rfl) D
    · exact dot_c E T S he z12 hw hwC hx lx hsz (by omega) hsg (h12 z12) (by omega) (by omega) (Or.inr rfl) D
end DOT
