/-! the reference's judge: looksAt's contract -/
section LOOK2
variable {N : Nat} {X : Nat → Int32} {d p C n m cl h hc kn lo e s x k sz : Nat} {Φ : Nat → Nat} {Mb M M' : me_M} {y : Int} {w : Nat}
/-- a condition's piece and a statement's behind it -/
theorem ws_two (E : EB p C n m cl Φ Mb h hc) {y kn1 : Nat} {M1 M2 : me_M} (hy : y < n) (lxy : x + 1 ≤ y) (sx : seg (nA p Mb) lo x) (ox : nA p Mb 0 x ≤ 16) (H : WR p Mb h hc m M1 lo (x + 1)) (f : fr (rL p (nA p Mb) (x + 1) y kn1) M1 M2) (H2 : WS p Mb h hc m M2 (x + 1) (y + 1)) : WS p Mb h hc m M2 lo (y + 1) := by
  have a := H.ws fun k k1 k2 => seg_ex E.1.G (by omega) sx ox x k (by omega) k1 (by omega)
  refine WS.app (mid := x + 1) (fun k k1 k2 => ?_) H2
  refine nt_fr E (by omega) f (fun j j1 j2 v => ?_) (fun v w => ?_) (a k k1 k2)
  · rcases v with v | v | v
    · rcases v with v | v | ⟨v, _⟩ | v | v <;> omega
    · omega
    · omega
  · rcases w with w | w | w
    · rcases w with w | w | ⟨_, i, i1, i2, i3⟩ | w | w
      · omega
      · omega
      · exact E.ne (a := k) (b := i) (by omega) (by omega) (by omega) v (by omega)
      · omega
      · omega
    · omega
    · omega
/-- statements behind stay -/
theorem ws_next (E : EB p C n m cl Φ Mb h hc) {y lo2 kn1 : Nat} {M1 M2 : me_M} (hy : y < n) (l2 : lo2 ≤ y) (H : WS p Mb h hc m M1 lo lo2) (f : fr (rL p (nA p Mb) lo2 y kn1) M1 M2) (H2 : WS p Mb h hc m M2 lo2 (y + 1)) : WS p Mb h hc m M2 lo (y + 1) := by
  refine WS.app (mid := lo2) (fun k k1 k2 => ?_) H2
  refine nt_fr E (by omega) f (fun j j1 j2 v => ?_) (fun v w => ?_) (H k k1 k2)
  · rcases v with v | v | v
    · rcases v with v | v | ⟨v, _⟩ | v | v <;> omega
    · omega
    · omega
  · rcases w with w | w | w
    · rcases w with w | w | ⟨_, i, i1, i2, i3⟩ | w | w
      · omega
      · omega
      · exact E.ne (a := k) (b := i) (by omega) (by omega) (by omega) v (by omega)
      · omega
      · omega
    · omega
    · omega
/-- what stands behind else -/
def ifz (A : Nat → Nat → Int) (y s : Nat) : Prop := A 3 s = -1 ∧ y + 1 = s ∨ ∃ w : Nat, A 3 s = (w : Int) ∧ seg A (y + 1) w ∧ (20 ≤ A 0 w ∧ A 0 w ≤ 27) ∧ A 8 w = s ∧ w + 1 = s
theorem c_359 (E : EB p C n m cl Φ Mb h hc) (hm2 : tA p Mb 0 h = 2) : ∀ sz, LA N X p n m Mb h hc sz := by
  intro sz
  induction sz with
  | zero => intro M kn lo s d _ _ _ _ z; omega
  | succ sz ih =>
    intro M kn lo s d hs sg o1 o2 hsz hh hp8 S hkn hd
    have n7 := E.n7
    have s8 := E.1.2.2.2.1.2.1
    have hC := E.1.2.1
    have m7 := E.1.m7
    have hcl := E.2.2
    have hhm := E.2.1
    have G := E.1.G
    have l0 := sg.1
    have G1 := G s hs
    have tyh := (E.1.2.2.2.2.2.1 h hhm (by omega)).1
    unfold ty_v at tyh
    have a0 : me_i M (p + 14) s = nA p Mb 0 s := S.A 0 s (by omega) (by omega)
    have a1 : ∀ M1, ES p Mb h hc m kn lo s M1 → me_i M1 (p + 15) s = nA p Mb 1 s := fun M1 S1 => S1.A 1 s (by omega) (by omega)
    have rop : me_r (nA p Mb 0 s) := me_i_r _ _ _
    have r5 : me_r (-5 : Int) := ⟨by omega, by omega⟩
    have k48 : me_i M p 48 = (kn : Int) := ES_kn S
    have first : ∀ (k : Nat) M1, k < n → ES p Mb h hc m kn lo s M1 → ∃ v : Nat, me_i M1 (p + 19) k = (v : Int) ∧ v < C := fun k M1 hk S1 => by
      obtain ⟨v, v1, v2⟩ := E.first hk
      exact ⟨v, (S1.A 5 k (by omega) (by omega)).trans v1, v2⟩
    refine b359_0 ?_
    rw [Int.toNat_natCast, a0, a1 M S, k48]
    refine ⟨by omega, by omega, rop, fun z => ⟨by omega, by omega, ?_⟩, fun z => ⟨by omega, by omega, ?_⟩, fun z => ?_, fun z => ?_, fun z => ⟨by omega, by omega, ?_⟩, fun z => ⟨by omega, by omega, ?_⟩, fun z => ⟨by omega, by omega, ?_⟩, fun z => ?_, trivial⟩
    · -- print
      obtain ⟨x, h1, h2, h3, h4, h5, h6⟩ := kids_1 G hs sg (by omega)
      have lx := h2.1
      rw [h1]
      refine ca_I (by omega) (c_343 E (x - lo + 1) M kn lo x (d - 1) (by omega) h2 h4 h5 (by omega) (S.sub (Nat.le_refl _) (by omega)) (by omega)) (fun y4 M1 _ P => ?_) nt_E_no
      have S1 := P.es S
      obtain ⟨p1, p2, p3, p4, p5⟩ := P
      have r4 := p3.r s8
      have F := p1.mo (rX_mo (lo := lo) (e := s) (Nat.le_refl _) (by omega))
      have good : me_W (mt_G N X) 359 d 498 [none, none, none, none, none] [] M1 (sx_qI (fun y M' => LKP p Mb m h hc lo s kn M y M') nt_E) := b359_498 ⟨Or.inr rfl, LKP.of E S F p2 (Or.inr rfl) fun w => ⟨(p5 w).1, ws_one E hs h2 h3 h5 (p5 w).2.2 (by omega) (st_no (by omega))⟩⟩
      refine ⟨r4, r5, fun _ => good, fun _ => ⟨r4, fun _ => good, fun _ => ⟨r4, ⟨by omega, by omega⟩, fun _ => good, fun _ => ?_⟩⟩⟩
      obtain ⟨v, v1, v2⟩ := first x M1 (by omega) S1
      rw [a1 M1 S1, h1, Int.toNat_natCast, v1]
      exact ⟨by omega, by omega, by omega, by omega, ca_V (by omega) (er_end (by omega) E S1 v2 (by omega) (by omega) F fun _ _ z => z) (fun M7 _ g => b359_498 ⟨Or.inr rfl, LKP.of E S g.1 (by omega) (Or.inr rfl) fun w => by omega⟩) nt_E_no⟩
    · -- a block
      obtain ⟨ks, k1, k2⟩ := kids_c G hs sg (Or.inr z)
      exact blk_62 E ih S hs z (by omega) hh hkn (by omega) ks M lo kn 1 _ (Nat.le_refl _) k2 k1 fr.rf (S.sub (Nat.le_refl _) (by omega)) (Nat.le_refl _) (by omega) (Or.inr rfl) fun w => ⟨w, fun k k1 k2 => by omega⟩
    · -- a local
      obtain ⟨x, h1, h2, h3, h4, h5, h6⟩ := kids_1 G hs sg (by omega)
      have lx := h2.1
      have c5 := G1.2.2.2.2.1 z
      have o := G1.1
      have y0 : 0 ≤ nA p Mb 2 s := by
        unfold opk at o
        omega
      obtain ⟨q, hq⟩ : ∃ q : Nat, nA p Mb 2 s = (q : Int) := ⟨(nA p Mb 2 s).toNat, by omega⟩
      rw [hq, Int.toNat_natCast] at c5
      have qm : q < m := by omega
      have a2 : ∀ M1, ES p Mb h hc m kn lo s M1 → me_i M1 (p + 16) s = (q : Int) := fun M1 S1 => (S1.A 2 s (by omega) (by omega)).trans hq
      have tq := (E.1.2.2.2.2.2.1 q qm (by omega)).1
      unfold ty_v at tq
      rw [a2 M S, h1, Int.toNat_natCast, show me_i M (p + 33) q = tA p Mb 8 q from S.B 8 q (by omega)]
      refine ⟨by omega, by omega, by omega, by omega, by omega, by omega, ?_⟩
      refine ca_V (by omega) (c_342 E (S.sub (Nat.le_refl _) (by omega)) (by omega) h2 h4 h5 (by omega) (by omega) (by omega)) (fun M1 _ P => ?_) nt_E_no
      obtain ⟨p1, p2, p5⟩ := P
      have S1 : ES p Mb h hc m kn lo s M1 := S.fr p1 rX_p p2
      have F := p1.mo (rX_mo (lo := lo) (e := s) (Nat.le_refl _) (by omega))
      have hws : me_i M1 p 33 = 0 → me_i M p 33 = 0 ∧ WS p Mb h hc m M1 lo (s + 1) := fun w => by
        obtain ⟨z1, z2, z3, z4⟩ := p5 w
        refine ⟨z1, ws_one E hs h2 h3 h5 z2 (by omega) ⟨fun _ => ?_, fun v => by omega, fun v => by omega, fun v => by omega⟩⟩
        rw [h1, hq, Int.toNat_natCast, Int.toNat_natCast]
        rcases z4 with v | v
        · omega
        · exact v
      have p8 := hp8 z
      have c6 := G1.2.2.2.2.2.1
      obtain ⟨u, hu⟩ : ∃ u : Nat, nA p Mb 8 s = (u : Int) := ⟨(nA p Mb 8 s).toNat, by omega⟩
      have J1 := S1.js E
      obtain ⟨v, v1, v2⟩ := J1.hn q qm
      have a26 : me_i M1 (p + 26) q = (v : Int) := v1
      rw [show me_i M1 (p + 22) s = (u : Int) from (S1.A 8 s (by omega) (by omega)).trans hu, a2 M1 S1, Int.toNat_natCast, Int.toNat_natCast, show me_i M1 (p + 14) u = nA p Mb 0 u from S1.A 0 u (by omega) (by omega), a26]
      have ru : me_r (nA p Mb 0 u) := me_i_r _ _ _
      refine ⟨by omega, by omega, by omega, by omega, ru, ⟨by omega, by omega⟩, fun zu => ⟨by omega, by omega, by omega, by omega, ?_⟩, fun zu => ⟨by omega, by omega, ?_⟩⟩
      · refine ca_I (by omega) (c_346 (by omega) J1.2.2.1 (by omega) J1.hn S1.2.2.2.1 v2) (fun y4 M2 _ g => ?_) nt_E_no
        obtain ⟨e2, g⟩ := g
        rw [a2 M2 (e2 ▸ S1), Int.toNat_natCast, show me_i M2 (p + 26) q = (v : Int) by rw [e2]; exact a26]
        subst e2
        refine ⟨by rcases g with rfl | ⟨j, q, _, rfl, _, _, _⟩ <;> exact ⟨by omega, by omega⟩, fun _ => b359_179 ⟨Or.inr rfl, LKP.of E S F p2 (Or.inr rfl) hws⟩, fun _ => ⟨by omega, by omega, by omega, by omega, ?_⟩⟩
        refine ca_V (by omega) (c_334 (by omega) v2 (by omega) (by omega) S1.2.2.1) (fun M7 _ g => ?_) nt_E_no
        exact b359_179 ⟨Or.inr rfl, LKP.of E S (F.tr (g.1.mo rX_e)) (by omega) (Or.inr rfl) fun w => by omega⟩
      · have q4 : tA p M1 0 q = 4 := (S1.B 0 q (by omega)).trans c5.2.1
        refine ca_V (by omega) (c_358 (by omega) J1.2.2.1 (by omega) J1.hn S1.2.2.2.1 (by omega) qm (Or.inr q4) S1.2.2.1) (fun M7 _ g => ?_) nt_E_no
        obtain ⟨g1, g2, g3, g4, g5⟩ := g
        refine b359_179 ⟨Or.inr rfl, (F.mo fun b j z => Or.inl z).tr (g1.mo fun b j z => ?_), g4, Or.inr rfl, ⟨kn + 1, g2, Or.inr ⟨rfl, z, p8, by rw [hu, Int.toNat_natCast]; exact zu, by rw [g3, hq]⟩⟩, fun w => ?_⟩
        · rcases z with ⟨z1, z2⟩ | z
          · by_cases c : j = 48
            · exact Or.inr (Or.inl ⟨z1, c⟩)
            · exact Or.inl (Or.inl ⟨z1, by omega⟩)
          · exact Or.inr (Or.inr ⟨z.1, by omega⟩)
        · obtain ⟨z1, z2⟩ := hws (g5 w)
          exact ⟨z1, z2.fr E (by omega) g1 (fun j => by omega) fun j => by omega⟩
    · -- set
      obtain ⟨x, y, h1, h2, h3, h4, h5, h6, h7, h8, h9, h10⟩ := kids_2 G hs sg (by omega)
      refine ca_V (by omega) (c_360 E S hs z h1 h2 h3 h4 h5 h6 (h7 (by omega)) (by omega)) (fun M1 _ P => ?_) nt_E_no
      obtain ⟨p1, p2, p3⟩ := P
      have lx := h3.1
      have ly := h4.1
      refine ⟨Or.inr rfl, LKP.of E S p1 p2 (Or.inr rfl) fun w => ?_⟩
      obtain ⟨z1, z2, z3⟩ := p3 w
      refine ⟨z1, WS.app (mid := s) (z2.ws fun k k1 k2 => ?_) (WS.one ⟨fun z => by omega, fun _ => z3⟩)⟩
      by_cases c : k ≤ x
      · exact seg_ex G (by omega) h3 h6.2 x k (by omega) k1 c
      · exact seg_ex G (by omega) h4 (h7 (by omega)).2 y k (by omega) (by omega) (by omega)
    · -- an exp
      obtain ⟨x, h1, h2, h3, h4, h5, h6⟩ := kids_1 G hs sg (by omega)
      have lx := h2.1
      rw [h1]
      refine ca_I (by omega) (c_343 E (x - lo + 1) M kn lo x (d - 1) (by omega) h2 h4 h5 (by omega) (S.sub (Nat.le_refl _) (by omega)) (by omega)) (fun y4 M1 _ P => ?_) nt_E_no
      have S1 := P.es S
      obtain ⟨p1, p2, p3, p4, p5⟩ := P
      have r4 := p3.r s8
      have F := p1.mo (rX_mo (lo := lo) (e := s) (Nat.le_refl _) (by omega))
      have rox : me_r (nA p Mb 0 x) := me_i_r _ _ _
      have good : (nA p Mb 0 x = 8 ∨ nA p Mb 0 x = 12 ∨ ¬ me_i M1 p 33 = 0) → me_W (mt_G N X) 359 d 252 [none, none, none, none, none] [] M1 (sx_qI (fun y M' => LKP p Mb m h hc lo s kn M y M') nt_E) := fun hg => b359_252 ⟨Or.inr rfl, LKP.of E S F p2 (Or.inr rfl) fun w => ⟨(p5 w).1, ws_one E hs h2 h3 h5 (p5 w).2.2 (by omega) ⟨fun v => by omega, fun v => by omega, fun _ => by rw [h1, Int.toNat_natCast]; omega, fun v => by omega⟩⟩⟩
      obtain ⟨v, v1, v2⟩ := first x M1 (by omega) S1
      rw [a1 M1 S1, h1, Int.toNat_natCast, show me_i M1 (p + 14) x = nA p Mb 0 x from S1.A 0 x (by omega) (by omega), v1]
      refine ⟨r4, r5, fun z4 => good (Or.inr (Or.inr fun w => absurd z4 (p5 w).2.1)), fun _ => ⟨by omega, by omega, by omega, by omega, rox, ⟨by omega, by omega⟩, fun z8 => good (Or.inl z8), fun _ => ⟨by omega, by omega, by omega, by omega, rox, ⟨by omega, by omega⟩, fun z12 => good (Or.inr (Or.inl z12)), fun _ => ⟨by omega, by omega, by omega, by omega, ?_⟩⟩⟩⟩
      exact ca_V (by omega) (er_end (by omega) E S1 v2 (by omega) (by omega) F fun _ _ z => z) (fun M7 _ g => b359_252 ⟨Or.inr rfl, LKP.of E S g.1 (by omega) (Or.inr rfl) fun w => by omega⟩) nt_E_no
    · -- if
      obtain ⟨x, y, h1, h2, h3, h4, hx16, hy20, h8y, hys, hz⟩ : ∃ x y : Nat, nA p Mb 1 s = (x : Int) ∧ nA p Mb 2 s = (y : Int) ∧ seg (nA p Mb) lo x ∧ seg (nA p Mb) (x + 1) y ∧ (1 ≤ nA p Mb 0 x ∧ nA p Mb 0 x ≤ 16) ∧ (20 ≤ nA p Mb 0 y ∧ nA p Mb 0 y ≤ 27) ∧ nA p Mb 8 y = s ∧ y < s ∧ ifz (nA p Mb) y s := by
        by_cases c : nA p Mb 3 s = -1
        · obtain ⟨x, y, h1, h2, h3, h4, h5, h6, h7, h8, h9, h10⟩ := kids_2 G hs sg (by omega)
          exact ⟨x, y, h1, h2, h3, h4, h6, h8 (by omega), h10, by omega, Or.inl ⟨c, h5⟩⟩
        · obtain ⟨x, y, w, h1, h2, h3, h4, h5, h6, h7, h8, h9, h10, h11, h12, h13⟩ := kids_3 G hs sg ⟨z, c⟩
          have := h6.1
          exact ⟨x, y, h1, h2, h4, h5, h8, h9, h12, by omega, Or.inr ⟨w, h3, h6, h10, h13, h7⟩⟩
      have lx := h3.1
      have ly := h4.1
      have a3 : ∀ (kn1 lo1 : Nat) M1, ES p Mb h hc m kn1 lo1 y M1 → me_i M1 (p + 17) s = nA p Mb 3 s := fun kn1 lo1 M1 S1 => S1.A 3 s (by omega) (by omega)
      rw [h1]
      refine ca_V (by omega) (c_342 E (S.sub (Nat.le_refl _) (by omega)) (by omega) h3 hx16.1 hx16.2 (by omega) (by omega) (by omega)) (fun M1 _ P => ?_) nt_E_no
      obtain ⟨p1, p2, p5⟩ := P
      have S1 : ES p Mb h hc m kn lo s M1 := S.fr p1 rX_p p2
      have F1 := p1.mo (rL_X (s := s) (kn := kn) (Nat.le_refl lo) (by omega))
      rw [show me_i M1 (p + 16) s = (y : Int) from (S1.A 2 s (by omega) (by omega)).trans h2]
      refine ⟨by omega, by omega, ?_⟩
      refine ca_I (by omega) (ih M1 kn (x + 1) y (d - 1) (by omega) h4 hy20.1 hy20.2 (by omega) (fun k z1 z2 => hh k (by omega) (by omega)) (fun _ => by omega) (S1.sub (by omega) (by omega)) (by omega) (by omega)) (fun y5 M2 _ Q => ?_) nt_E_no
      obtain ⟨q1, q2, q3, ⟨kn2, q4, q4'⟩, q5⟩ := Q
      have kn2e : kn2 = kn := by
        rcases q4' with v | ⟨_, _, _, v, _⟩
        · exact v
        · rw [h8y, Int.toNat_natCast, z] at v
          omega
      subst kn2e
      have S2 : ES p Mb h hc m kn2 lo s M2 := ES_back S1 q1 q4.1 q2
      have F2 := F1.tr (q1.mo (rL_mo (lo := lo) (s := s) (kn := kn2) (by omega) (by omega) (Nat.le_refl _)))
      have hws2 : me_i M2 p 33 = 0 → me_i M p 33 = 0 ∧ WS p Mb h hc m M2 lo (y + 1) := fun w => by
        obtain ⟨z1, z2⟩ := q5 w
        obtain ⟨z3, z4, _⟩ := p5 z1
        exact ⟨z3, ws_two E (by omega) ly h3 hx16.2 z4 q1 z2⟩
      have r3 : me_r (nA p Mb 3 s) := me_i_r _ _ _
      have W291 : ∀ fl : Int, (fl = 0 ∨ fl = 1) → me_W (mt_G N X) 359 d 291 [some (.inr (.inl (some p, 29, 0))), some (.inl (s : Int)), some (.inl (kn2 : Int)), none, none] [.inl fl, .inl y5] M2 (sx_qI (fun y M' => LKP p Mb m h hc lo s kn2 M y M') nt_E) := fun fl hfl => by
        refine b359_291 ?_
        rw [Int.toNat_natCast, show me_i M2 (p + 17) s = nA p Mb 3 s from S2.A 3 s (by omega) (by omega)]
        refine ⟨by omega, by omega, r3, fun v => b359_315 ⟨or01 q3 hfl, ?_⟩, fun v => ⟨by omega, by omega, ?_⟩⟩
        · rcases hz with ⟨u1, u2⟩ | ⟨w, u1, _⟩
          · refine LKP.end E S hs F2 q2 (or01 q3 hfl) fun u => ?_
            have a := (hws2 u).2
            rw [u2] at a
            exact ⟨(hws2 u).1, a.app (WS.one ⟨fun v => by omega, fun _ => st_no (by omega)⟩)⟩
          · omega
        · rcases hz with ⟨u1, u2⟩ | ⟨w, u1, u2, u3, u4, u5⟩
          · omega
          · have lw := u2.1
            rw [u1]
            refine ca_I (by omega) (ih M2 kn2 (y + 1) w (d - 1) (by omega) u2 u3.1 u3.2 (by omega) (fun k z1 z2 => hh k (by omega) (by omega)) (fun _ => by omega) (S2.sub (by omega) (by omega)) (by omega) (by omega)) (fun y6 M3 _ Q => ?_) nt_E_no
            obtain ⟨t1, t2, t3, t4, t5⟩ := Q
            refine b359_315 ⟨or01 (or01 q3 hfl) t3, LKP.end E S hs (F2.tr (t1.mo (rL_mo (by omega) (by omega) (Nat.le_refl _)))) t2 (or01 (or01 q3 hfl) t3) fun u => ?_⟩
            obtain ⟨z1, z2⟩ := t5 u
            obtain ⟨z3, z4⟩ := hws2 z1
            have a := ws_next E (by omega) lw z4 t1 z2
            rw [u5] at a
            exact ⟨z3, a.app (WS.one ⟨fun v => by omega, fun _ => st_no (by omega)⟩)⟩
      rw [show me_i M2 (p + 17) s = nA p Mb 3 s from S2.A 3 s (by omega) (by omega)]
      exact ⟨by omega, by omega, r3, fun _ => W291 0 (Or.inl rfl), fun _ => W291 1 (Or.inr rfl)⟩
    · -- while
      obtain ⟨x, y, h1, h2, h3, h4, h5, h6, h7, h8, h9, h10⟩ := kids_2 G hs sg (by omega)
      have hy20 := h8 (by omega)
      have lx := h3.1
      have ly := h4.1
      rw [h1]
      refine ca_V (by omega) (c_342 E (S.sub (Nat.le_refl _) (by omega)) (by omega) h3 h6.1 h6.2 (by omega) (by omega) (by omega)) (fun M1 _ P => ?_) nt_E_no
      obtain ⟨p1, p2, p5⟩ := P
      have S1 : ES p Mb h hc m kn lo s M1 := S.fr p1 rX_p p2
      have F1 := p1.mo (rL_X (s := s) (kn := kn) (Nat.le_refl lo) (by omega))
      rw [show me_i M1 (p + 16) s = (y : Int) from (S1.A 2 s (by omega) (by omega)).trans h2]
      refine ⟨by omega, by omega, ?_⟩
      refine ca_I (by omega) (ih M1 kn (x + 1) y (d - 1) (by omega) h4 hy20.1 hy20.2 (by omega) (fun k z1 z2 => hh k (by omega) (by omega)) (fun _ => by omega) (S1.sub (by omega) (by omega)) (by omega) (by omega)) (fun y5 M2 _ Q => ?_) nt_E_no
      obtain ⟨q1, q2, q3, q4, q5⟩ := Q
      refine ⟨Or.inr rfl, LKP.end E S hs (F1.tr (q1.mo (rL_mo (lo := lo) (s := s) (kn := kn) (by omega) (by omega) (Nat.le_refl _)))) q2 (Or.inr rfl) fun w => ?_⟩
      obtain ⟨z1, z2⟩ := q5 w
      obtain ⟨z3, z4, _⟩ := p5 z1
      have a := ws_two E (by omega) ly h3 h6.2 z4 q1 z2
      rw [h5] at a
      exact ⟨z3, a.app (WS.one ⟨fun v => by omega, fun _ => st_no (by omega)⟩)⟩
    · -- return
      have m51 : me_i M p 51 = (h : Int) := S.2.1.2.2
      have bh : ∀ M1, ES p Mb h hc m kn lo s M1 → me_i M1 (p + 33) h = tA p Mb 8 h := fun M1 S1 => S1.B 8 h (by omega)
      have rx : me_r (nA p Mb 1 s) := me_i_r _ _ _
      have rh : me_r (tA p Mb 8 h) := me_i_r _ _ _
      have W410 : ∀ M1, ES p Mb h hc m kn lo s M1 → fr (rX p (nA p Mb) lo s) M M1 → me_W (mt_G N X) 359 d 410 [some (.inr (.inl (some p, 29, 0))), some (.inl (s : Int)), none, none, none] [] M1 (sx_qI (fun y M' => LKP p Mb m h hc lo s kn M y M') nt_E) := fun M1 S1 F => by
        obtain ⟨v, v1, v2⟩ := first s M1 hs S1
        refine b359_410 ?_
        rw [Int.toNat_natCast, v1]
        exact ⟨by omega, by omega, ca_V (by omega) (er_end (by omega) E S1 v2 (by omega) (by omega) F fun _ _ z => z) (fun M7 _ g => b359_453 ⟨Or.inl rfl, LKP.of E S g.1 (by omega) (Or.inl rfl) fun w => by omega⟩) nt_E_no⟩
      have W383 : ∀ f0 f1 : Int, (f0 = 1 ∧ tA p Mb 8 h = 3 ∨ f0 = 0 ∧ ¬ tA p Mb 8 h = 3) → (f1 = 1 ∧ 0 ≤ nA p Mb 1 s ∨ f1 = 0 ∧ nA p Mb 1 s < 0) → me_W (mt_G N X) 359 d 383 [some (.inr (.inl (some p, 29, 0))), some (.inl (s : Int)), none, none, none] [.inl f0, .inl f1] M (sx_qI (fun y M' => LKP p Mb m h hc lo s kn M y M') nt_E) := fun f0 f1 hf0 hf1 => by
        refine b359_383 ?_
        rw [Int.toNat_natCast, a1 M S, m51, Int.toNat_natCast, bh M S]
        have sps := (E.sp1 hs (Or.inr z)).1
        refine ⟨by rcases hf1 with v | v <;> rw [v.1] <;> exact ⟨by omega, by omega⟩, by rcases hf0 with v | v <;> rw [v.1] <;> exact ⟨by omega, by omega⟩, fun v => ⟨by omega, by omega, rx, fun v2 => b359_453 ⟨Or.inl rfl, LKP.of E S fr.rf S.2.2.1 (Or.inl rfl) fun w => ⟨w, ?_⟩⟩, fun v2 => ⟨by omega, by omega, by omega, by omega, ?_⟩⟩, fun v => ⟨by omega, by omega, rx, fun v2 => W410 M S fr.rf, fun v2 => ⟨by omega, by omega, ?_⟩⟩⟩
        · have x1 : nA p Mb 1 s = -1 := by omega
          have le := kids_0 G hs sg (Or.inr (Or.inr (Or.inr ⟨z, x1⟩)))
          rw [le]
          exact WS.one ⟨fun z => by omega, fun _ => ⟨fun v => by omega, fun v => by omega, fun v => by omega, fun _ => Or.inl ⟨x1, by omega⟩⟩⟩
        · obtain ⟨x, h1, h2, h3, h4, h5, h6⟩ := kids_1 G hs sg (by omega)
          have lx := h2.1
          rw [h1]
          refine ca_V (by omega) (c_342 E (S.sub (Nat.le_refl _) (by omega)) (by omega) h2 h4 h5 (by omega) (by omega) (by omega)) (fun M1 _ P => ?_) nt_E_no
          obtain ⟨p1, p2, p5⟩ := P
          have F := p1.mo (rX_mo (lo := lo) (e := s) (Nat.le_refl _) (by omega))
          refine b359_453 ⟨Or.inl rfl, LKP.of E S F p2 (Or.inl rfl) fun w => ?_⟩
          obtain ⟨z1, z2, z3, z4⟩ := p5 w
          refine ⟨z1, ws_one E hs h2 h3 h5 z2 (by omega) ⟨fun v => by omega, fun v => by omega, fun v => by omega, fun _ => Or.inr ⟨by omega, ?_⟩⟩⟩
          rw [h1, Int.toNat_natCast]
          rcases z4 with v | v
          · omega
          · exact v
        · obtain ⟨x, h1, h2, h3, h4, h5, h6⟩ := kids_1 G hs sg (by omega)
          have lx := h2.1
          rw [h1]
          refine ca_I (by omega) (c_343 E (x - lo + 1) M kn lo x (d - 1) (by omega) h2 h4 h5 (by omega) (S.sub (Nat.le_refl _) (by omega)) (by omega)) (fun y4 M1 _ P => ?_) nt_E_no
          have S1 := P.es S
          obtain ⟨p1, p2, p3, p4, p5⟩ := P
          have F := p1.mo (rX_mo (lo := lo) (e := s) (Nat.le_refl _) (by omega))
          exact ⟨p3.r s8, r5, fun z4 => b359_453 ⟨Or.inl rfl, LKP.of E S F p2 (Or.inl rfl) fun w => absurd z4 (p5 w).2.1⟩, fun _ => W410 M1 S1 F⟩
      have W365 : ∀ f1 : Int, (f1 = 1 ∧ 0 ≤ nA p Mb 1 s ∨ f1 = 0 ∧ nA p Mb 1 s < 0) → me_W (mt_G N X) 359 d 365 [some (.inr (.inl (some p, 29, 0))), some (.inl (s : Int)), none, none, none] [.inl f1] M (sx_qI (fun y M' => LKP p Mb m h hc lo s kn M y M') nt_E) := fun f1 hf1 => by
        refine b359_365 ?_
        rw [m51, Int.toNat_natCast, bh M S]
        exact ⟨by omega, by omega, rh, ⟨by omega, by omega⟩, fun v => W383 0 f1 (Or.inr ⟨rfl, v⟩) hf1, fun v => W383 1 f1 (Or.inl ⟨rfl, v⟩) hf1⟩
      exact ⟨by omega, by omega, rx, fun v => W365 0 (Or.inr ⟨rfl, v⟩), fun v => W365 1 (Or.inl ⟨rfl, v⟩)⟩
end LOOK2
