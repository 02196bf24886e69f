/-! the reference's judge: needs, typeOfBoth -/
/-- typeNow over pieces shorter than sz -/
def TNP (N : Nat) (X : Nat → Int32) (p n m cl : Nat) (Mb : me_M) (h hc sz : Nat) : Prop := ∀ (M : me_M) (kn lo e d : Nat), e < n → seg (nA p Mb) lo e → 1 ≤ nA p Mb 0 e → nA p Mb 0 e ≤ 16 → e - lo < sz → ES p Mb h hc m kn lo e M → 3 * (e - lo) + 30 ≤ d → me_W (mt_G N X) 343 d 0 [some (.inr (.inl (some p, 29, 0))), some (.inl (e : Int)), none] [] M (sx_qI (fun y M' => EP p Mb m cl h hc lo e M y M') nt_E)
/-- behind needs -/
def NP (p : Nat) (Mb : me_M) (m h hc lo e : Nat) (M : me_M) (y : Int) (M' : me_M) : Prop := fr (rX p (nA p Mb) lo e) M M' ∧ (0 ≤ me_i M' p 33 ∧ me_i M' p 33 ≤ 14) ∧ (y = 0 ∨ y = 1) ∧ (me_i M' p 33 = 0 → me_i M p 33 = 0 ∧ y = 1 ∧ WR p Mb h hc m M' lo (e + 1))
section BOTH
variable {N : Nat} {X : Nat → Int32} {d p C n m cl h hc kn lo e x k sz : Nat} {Φ : Nat → Nat} {Mb M M' : me_M} {y : Int}
theorem EP.es (S : ES p Mb h hc m kn lo e M) {lo' e' : Nat} (P : EP p Mb m cl h hc lo' e' M y M') : ES p Mb h hc m kn lo e M' := S.fr P.1 rX_p P.2.1
theorem ty_x.r (h : ty_x cl y) (h8 : cl ≤ 8) : me_r y := by
  unfold ty_x at h
  exact ⟨by omega, by omega⟩
theorem c_356 {x2 : Int} (E : EB p C n m cl Φ Mb h hc) (T : TNP N X p n m cl Mb h hc sz) (S : ES p Mb h hc m kn lo e M) (he : e < n) (sg : seg (nA p Mb) lo e) (o1 : 1 ≤ nA p Mb 0 e) (o2 : nA p Mb 0 e ≤ 16) (hs : e - lo < sz) (hr : me_r x2) (hd : 3 * (e - lo) + 31 ≤ d) : me_W (mt_G N X) 356 d 0 [some (.inr (.inl (some p, 29, 0))), some (.inl (e : Int)), some (.inl x2), none] [] M (sx_qI (fun y M' => NP p Mb m h hc lo e M y M') nt_E) := by
  have n7 := E.n7
  have s2 := E.1.2.2.2.1.2.1
  refine b356_0 (ca_I (by omega) (T M kn lo e (d - 1) he sg o1 o2 hs S (by omega)) (fun y4 M1 _ P => ?_) nt_E_no)
  have S1 := P.es S
  obtain ⟨p1, p2, p3, p4, p5⟩ := id P
  have r4 := p3.r s2
  have r5 : me_r (-5 : Int) := ⟨by omega, by omega⟩
  refine ⟨r4, r5, fun z => ⟨r4, r5, fun _ => ⟨Or.inl rfl, p1, p2, Or.inl rfl, fun w => absurd z (p5 w).2.1⟩, fun w => absurd z w⟩, fun z => ⟨r4, hr, fun _ => ⟨r4, r5, fun w => absurd w z, fun _ => ⟨Or.inr rfl, p1, p2, Or.inr rfl, fun w => ⟨(p5 w).1, rfl, (p5 w).2.2⟩⟩⟩, fun _ => ⟨by omega, by omega, ?_⟩⟩⟩
  obtain ⟨w, w1, w2⟩ := E.first he
  rw [Int.toNat_natCast, show me_i M1 (p + 19) e = (w : Int) from (S1.A 5 e (by omega) (by omega)).trans w1]
  refine ca_V (by omega) (er_end (by omega) E S1 w2 (by omega) (by omega) p1 fun _ _ z => z) (fun M5 _ g => ?_) nt_E_no
  exact ⟨Or.inl rfl, g.1, by omega, Or.inl rfl, fun w => by omega⟩
theorem NP.es (S : ES p Mb h hc m kn lo e M) {lo' e' : Nat} (P : NP p Mb m h hc lo' e' M y M') : ES p Mb h hc m kn lo e M' := S.fr P.1 rX_p P.2.1
theorem and01 {a b : Int} (ha : a = 0 ∨ a = 1) (hb : b = 0 ∨ b = 1) : (Int32.ofInt a &&& Int32.ofInt b).toInt = if a = 1 ∧ b = 1 then 1 else 0 := by
  rcases ha with rfl | rfl <;> rcases hb with rfl | rfl <;> decide
/-- typeOfBoth -/
theorem c_357 {y : Nat} (E : EB p C n m cl Φ Mb h hc) (T : TNP N X p n m cl Mb h hc sz) (S : ES p Mb h hc m kn lo e M) (he : e < n) (ho : nA p Mb 0 e = 15) (hx : nA p Mb 1 e = (x : Int)) (hy : nA p Mb 2 e = (y : Int)) (sx : seg (nA p Mb) lo x) (sy : seg (nA p Mb) (x + 1) y) (ye : y + 1 = e) (ox : 1 ≤ nA p Mb 0 x ∧ nA p Mb 0 x ≤ 16) (oy : 1 ≤ nA p Mb 0 y ∧ nA p Mb 0 y ≤ 16) (hs : e - lo ≤ sz) (hd : 3 * (e - lo) + 28 ≤ d) : me_W (mt_G N X) 357 d 0 [some (.inr (.inl (some p, 29, 0))), some (.inl (e : Int)), none, none, none, none] [] M (sx_qI (fun y M' => EQ p Mb m cl h hc lo e M y M') nt_E) := by
  have n7 := E.n7
  have s2 := E.1.2.2.2.1.2.1
  have lx := sx.1
  have ly := sy.1
  have a1 : ∀ M1, ES p Mb h hc m kn lo e M1 → me_i M1 (p + 15) e = (x : Int) := fun M1 S1 => (S1.A 1 e (by omega) (by omega)).trans hx
  have a2 : ∀ M1, ES p Mb h hc m kn lo e M1 → me_i M1 (p + 16) e = (y : Int) := fun M1 S1 => (S1.A 2 e (by omega) (by omega)).trans hy
  have wtE : ∀ M1 (v : Int), (v = 0 ∨ v = 1) → wt p Mb h hc m M1 e v := fun M1 v hv => by
    unfold wt WT
    rw [ho]
    exact ⟨fun _ => hv, fun z => by omega, fun z => by omega, fun z => by omega, fun z => by omega, fun z => by omega, fun z => by omega, fun z => by omega, fun z => by omega, fun _ => hv⟩
  have bad : ∀ M2, fr (rX p (nA p Mb) lo e) M M2 → (0 ≤ me_i M2 p 33 ∧ me_i M2 p 33 ≤ 14) → ¬ me_i M2 p 33 = 0 → EQ p Mb m cl h hc lo e M (-5) M2 := fun M2 f r z => EQ.bad f (by omega)
  have err : ∀ (k : Nat) M2, k < n → ES p Mb h hc m kn lo e M2 → fr (rX p (nA p Mb) lo e) M M2 → ∃ d', d = d' + 1 ∧ me_W (mt_G N X) 334 d' 0 [some (.inr (.inl (some p, 29, 0))), some (.inl 7), some (.inl (me_i M2 (p + 19) k)), none] [] M2 (sx_qV (fun M9 => sx_qI (fun y M' => EQ p Mb m cl h hc lo e M y M') nt_E (.inr (some (.inl (-5)))) M9) (fun e11 M10 => sx_qI (fun y M' => EQ p Mb m cl h hc lo e M y M') nt_E (.inl e11) M10)) := fun k M2 hk S2 f => by
    obtain ⟨w, w1, w2⟩ := E.first hk
    rw [show me_i M2 (p + 19) k = (w : Int) from (S2.A 5 k (by omega) (by omega)).trans w1]
    exact ca_V (by omega) (er_end (by omega) E S2 w2 (by omega) (by omega) f fun _ _ z => z) (fun M5 _ g => EQ.bad g.1 g.2) nt_E_no
  have W21 : me_W (mt_G N X) 357 d 21 [some (.inr (.inl (some p, 29, 0))), some (.inl (e : Int)), none, none, none, none] [] M (sx_qI (fun y M' => EQ p Mb m cl h hc lo e M y M') nt_E) := by
    refine b357_21 ?_
    rw [Int.toNat_natCast, a1 M S]
    refine ⟨by omega, by omega, ca_I (by omega) (T M kn lo x (d - 1) (by omega) sx ox.1 ox.2 (by omega) (S.sub (Nat.le_refl _) (by omega)) (by omega)) (fun y4 M1 _ P => ?_) nt_E_no⟩
    have S1 := P.es S
    rw [a2 M1 S1]
    refine ⟨by omega, by omega, ca_I (by omega) (T M1 kn (x + 1) y (d - 1) (by omega) sy oy.1 oy.2 (by omega) (S1.sub (by omega) (by omega)) (by omega)) (fun y8 M5 _ P5 => ?_) nt_E_no⟩
    have S5 := P5.es S1
    obtain ⟨p1, p2, p3, p4, p5⟩ := P
    obtain ⟨q1, q2, q3, q4, q5⟩ := P5
    have F : fr (rX p (nA p Mb) lo e) M M5 := (p1.mo (rX_mo (Nat.le_refl _) (by omega))).tr (q1.mo (rX_mo (by omega) (by omega)))
    have r4 := p3.r s2
    have r8 := q3.r s2
    have r5 : me_r (-5 : Int) := ⟨by omega, by omega⟩
    rw [a1 M5 S5, Int.toNat_natCast]
    have good : EQ p Mb m cl h hc lo e M 1 M5 := ⟨F, q2, Or.inr (Or.inl ⟨by omega, by omega⟩), fun z => by
      obtain ⟨z1, z2, z3⟩ := q5 z
      obtain ⟨z4, z5, z6⟩ := p5 z1
      refine ⟨z4, by omega, ?_, wtE _ _ (Or.inr rfl)⟩
      rw [← ye]
      exact (z6.keep E (Nat.le_refl _) ly (by omega) q1).app z3⟩
    have W143 : me_W (mt_G N X) 357 d 143 [some (.inr (.inl (some p, 29, 0))), some (.inl (e : Int)), none, none, none, none] [] M5 (sx_qI (fun y M' => EQ p Mb m cl h hc lo e M y M') nt_E) := by
      refine b357_143 ?_
      rw [Int.toNat_natCast, a2 M5 S5, Int.toNat_natCast]
      exact ⟨by omega, by omega, by omega, by omega, err y M5 (by omega) S5 F⟩
    have W101 : ∀ fl : Int, me_r fl → me_W (mt_G N X) 357 d 101 [some (.inr (.inl (some p, 29, 0))), some (.inl (e : Int)), none, some (.inl y4), some (.inl y8), none] [.inl fl] M5 (sx_qI (fun y M' => EQ p Mb m cl h hc lo e M y M') nt_E) := fun fl hfl => by
      have J := S5.js E
      have hsp := J.2.2.2.1.2.2.2.2
      unfold ty_x at p3 q3
      refine b357_101 ⟨r8, ⟨by omega, by omega⟩, fun _ => W143, fun _ => ⟨hfl, fun _ => ?_, fun _ => ⟨r4, r8, fun _ => W143, fun _ => b357_163 good⟩⟩⟩
      refine ca_I (by omega) (c_350 (by omega) hsp s2 (by omega) (by omega) (by omega) (by omega)) (fun y1 M6 _ g => ?_) nt_E_no
      obtain ⟨rfl, g⟩ := g
      refine ⟨by rcases g with g | g <;> rw [g.1] <;> exact ⟨by omega, by omega⟩, fun _ => b357_163 good, fun _ => ca_I (by omega) (c_350 (by omega) hsp s2 (by omega) (by omega) (by omega) (by omega)) (fun y2 M7 _ g => ?_) nt_E_no⟩
      obtain ⟨rfl, g⟩ := g
      exact ⟨by rcases g with g | g <;> rw [g.1] <;> exact ⟨by omega, by omega⟩, fun _ => b357_163 good, fun _ => W143⟩
    refine ⟨r4, r5, fun z => b357_57 (bad M5 F q2 fun w => (p5 (q5 w).1).2.1 z), fun z => ⟨r8, r5, fun z2 => ⟨r4, ⟨by omega, by omega⟩, fun z3 => ⟨r4, ⟨by omega, by omega⟩, fun _ => b357_96 (W101 1 ⟨by omega, by omega⟩), fun _ => ⟨r8, ⟨by omega, by omega⟩, fun _ => W101 0 ⟨by omega, by omega⟩, fun _ => b357_96 (W101 1 ⟨by omega, by omega⟩)⟩⟩, fun _ => ⟨by omega, by omega, by omega, by omega, err x M5 (by omega) S5 F⟩⟩, fun z2 => b357_57 (bad M5 F q2 fun w => (q5 w).2.1 z2)⟩⟩
  have W184 : ∀ (x2 fl : Int), me_r x2 → (fl = 0 ∨ fl = 1) → me_W (mt_G N X) 357 d 184 [some (.inr (.inl (some p, 29, 0))), some (.inl (e : Int)), some (.inl x2), none, none, none] [.inl fl] M (sx_qI (fun y M' => EQ p Mb m cl h hc lo e M y M') nt_E) := fun x2 fl rx hfl => by
    have rf : me_r fl := by rcases hfl with z | z <;> rw [z] <;> exact ⟨by omega, by omega⟩
    refine b357_184 ?_
    rw [Int.toNat_natCast, a1 M S]
    refine ⟨by omega, by omega, ca_I (by omega) (c_356 E T (S.sub (Nat.le_refl _) (by omega)) (by omega) sx ox.1 ox.2 (by omega) rf (by omega)) (fun y4 M1 _ P => ?_) nt_E_no⟩
    have S1 := P.es S
    rw [a2 M1 S1]
    refine ⟨by omega, by omega, ca_I (by omega) (c_356 E T (S1.sub (by omega) (by omega)) (by omega) sy oy.1 oy.2 (by omega) rf (by omega)) (fun y8 M5 _ P5 => ?_) nt_E_no⟩
    have S5 := P5.es S1
    obtain ⟨p1, p2, p3, p5⟩ := P
    obtain ⟨q1, q2, q3, q5⟩ := P5
    have F : fr (rX p (nA p Mb) lo e) M M5 := (p1.mo (rX_mo (Nat.le_refl _) (by omega))).tr (q1.mo (rX_mo (by omega) (by omega)))
    rw [and01 p3 q3]
    have W250 : ∀ fl2 : Int, me_r fl2 → me_W (mt_G N X) 357 d 250 [none, none, none, none, some (.inl (if y4 = 1 ∧ y8 = 1 then 1 else 0)), none] [.inl fl2] M5 (sx_qI (fun y M' => EQ p Mb m cl h hc lo e M y M') nt_E) := fun fl2 rfl2 => by
      have good : ∀ v : Int, (v = 0 ∨ v = 1) → EQ p Mb m cl h hc lo e M v M5 := fun v hv => ⟨F, q2, Or.inr (Or.inl ⟨by omega, by omega⟩), fun z => by
        obtain ⟨z1, z2, z3⟩ := q5 z
        obtain ⟨z4, z5, z6⟩ := p5 z1
        refine ⟨z4, by omega, ?_, wtE _ _ hv⟩
        rw [← ye]
        exact (z6.keep E (Nat.le_refl _) ly (by omega) q1).app z3⟩
      refine b357_250 ⟨by split <;> exact ⟨by omega, by omega⟩, fun _ => ⟨rfl2, fun _ => b357_272 (good 0 (Or.inl rfl)), fun _ => b357_272 (good 1 (Or.inr rfl))⟩, fun z => b357_272 (bad M5 F q2 fun w => ?_)⟩
      rw [if_pos ⟨(p5 (q5 w).1).2.1, (q5 w).2.1⟩] at z
      omega
    have W245 := b357_245 (x4 := if y4 = 1 ∧ y8 = 1 then 1 else 0) (W250 1 ⟨by omega, by omega⟩)
    exact ⟨rf, ⟨by omega, by omega⟩, fun _ => W245, fun _ => ⟨rx, ⟨by omega, by omega⟩, fun _ => W245, fun _ => ⟨rx, ⟨by omega, by omega⟩, fun _ => W245, fun _ => ⟨rx, ⟨by omega, by omega⟩, fun _ => W245, fun _ => ⟨rx, ⟨by omega, by omega⟩, fun _ => W250 0 ⟨by omega, by omega⟩, fun _ => W245⟩⟩⟩⟩⟩
  refine b357_0 ?_
  rw [Int.toNat_natCast]
  have r3 : me_r (me_i M (p + 17) e) := me_i_r _ _ _
  exact ⟨by omega, by omega, r3, ⟨by omega, by omega⟩, fun _ => W21, fun _ => ⟨r3, ⟨by omega, by omega⟩, fun _ => ⟨r3, ⟨by omega, by omega⟩, fun _ => b357_179 (W184 _ 1 r3 (Or.inr rfl)), fun _ => ⟨r3, ⟨by omega, by omega⟩, fun _ => W184 _ 0 r3 (Or.inl rfl), fun _ => b357_179 (W184 _ 1 r3 (Or.inr rfl))⟩⟩, fun _ => W21⟩⟩
end BOTH
