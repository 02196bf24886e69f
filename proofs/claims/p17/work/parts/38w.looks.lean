/-! the reference's judge: looksAt -/
/-- where judging the statement lo .. s changes ints, kn being known before -/
def rL (p : Nat) (A : Nat → Nat → Int) (lo s kn : Nat) : Nat → Nat → Prop := fun b j => rX p A lo s b j ∨ b = p ∧ j = 48 ∨ b = p + 41 ∧ kn ≤ j
theorem rL_J {p : Nat} {A : Nat → Nat → Int} {lo s kn : Nat} : ∀ b j, rL p A lo s kn b j → rJ p b j := fun b j z => by
  rcases z with z | z | z
  · exact rX_J b j z
  · unfold rJ
    omega
  · unfold rJ
    omega
theorem rL_mo {p : Nat} {A : Nat → Nat → Int} {lo s kn lo' s' kn' : Nat} (h1 : lo ≤ lo') (h2 : s' ≤ s) (h3 : kn ≤ kn') : ∀ b j, rL p A lo' s' kn' b j → rL p A lo s kn b j := fun b j z => by
  rcases z with z | z | z
  · exact Or.inl (rX_mo h1 h2 b j z)
  · exact Or.inr (Or.inl z)
  · exact Or.inr (Or.inr ⟨z.1, by omega⟩)
theorem rL_X {p : Nat} {A : Nat → Nat → Int} {lo s kn lo' s' : Nat} (h1 : lo ≤ lo') (h2 : s' ≤ s) : ∀ b j, rX p A lo' s' b j → rL p A lo s kn b j := fun b j z => Or.inl (rX_mo h1 h2 b j z)
/-- behind looksAt -/
def LKP (p : Nat) (Mb : me_M) (m h hc lo s kn : Nat) (M : me_M) (y : Int) (M' : me_M) : Prop := fr (rL p (nA p Mb) lo s kn) M M' ∧ (0 ≤ me_i M' p 33 ∧ me_i M' p 33 ≤ 14) ∧ (y = 0 ∨ y = 1) ∧ (∃ kn', KN p M' m kn' ∧ (kn' = kn ∨ kn' = kn + 1 ∧ nA p Mb 0 s = 21 ∧ 0 ≤ nA p Mb 8 s ∧ nA p Mb 0 (nA p Mb 8 s).toNat = 20 ∧ me_i M' (p + 41) kn = nA p Mb 2 s)) ∧ (me_i M' p 33 = 0 → me_i M p 33 = 0 ∧ WS p Mb h hc m M' lo (s + 1))
def LA (N : Nat) (X : Nat → Int32) (p n m : Nat) (Mb : me_M) (h hc sz : Nat) : Prop := ∀ (M : me_M) (kn lo s d : Nat), s < n → seg (nA p Mb) lo s → 20 ≤ nA p Mb 0 s → nA p Mb 0 s ≤ 27 → s - lo < sz → (∀ k, lo ≤ k → k ≤ s → nA p Mb 10 k = h) → (nA p Mb 0 s = 21 → 0 ≤ nA p Mb 8 s) → ES p Mb h hc m kn lo s M → kn + (s + 1 - lo) ≤ 2406 → 3 * (s - lo) + 34 ≤ d → me_W (mt_G N X) 359 d 0 [some (.inr (.inl (some p, 29, 0))), some (.inl (s : Int)), none, none, none] [] M (sx_qI (fun y M' => LKP p Mb m h hc lo s kn M y M') nt_E)
theorem or01 {a b : Int} (ha : a = 0 ∨ a = 1) (hb : b = 0 ∨ b = 1) : (Int32.ofInt a ||| Int32.ofInt b).toInt = 0 ∨ (Int32.ofInt a ||| Int32.ofInt b).toInt = 1 := by
  rcases ha with rfl | rfl <;> rcases hb with rfl | rfl <;> decide
theorem and01' {a b : Int} (ha : a = 0 ∨ a = 1) (hb : b = 0 ∨ b = 1) : (Int32.ofInt a &&& Int32.ofInt b).toInt = 0 ∨ (Int32.ofInt a &&& Int32.ofInt b).toInt = 1 := by
  rcases ha with rfl | rfl <;> rcases hb with rfl | rfl <;> decide
section LOOK
variable {N : Nat} {X : Nat → Int32} {d p C n m cl h hc kn lo e s x k sz : Nat} {Φ : Nat → Nat} {Mb M M' : me_M} {y : Int} {w : Nat}
theorem ES_kn (S : ES p Mb h hc m kn lo e M) : me_i M p 48 = (kn : Int) := S.2.2.2.1.1
theorem KN_rL (K : KN p M m kn) {A : Nat → Nat → Int} (f : fr (rL p A lo s kn) M M') (h48 : me_i M' p 48 = (kn : Int)) : KN p M' m kn := by
  obtain ⟨g1, g2, g3⟩ := K
  refine ⟨h48, g2, fun i i1 => ?_⟩
  obtain ⟨q, q1, q2, q3⟩ := g3 i i1
  refine ⟨q, by rw [f.i (fun z => by
    rcases z with z | z | z
    · rcases z with z | z | ⟨z, _⟩ | z | z <;> omega
    · omega
    · omega), q1], q2, ?_⟩
  rw [show tA p M' 0 q = tA p M 0 q from f.i (fun z => by
    rcases z with z | z | z
    · rcases z with z | z | ⟨z, _⟩ | z | z <;> omega
    · omega
    · omega)]
  exact q3
/-- when what was known is so again -/
theorem ES_back (S : ES p Mb h hc m kn lo e M) {lo' s' : Nat} (f : fr (rL p (nA p Mb) lo' s' kn) M M') (h48 : me_i M' p 48 = (kn : Int)) (he : 0 ≤ me_i M' p 33 ∧ me_i M' p 33 ≤ 14) : ES p Mb h hc m kn lo e M' := by
  have nr : ∀ j, 49 ≤ j → ¬ rL p (nA p Mb) lo' s' kn p j := fun j j1 z => by
    rcases z with z | z | z
    · rcases z with z | z | ⟨z, _⟩ | z | z <;> omega
    · omega
    · omega
  refine ⟨S.1.tr (f.mo rL_J), ⟨by rw [f.i (nr 49 (by omega))]; exact S.2.1.1, by rw [f.i (nr 50 (by omega))]; exact S.2.1.2.1, by rw [f.i (nr 51 (by omega))]; exact S.2.1.2.2⟩, he, KN_rL S.2.2.2.1 f h48, fun i q i1 i2 => S.2.2.2.2 i q i1 ?_⟩
  rw [← i2]
  exact (f.i (fun z => by
    rcases z with z | z | z
    · rcases z with z | z | ⟨z, _⟩ | z | z <;> omega
    · omega
    · omega)).symm
/-- behind a statement, for what is behind it -/
theorem LKP.es (E : EB p C n m cl Φ Mb h hc) {lo0 e0 lo' e' : Nat} (S : ES p Mb h hc m kn lo0 e0 M) (hs : s < n) (hh : nA p Mb 10 s = h) (P : LKP p Mb m h hc lo s kn M y M') (h1 : lo0 ≤ lo') (h2 : s < lo') (h3 : e' ≤ e0) (h4 : nA p Mb 0 s = 21 → (e' : Int) < nA p Mb 8 s) : ∃ kn', ES p Mb h hc m kn' lo' e' M' ∧ kn ≤ kn' ∧ kn' ≤ kn + 1 := by
  obtain ⟨f, hr, _, ⟨kn', K, hk⟩, _⟩ := P
  have nr : ∀ j, 49 ≤ j → ¬ rL p (nA p Mb) lo s kn p j := fun j j1 z => by
    rcases z with z | z | z
    · rcases z with z | z | ⟨z, _⟩ | z | z <;> omega
    · omega
    · omega
  refine ⟨kn', ⟨S.1.tr (f.mo rL_J), ⟨by rw [f.i (nr 49 (by omega))]; exact S.2.1.1, by rw [f.i (nr 50 (by omega))]; exact S.2.1.2.1, by rw [f.i (nr 51 (by omega))]; exact S.2.1.2.2⟩, hr, K, fun i q i1 i2 => ?_⟩, by omega, by omega⟩
  by_cases c : i < kn
  · refine (S.2.2.2.2 i q c ?_).mo h1 h3
    rw [← i2]
    exact (f.i (fun z => by
      rcases z with z | z | z
      · rcases z with z | z | ⟨z, _⟩ | z | z <;> omega
      · omega
      · omega)).symm
  · rcases hk with z | ⟨z1, z2, z3, z4, z5⟩
    · omega
    · have ik : i = kn := by omega
      rw [ik, z5] at i2
      have c5 := (E.1.G s hs).2.2.2.2.1 z2
      have c6 := (E.1.1.2.2.2.2.2.1.1 s hs).2.2.2.2.2.1 z2
      rw [i2, Int.toNat_natCast] at c5 c6
      exact ⟨by rw [c6, hh], Or.inr ⟨c5.2.1, s, h2, h4 z2, z2, i2, z4⟩⟩
theorem WS.fr {P : Nat → Nat → Prop} {hi : Nat} (E : EB p C n m cl Φ Mb h hc) (H : WS p Mb h hc m M lo hi) (hn : hi ≤ n) (f : fr P M M') (h1 : ∀ j, ¬ P (p + 23) j) (h2 : ∀ j, ¬ P (p + 38) j) : WS p Mb h hc m M' lo hi := fun k k1 k2 => nt_fr E (by omega) f (fun j _ _ => h1 j) (fun _ => h2 _) (H k k1 k2)
/-- knows is put back -/
theorem LKP.end (E : EB p C n m cl Φ Mb h hc) (S : ES p Mb h hc m kn lo s M) (hs : s < n) {M1 : me_M} (f : fr (rL p (nA p Mb) lo s kn) M M1) (hr : 0 ≤ me_i M1 p 33 ∧ me_i M1 p 33 ≤ 14) (hy : y = 0 ∨ y = 1) (hw : me_i M1 p 33 = 0 → me_i M p 33 = 0 ∧ WS p Mb h hc m M1 lo (s + 1)) : LKP p Mb m h hc lo s kn M y (me_sI M1 p 48 (Int32.ofInt (kn : Int))) := by
  have k7 := S.2.2.2.1.2.1
  have f1 : fr (fun b j => b = p ∧ j = 48) M1 (me_sI M1 p 48 (Int32.ofInt (kn : Int))) := fr_sI ⟨rfl, rfl⟩
  have v : me_i (me_sI M1 p 48 (Int32.ofInt (kn : Int))) p 48 = (kn : Int) := by
    rw [me_i_sI, if_pos ⟨rfl, rfl⟩, me_to ⟨by omega, by omega⟩]
  have F := f.tr (f1.mo fun b j z => Or.inr (Or.inl z))
  refine ⟨F, by rw [f1.i (by omega)]; exact hr, hy, ⟨kn, KN_rL S.2.2.2.1 F v, Or.inl rfl⟩, fun z => ?_⟩
  rw [f1.i (by omega)] at z
  exact ⟨(hw z).1, (hw z).2.fr E (by omega) f1 (fun j => by omega) fun j => by omega⟩
/-- where nothing gets known -/
theorem LKP.of (E : EB p C n m cl Φ Mb h hc) (S : ES p Mb h hc m kn lo s M) (f : fr (rX p (nA p Mb) lo s) M M') (hr : 0 ≤ me_i M' p 33 ∧ me_i M' p 33 ≤ 14) (hy : y = 0 ∨ y = 1) (hw : me_i M' p 33 = 0 → me_i M p 33 = 0 ∧ WS p Mb h hc m M' lo (s + 1)) : LKP p Mb m h hc lo s kn M y M' := ⟨f.mo (rL_X (Nat.le_refl _) (Nat.le_refl _)), hr, hy, ⟨kn, S.2.2.2.1.fr f (fun z => by
  rcases z with z | z | ⟨z, _⟩ | z | z <;> omega) (fun j _ z => by
  rcases z with z | z | ⟨z, _⟩ | z | z <;> omega) (fun j z => by
  rcases z with z | z | ⟨z, _⟩ | z | z <;> omega), Or.inl rfl⟩, hw⟩
/-- an exp and the statement's node -/
theorem ws_one (E : EB p C n m cl Φ Mb h hc) (hs : s < n) (sx : seg (nA p Mb) lo x) (xs : x + 1 = s) (ox : nA p Mb 0 x ≤ 16) (H : WR p Mb h hc m M lo (x + 1)) (h20 : 20 ≤ nA p Mb 0 s) (hst : st p Mb h M s) : WS p Mb h hc m M lo (s + 1) := by
  have a := H.ws fun k k1 k2 => seg_ex E.1.G (by omega) sx ox x k (by omega) k1 (by omega)
  rw [xs] at a
  exact a.app (WS.one ⟨fun z => by omega, fun _ => hst⟩)
theorem st_no (ho : ¬ nA p Mb 0 s = 21 ∧ ¬ nA p Mb 0 s = 22 ∧ ¬ nA p Mb 0 s = 23 ∧ ¬ nA p Mb 0 s = 26) : st p Mb h M s := ⟨fun z => absurd z ho.1, fun z => absurd z ho.2.1, fun z => absurd z ho.2.2.1, fun z => absurd z ho.2.2.2⟩
theorem blk_62 (E : EB p C n m cl Φ Mb h hc) (T : LA N X p n m Mb h hc sz) (S : ES p Mb h hc m kn lo s M) (hs : s < n) (ho : nA p Mb 0 s = 20) (hsz : s - lo ≤ sz) (hh : ∀ k, lo ≤ k → k ≤ s → nA p Mb 10 k = h) (hkn : kn + (s + 1 - lo) ≤ 2406) (hd : 3 * (s - lo) + 34 ≤ d) : ∀ (r : List Nat) (M1 : me_M) (cur kn1 : Nat) (x3 x4 : Int), lo ≤ cur → SG (nA p Mb) s cur r → CHN (nA p Mb) x4 r → fr (rL p (nA p Mb) lo s kn) M M1 → ES p Mb h hc m kn1 cur (s - 1) M1 → kn ≤ kn1 → kn1 ≤ kn + (cur - lo) → (x3 = 0 ∨ x3 = 1) → (me_i M1 p 33 = 0 → me_i M p 33 = 0 ∧ WS p Mb h hc m M1 lo cur) → me_W (mt_G N X) 359 d 62 [some (.inr (.inl (some p, 29, 0))), none, some (.inl (kn : Int)), some (.inl x3), some (.inl x4)] [] M1 (sx_qI (fun y M' => LKP p Mb m h hc lo s kn M y M') nt_E) := by
  have n7 := E.n7
  intro r
  induction r with
  | nil =>
    intro M1 cur kn1 x3 x4 hcu hsr hcr f S1 k1 k2 hx hw
    have hcr : x4 = -1 := hcr
    have hsr : cur = s := hsr
    subst hcr hsr
    refine b359_62 ⟨⟨by omega, by omega⟩, fun _ => ⟨hx, ?_⟩, fun z => by omega⟩
    exact LKP.end E S hs f S1.2.2.1 hx fun z => ⟨(hw z).1, (hw z).2.app (WS.one ⟨fun z => by omega, fun _ => st_no (by omega)⟩)⟩
  | cons a r ih =>
    intro M1 cur kn1 x3 x4 hcu hsr hcr f S1 k1 k2 hx hw
    obtain ⟨rfl, hcr⟩ := hcr
    obtain ⟨g1, g2, g3, g4⟩ := hsr
    have l := g1.1
    have oa := kid_sm E.1.G hs ho a a g2 g3 (Nat.le_refl _)
    refine b359_62 ⟨⟨by omega, by omega⟩, fun z => by omega, fun _ => ?_⟩
    refine ca_I (by omega) (T M1 kn1 cur a (d - 1) (by omega) g1 oa.1 oa.2 (by omega) (fun k z1 z2 => hh k (by omega) (by omega)) (fun _ => by omega) (S1.sub (Nat.le_refl _) (by omega)) (by omega) (by omega)) (fun y5 M2 _ P => ?_) nt_E_no
    obtain ⟨kn2, S2, q1, q2⟩ := P.es E S1 (by omega) (hh a (by omega) (by omega)) (lo' := a + 1) (e' := s - 1) (by omega) (by omega) (Nat.le_refl _) (fun _ => by omega)
    obtain ⟨p1, p2, p3, p4, p5⟩ := P
    refine ⟨by omega, by omega, ?_⟩
    rw [Int.toNat_natCast, show me_i M2 (p + 21) a = nA p Mb 7 a from S2.A 7 a (by omega) (by omega)]
    refine ih M2 (a + 1) kn2 _ _ (by omega) g4 hcr (f.tr (p1.mo (rL_mo hcu (by omega) k1))) S2 (by omega) (by omega) (and01' hx p3) fun z => ?_
    obtain ⟨z1, z2⟩ := p5 z
    obtain ⟨z3, z4⟩ := hw z1
    refine ⟨z3, WS.app (mid := cur) (fun k k1 k2 => ?_) z2⟩
    refine nt_fr E (by omega) p1 (fun j j1 j2 v => ?_) (fun v w => ?_) (z4 k k1 k2)
    · rcases v with v | v | v
      · rcases v with v | v | ⟨v, _⟩ | v | v <;> omega
      · omega
      · omega
    · rcases w with w | w | w
      · rcases w with w | w | ⟨_, i, i1, i2, i3⟩ | w | w
        · omega
        · omega
        · exact E.ne (a := k) (b := i) (by omega) (by omega) (by omega) v (by omega)
        · omega
        · omega
      · omega
      · omega
end LOOK
