/-! the reference's judge: typeOfCall's contract -/
theorem SG.mem {A : Nat → Nat → Int} {e : Nat} : ∀ {ks : List Nat} {lo : Nat}, SG A e lo ks → ∀ a, a ∈ ks → lo ≤ a ∧ a < e ∧ A 8 a = e
  | [], _, _, a, h => by cases h
  | c :: r, lo, ⟨h1, h2, h3, h4⟩, a, h => by
    have l := h1.1
    rcases List.mem_cons.mp h with rfl | z
    · exact ⟨l, h2, h3⟩
    · have := SG.mem h4 a z
      exact ⟨by omega, this.2⟩
theorem SG.len {A : Nat → Nat → Int} {e : Nat} : ∀ {ks : List Nat} {lo : Nat}, SG A e lo ks → ks.length + lo ≤ e
  | [], lo, h => by
    have h : lo = e := h
    rw [List.length_nil]
    omega
  | c :: r, lo, ⟨h1, h2, h3, h4⟩ => by
    have l := h1.1
    have := SG.len h4
    rw [List.length_cons]
    omega
theorem op_rng {A : Nat → Nat → Int} {o x y z : Int} (h : opk A o x y z) : 1 ≤ o ∧ o ≤ 27 ∧ (o ≤ 16 ∨ 20 ≤ o) := by
  unfold opk at h
  rcases h with h | h | h | h | h | h | h | h | h | h | h | h <;> omega
/-- kids of calls are exps -/
theorem kid_ex {A : Nat → Nat → Int} {b s : Nat → Int} {n D t e : Nat} {hh : Nat → Int × Nat} (G : ∀ k, k < n → cl A b s 0 n D t (hh k) k) (he : e < n) (ho : A 0 e ≤ 16) : ∀ (m k : Nat), k < e → A 8 k = e → k ≤ m → 1 ≤ A 0 k ∧ A 0 k ≤ 16 := by
  have o := (G e he).1
  intro m
  induction m with
  | zero =>
    intro k k1 k2 k3
    have ok := op_rng (G k (by omega)).1
    rcases kid_of G he k1 k2 with z | z | z | ⟨_, j, z2, _⟩
    · unfold opk ex sm at o
      rw [← z, Int.toNat_natCast] at o
      omega
    · unfold opk ex sm at o
      rw [← z.2, Int.toNat_natCast] at o
      omega
    · unfold opk ex sm at o
      rw [← z.2, Int.toNat_natCast] at o
      omega
    · omega
  | succ m ih =>
    intro k k1 k2 k3
    have ok := op_rng (G k (by omega)).1
    rcases kid_of G he k1 k2 with z | z | z | ⟨_, j, z2, z3, z4, _⟩
    · unfold opk ex sm at o
      rw [← z, Int.toNat_natCast] at o
      omega
    · unfold opk ex sm at o
      rw [← z.2, Int.toNat_natCast] at o
      omega
    · unfold opk ex sm at o
      rw [← z.2, Int.toNat_natCast] at o
      omega
    · have i := ih j (by omega) z3 (by omega)
      rcases (G j (by omega)).2.2.2.2.2.2.2.1 with v | ⟨_, _, _, v, _⟩
      · omega
      · rw [z4, Int.toNat_natCast] at v
        have := v i.2
        omega
/-- kids of blocks are statements -/
theorem kid_sm {A : Nat → Nat → Int} {b s : Nat → Int} {n D t e : Nat} {hh : Nat → Int × Nat} (G : ∀ k, k < n → cl A b s 0 n D t (hh k) k) (he : e < n) (ho : A 0 e = 20) : ∀ (m k : Nat), k < e → A 8 k = e → k ≤ m → 20 ≤ A 0 k ∧ A 0 k ≤ 27 := by
  have o := (G e he).1
  have o1 : A 1 e = -1 ∨ sm A (A 1 e) := by
    unfold opk at o
    rcases o with z | z | z | z | z | z | z | z | z | z | z | z
    all_goals first | exact z.2.1 | omega
  have o2 : A 2 e = -1 ∧ A 3 e = -1 := by
    unfold opk at o
    omega
  unfold sm at o1
  intro m
  induction m with
  | zero =>
    intro k k1 k2 k3
    have ok := op_rng (G k (by omega)).1
    rcases kid_of G he k1 k2 with z | z | z | ⟨_, j, z2, _⟩
    · rw [← z, Int.toNat_natCast] at o1
      omega
    · omega
    · omega
    · omega
  | succ m ih =>
    intro k k1 k2 k3
    have ok := op_rng (G k (by omega)).1
    rcases kid_of G he k1 k2 with z | z | z | ⟨_, j, z2, z3, z4, _⟩
    · rw [← z, Int.toNat_natCast] at o1
      omega
    · omega
    · omega
    · have i := ih j (by omega) z3 (by omega)
      rcases (G j (by omega)).2.2.2.2.2.2.2.1 with v | ⟨_, _, _, _, v, _⟩
      · omega
      · rw [z4, Int.toNat_natCast] at v
        have := v i.1
        omega
section CALL2
variable {N : Nat} {X : Nat → Int32} {d p C n m cl h hc kn lo e a0 x k sz : Nat} {Φ : Nat → Nat} {Mb M M' : me_M} {y c x3 x4 : Int} {ks : List Nat} {w : Nat}
theorem WR.fr {P : Nat → Nat → Prop} {hi : Nat} (E : EB p C n m cl Φ Mb h hc) (H : WR p Mb h hc m M lo hi) (hn : hi ≤ n) (f : fr P M M') (h1 : ∀ j, ¬ P (p + 23) j) (h2 : ∀ k, lo ≤ k → k < hi → 0 ≤ nA p Mb 4 k → ¬ P (p + 38) (nA p Mb 4 k).toNat) : WR p Mb h hc m M' lo hi := fun k k1 k2 => by
  rw [show nA p M' 9 k = nA p M 9 k from f.i (h1 k)]
  exact wt_fr E (by omega) f (fun j _ _ => h1 j) (h2 k k1 k2) (H k k1 k2)
/-- behind typeOfCall -/
def EC (p : Nat) (Mb : me_M) (m cl h hc a0 e w : Nat) (c x3 x4 : Int) (M : me_M) (y : Int) (M' : me_M) : Prop := fr (rX p (nA p Mb) a0 e) M M' ∧ (0 ≤ me_i M' p 33 ∧ me_i M' p 33 ≤ 14) ∧ ty_x cl y ∧ (me_i M' p 33 = 0 → me_i M p 33 = 0 ∧ ¬ y = -5 ∧ WR p Mb h hc m M' a0 e ∧ ∃ q : Nat, me_i M' (p + 38) w = (q : Int) ∧ q < m ∧ tA p Mb 0 q = 2 ∧ y = tA p Mb 8 q ∧ so (tA p Mb) x4 q ∧ (x4 = 0 → tA p Mb 4 h = 0 ∨ tA p Mb 4 q = 1) ∧ ME8 (tA p Mb) (sp p Mb) (fun q => me_i Mb (p + 37) q) m c q ∧ AG (nA p Mb) (tA p Mb) (sp p Mb) (nA p M' 9) e x3 q)
/-- while the arguments are judged -/
def AI (p : Nat) (Mb : me_M) (m cl h hc a0 e : Nat) (M M1 : me_M) (cur : Nat) (fl : Int) (ds : List Nat) : Prop := fr (rX p (nA p Mb) a0 e) M M1 ∧ (0 ≤ me_i M1 p 33 ∧ me_i M1 p 33 ≤ 14) ∧ (fl = 0 ∨ fl = 1) ∧ (me_i M1 p 33 = 0 → me_i M p 33 = 0 ∧ fl = 1 ∧ WR p Mb h hc m M1 a0 cur) ∧ ∀ a, a ∈ ds → a < cur ∧ ty_x cl (nA p M1 9 a)
theorem call_end (E : EB p C n m cl Φ Mb h hc) (S : ES p Mb h hc m kn a0 e M) (he : e < n) (hw : nA p Mb 4 e = (w : Int)) (hwC : w < C) (h4 : x4 = 0 ∨ x4 = 1 ∨ x4 = 2) (hd : 6 ≤ d) (hsg : SG (nA p Mb) e a0 ks) (hcn : CHN (nA p Mb) x3 ks) {M2 : me_M} (A : AI p Mb m cl h hc a0 e M M2 e 1 ks) {M3 : me_M} {cnt : Nat} {x8 : Int} (r8 : me_r x8) (I : CI p Mb m c x4 (ks.length : Int) (nA p M2 9) ks M2 M3 cnt (fun _ => True)) : me_W (mt_G N X) 348 d 75 [some (.inr (.inl (some p, 29, 0))), none, none, some (.inl x3), some (.inl x4), some (.inl (ks.length : Int)), none, some (.inl (w : Int)), some (.inl x8), some (.inl (cnt : Int)), some (.inl (-1)), none] [] M3 (sx_qI (fun y M' => EC p Mb m cl h hc a0 e w c x3 x4 M y M') nt_E) := by
  have n7 := E.n7
  obtain ⟨A1, A2, A3, A4, A5⟩ := A
  have S2 : ES p Mb h hc m kn a0 e M2 := S.fr A1 rX_p A2
  have f3 := I.1
  have S3 : ES p Mb h hc m kn a0 e M3 := S2.fr f3 (fun b j z => by omega) (by rw [f3.i (by omega)]; exact A2)
  have J3 := S3.js E
  have m7 := J3.m7
  have hC := E.1.2.1
  have F3 : fr (rX p (nA p Mb) a0 e) M M3 := A1.tr (f3.mo fun b j z => Or.inr (Or.inr (Or.inr (Or.inl z))))
  have rx4 : me_r x4 := by rcases h4 with z | z | z <;> rw [z] <;> exact ⟨by omega, by omega⟩
  refine b348_75 ⟨⟨by omega, by omega⟩, fun _ => ?_, fun z => by omega⟩
  refine ca_I (by omega) (c_351 (na := (ks.length : Int)) J3 (by omega) ⟨I.le E, fun i i1 => ?_⟩) (fun y4 M4 _ g => ?_) nt_E_no
  · obtain ⟨q, q1, q2, q3, q4, _⟩ := I.2.1 i i1
    exact ⟨q, q1, q2, (S3.B 0 q (by omega)).trans q3, (S3.B 9 q (by omega)).trans q4⟩
  obtain ⟨f4, g⟩ := g
  have S4 : ES p Mb h hc m kn a0 e M4 := S3.fr f4 (fun b j z => by omega) (by rw [f4.i (by omega)]; exact S3.2.2.1)
  have F4 : fr (rX p (nA p Mb) a0 e) M M4 := F3.tr (f4.mo fun b j z => Or.inr (Or.inr (Or.inr (Or.inr z))))
  have err : ∀ (v : Int) (M5 : me_M), 1 ≤ v → v ≤ 14 → ES p Mb h hc m kn a0 e M5 → fr (rX p (nA p Mb) a0 e) M M5 → ∃ d', d = d' + 1 ∧ me_W (mt_G N X) 334 d' 0 [some (.inr (.inl (some p, 29, 0))), some (.inl v), some (.inl (w : Int)), none] [] M5 (sx_qV (fun M11 => sx_qI (fun y M' => EC p Mb m cl h hc a0 e w c x3 x4 M y M') nt_E (.inr (some (.inl (-5)))) M11) (fun e13 M12 => sx_qI (fun y M' => EC p Mb m cl h hc a0 e w c x3 x4 M y M') nt_E (.inl e13) M12)) := fun v M5 v1 v2 S5 F5 => by
    refine ca_V (by omega) (er_end (by omega) E S5 hwC v1 v2 F5 fun _ _ z => z) (fun M6 _ g => ?_) nt_E_no
    exact ⟨g.1, by omega, Or.inl rfl, fun z => by omega⟩
  rcases g with rfl | ⟨j, j1, j2⟩
  · exact ⟨⟨by omega, by omega⟩, fun z => by omega, fun _ => ⟨r8, fun _ => err 6 M4 (by omega) (by omega) S4 F4, fun _ => err 8 M4 (by omega) (by omega) S4 F4⟩⟩
  · obtain ⟨q, q1, q2, q3, q4, q5, q6, q7, _⟩ := I.2.1 j j1
    have yq : y4 = (q : Int) := j2.trans q1
    subst yq
    refine ⟨⟨by omega, by omega⟩, fun _ => ?_, fun z => by omega⟩
    refine ca_V (by omega) (c_332 (by omega) ⟨by omega, by omega⟩) (fun M5 _ g => ?_) nt_E_no
    obtain ⟨f5, v5⟩ := g
    have S5 : ES p Mb h hc m kn a0 e M5 := S4.fr f5 (fun b j z => by omega) (by rw [f5.i (by omega)]; exact S4.2.2.1)
    have l0 : a0 ≤ e := by have := hsg.len; omega
    have F5 : fr (rX p (nA p Mb) a0 e) M M5 := F4.tr (f5.mo fun b j z => Or.inr (Or.inr (Or.inl ⟨z.1, e, l0, Nat.le_refl _, by rw [hw, z.2]⟩)))
    have f25 : fr (fun b j => b = p + 42 ∨ b = p + 43 ∨ b = p + 38 ∧ j = w) M2 M5 := ((f3.mo fun b j z => Or.inl z).tr (f4.mo fun b j z => Or.inr (Or.inl z))).tr (f5.mo fun b j z => Or.inr (Or.inr z))
    have t := E.ty q2 (by omega)
    have good : (x4 = 0 → tA p Mb 4 h = 0 ∨ tA p Mb 4 q = 1) → EC p Mb m cl h hc a0 e w c x3 x4 M (tA p Mb 8 q) M5 := fun h0 => by
      refine ⟨F5, S5.2.2.1, t.1, fun z => ?_⟩
      rw [f25.i (by omega)] at z
      obtain ⟨z1, z2, z3⟩ := A4 z
      refine ⟨z1, t.2, z3.fr E (by omega) f25 (fun j => by omega) (fun k k1 k2 k3 v => ?_), q, v5, q2, q3, rfl, q5, h0, q6, ks, hcn, fun a a1 => ⟨(hsg.mem a a1).2.2, (hsg.mem a a1).2.1⟩, q4.symm, ?_⟩
      · have := E.ne (a := k) (b := e) (by omega) he (by omega) k3
        omega
      · rw [show nA p M5 9 = nA p M2 9 by
          funext a
          exact f25.i (by omega)]
        exact q7
    rw [S5.2.1.2.1, Int.toNat_natCast, show me_i M5 (p + 33) q = tA p Mb 8 q from S5.B 8 q (by omega), show me_i M5 (p + 29) q = tA p Mb 4 q from S5.B 4 q (by omega)]
    have rs : me_r (tA p Mb 4 h) := me_i_r _ _ _
    have rq : me_r (tA p Mb 4 q) := me_i_r _ _ _
    exact ⟨rx4, fun z => ⟨by omega, by omega, good fun v => absurd v z⟩, fun z => ⟨rs, fun z1 => ⟨by omega, by omega, good fun _ => Or.inl z1⟩, fun z1 => ⟨by omega, by omega, fun st => ⟨rq, fun z2 => ⟨by omega, by omega, good fun _ => Or.inr (by omega)⟩, fun z2 => err 10 M5 (by omega) (by omega) S5 F5⟩⟩⟩⟩
theorem arg_9 (E : EB p C n m cl Φ Mb h hc) (T : TNP N X p n m cl Mb h hc sz) (S : ES p Mb h hc m kn a0 e M) (he : e < n) (ho : nA p Mb 0 e = 8 ∨ nA p Mb 0 e = 12) (hw : nA p Mb 4 e = (w : Int)) (hwC : w < C) (hc0 : 0 ≤ c) (hcl : c < cl) (h4 : x4 = 0 ∨ x4 = 1 ∨ x4 = 2) (hs : e - a0 ≤ sz) (hd : 3 * (e - a0) + 28 ≤ d) (hsg : SG (nA p Mb) e a0 ks) (hcn : CHN (nA p Mb) x3 ks) : ∀ (r ds : List Nat) (M1 : me_M) (cur : Nat) (fl x7 : Int), ks = ds ++ r → a0 ≤ cur → SG (nA p Mb) e cur r → CHN (nA p Mb) x7 r → AI p Mb m cl h hc a0 e M M1 cur fl ds → me_W (mt_G N X) 348 d 9 [some (.inr (.inl (some p, 29, 0))), some (.inl (e : Int)), some (.inl c), some (.inl x3), some (.inl x4), some (.inl (ds.length : Int)), some (.inl fl), some (.inl x7), none, none, none, none] [] M1 (sx_qI (fun y M' => EC p Mb m cl h hc a0 e w c x3 x4 M y M') nt_E) := by
  have n7 := E.n7
  have s2 := E.1.2.2.2.1.2.1
  have kl := hsg.len
  intro r
  induction r with
  | nil =>
    intro ds M1 cur fl x7 hk hcu hsr hcr A
    have hcr : x7 = -1 := hcr
    have hsr : cur = e := hsr
    rw [List.append_nil] at hk
    subst hk hcr hsr
    have A0 := A
    obtain ⟨A1, A2, A3, A4, A5⟩ := A0
    have S1 : ES p Mb h hc m kn a0 cur M1 := S.fr A1 rX_p A2
    refine b348_9 ⟨⟨by omega, by omega⟩, fun _ => ⟨by rcases A3 with z | z <;> rw [z] <;> exact ⟨by omega, by omega⟩, fun z => ⟨by omega, by omega, ?_⟩, fun z => ⟨A1, A2, Or.inl rfl, fun w => by have := (A4 w).2.1; omega⟩⟩, fun z => by omega⟩
    have z1 : fl = 1 := by omega
    subst z1
    rw [Int.toNat_natCast, show me_i M1 (p + 18) cur = (w : Int) from (S1.A 4 cur (by omega) (by omega)).trans hw]
    refine call_75 (M := M1) (T := nA p M1 9) (lo := a0) (e := cur) (Φ := Φ) (C := C) E S1 hwC (by omega) hcn (fun a a1 => ⟨by have := (hsg.mem a a1).2.1; omega, (A5 a a1).2⟩) (fun _ => rfl) (by omega) h4 (fun M3 cnt x8 r8 I => ?_) (rank (sp p Mb) c + 1) c (by omega) hcl (fun z => up.rf z) (by omega) M1 0 0 ⟨by omega, by omega⟩ ⟨fr.rf, fun i z => by omega, fun i j _ z => by omega⟩
    exact call_end E S he hw hwC h4 (by omega) hsg hcn A r8 I
  | cons a r ih =>
    intro ds M1 cur fl x7 hk hcu hsr hcr A
    obtain ⟨rfl, hcr⟩ := hcr
    obtain ⟨g1, g2, g3, g4⟩ := hsr
    have l := g1.1
    obtain ⟨A1, A2, A3, A4, A5⟩ := A
    have S1 : ES p Mb h hc m kn a0 e M1 := S.fr A1 rX_p A2
    have oa : 1 ≤ nA p Mb 0 a ∧ nA p Mb 0 a ≤ 16 := by
      exact kid_ex E.1.G he (by omega) a a g2 g3 (Nat.le_refl _)
    refine b348_9 ⟨⟨by omega, by omega⟩, fun z => by omega, fun _ => ?_⟩
    refine ca_I (by omega) (T M1 kn cur a (d - 1) (by omega) g1 oa.1 oa.2 (by omega) (S1.sub (by omega) (by omega)) (by omega)) (fun y4 M2 _ P => ?_) nt_E_no
    have S2 := P.es S1
    obtain ⟨p1, p2, p3, p4, p5⟩ := P
    rw [Int.toNat_natCast, show me_i M2 (p + 21) a = nA p Mb 7 a from S2.A 7 a (by omega) (by omega), and01 A3 (Or.inl rfl), and01 A3 (Or.inr rfl), show (ds.length : Int) + 1 = ((ds ++ [a]).length : Int) by rw [List.length_append, List.length_cons, List.length_nil]; omega]
    have F : fr (rX p (nA p Mb) a0 e) M M2 := A1.tr (p1.mo (rX_mo hcu (by omega)))
    have A2' : ∀ fl' : Int, (fl' = 0 ∨ fl' = 1) → (me_i M2 p 33 = 0 → fl' = 1) → AI p Mb m cl h hc a0 e M M2 (a + 1) fl' (ds ++ [a]) := fun fl' h1 h2 => by
      refine ⟨F, p2, h1, fun z => ?_, fun b b1 => ?_⟩
      · obtain ⟨z1, z2, z3⟩ := p5 z
        obtain ⟨z4, z5, z6⟩ := A4 z1
        exact ⟨z4, h2 z, (z6.keep E (Nat.le_refl _) l (by omega) p1).app z3⟩
      · rcases List.mem_append.mp b1 with z | z
        · have := A5 b z
          refine ⟨by omega, ?_⟩
          rw [show nA p M2 9 b = nA p M1 9 b from p1.i (fun z => by
            rcases z with z | z | ⟨z, _⟩ | z | z <;> omega)]
          exact this.2
        · rw [List.mem_singleton.mp z, p4]
          exact ⟨by omega, p3⟩
    have hk2 : ks = (ds ++ [a]) ++ r := by rw [hk, List.append_assoc]; rfl
    refine ⟨p3.r s2, ⟨by omega, by omega⟩, fun z => ⟨by omega, by omega, ?_⟩, fun z => ⟨by omega, by omega, ?_⟩⟩
    · refine ih (ds ++ [a]) M2 (a + 1) _ _ hk2 (by omega) g4 hcr (A2' _ ?_ fun w => absurd z (p5 w).2.1)
      split <;> simp
    · refine ih (ds ++ [a]) M2 (a + 1) _ _ hk2 (by omega) g4 hcr (A2' _ ?_ fun w => ?_)
      · split <;> simp
      · rw [if_pos ⟨(A4 (p5 w).1).2.1, rfl⟩]
/-- typeOfCall -/
theorem c_348 (E : EB p C n m cl Φ Mb h hc) (T : TNP N X p n m cl Mb h hc sz) (S : ES p Mb h hc m kn a0 e M) (he : e < n) (ho : nA p Mb 0 e = 8 ∨ nA p Mb 0 e = 12) (hw : nA p Mb 4 e = (w : Int)) (hwC : w < C) (hc0 : 0 ≤ c) (hcl : c < cl) (h4 : x4 = 0 ∨ x4 = 1 ∨ x4 = 2) (hs : e - a0 ≤ sz) (hd : 3 * (e - a0) + 28 ≤ d) (hsg : SG (nA p Mb) e a0 ks) (hcn : CHN (nA p Mb) x3 ks) : me_W (mt_G N X) 348 d 0 [some (.inr (.inl (some p, 29, 0))), some (.inl (e : Int)), some (.inl c), some (.inl x3), some (.inl x4), none, none, none, none, none, none, none] [] M (sx_qI (fun y M' => EC p Mb m cl h hc a0 e w c x3 x4 M y M') nt_E) := b348_0 (arg_9 E T S he ho hw hwC hc0 hcl h4 hs hd hsg hcn ks [] M a0 1 x3 rfl (Nat.le_refl _) hsg hcn ⟨fr.rf, S.2.2.1, Or.inr rfl, fun z => ⟨z, rfl, fun k k1 k2 => by omega⟩, fun a z => by cases z⟩)
end CALL2
