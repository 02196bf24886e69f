/-! the reference's judge: isCloser, nearest, takesAll -/
/-- an exp's type, or that it isn't known -/
def ty_x (cl : Nat) (y : Int) : Prop := y = -5 ∨ 0 ≤ y ∧ y ≤ 3 ∨ 10 ≤ y ∧ y < 10 + cl
theorem ty_v.x {cl : Nat} {y : Int} (h : ty_v cl y) : ty_x cl y := by
  unfold ty_v at h
  unfold ty_x
  omega
/-- the types of a row of exps fit those of the params from q on -/
def AF (nx : Nat → Int) (T b8 : Nat → Int) : Nat → List Nat → Prop
  | _, [] => True
  | q, a :: r => fit nx (T a) (b8 q) ∧ AF nx T b8 (q + 1) r
section MET
variable {p C n m cl q : Nat} {Φ : Nat → Nat} {M : me_M}
theorem JS.met (H : JS p C n m cl Φ M) (hq : q < m) (hs : tA p M 0 q = 2) : (0 ≤ tA p M 9 q ∧ tA p M 9 q ≤ 8 ∧ (q : Int) + tA p M 9 q < m) ∧ ∀ i : Nat, (i : Int) < tA p M 9 q → tA p M 0 (q + 1 + i) = 3 ∧ tA p M 3 (q + 1 + i) = q := by
  have t := (H.td hq).2.2
  rcases t with z | z | z | z | z
  · omega
  · omega
  · obtain ⟨_, _, _, _, w1, w2, w3, _, w4⟩ := z
    exact ⟨⟨w1, w2, w3⟩, fun i i1 => ⟨(w4 i i1).1, (w4 i i1).2.1⟩⟩
  · omega
  · omega
theorem JS.mtd (H : JS p C n m cl Φ M) (hq : q < m) (hs : tA p M 0 q = 2) : mtd p M q := by
  have h := (H.met hq hs).1
  have := H.m7
  exact ⟨by omega, h.1, by omega, H.hn q hq⟩
theorem JS.par (H : JS p C n m cl Φ M) (hq : q < m) (hs : tA p M 0 q = 2) {i : Nat} (hi : (i : Int) < tA p M 9 q) : q + 1 + i < m ∧ ty_v cl (tA p M 8 (q + 1 + i)) ∧ ¬ tA p M 8 (q + 1 + i) = 3 := by
  obtain ⟨h1, h2⟩ := H.met hq hs
  have h3 := h2 i hi
  have h4 := H.2.2.2.2.2.1 (q + 1 + i) (by omega) (by omega)
  exact ⟨by omega, h4.1, h4.2 (by omega)⟩
end MET
section CLO
variable {N : Nat} {X : Nat → Int32} {d p C n m cl q o : Nat} {Φ : Nat → Nat} {M : me_M}
theorem clo_5 (H : JS p C n m cl Φ M) (hd : 2 ≤ d) (hq : q < m) (sq : tA p M 0 q = 2) (ho : o < m) (so : tA p M 0 o = 2) (hc : tA p M 9 q = tA p M 9 o) : ∀ (f i : Nat) (x3 : Int), tA p M 9 q - i < f → (i : Int) ≤ tA p M 9 q → (x3 = 0 ∨ x3 = 1) → me_W (mt_G N X) 353 d 5 [some (.inr (.inl (some p, 29, 0))), some (.inl (q : Int)), some (.inl (o : Int)), some (.inl x3), some (.inl (i : Int))] [] M (sx_qI (fun y M' => M' = M ∧ (y = 0 ∨ y = 1)) nt_E) := by
  have m7 := H.m7
  have hm := (H.met hq sq).1
  have ho1 := (H.met ho so).1
  intro f
  induction f with
  | zero => intro i x3 hi; omega
  | succ f ih =>
    intro i x3 hi hi2 hx
    refine b353_5 ?_
    rw [Int.toNat_natCast, show me_i M (p + 34) q = tA p M 9 q from rfl]
    · refine ⟨by omega, by omega, ⟨by omega, by omega⟩, ⟨by omega, by omega⟩, fun _ => ⟨hx, rfl, hx⟩, fun z => ⟨by rcases hx with z | z <;> rw [z] <;> exact ⟨by omega, by omega⟩, fun _ => ⟨hx, rfl, hx⟩, fun _ => ?_⟩⟩
      refine ca_I (by omega) c_339 (fun y M1 _ g => ?_) nt_E_no
      obtain ⟨rfl, rfl⟩ := g
      refine ⟨by omega, by omega, ca_I (by omega) c_339 (fun y M2 _ g => ?_) nt_E_no⟩
      obtain ⟨rfl, rfl⟩ := g
      have a := H.par hq sq (i := i) z
      have b := H.par ho so (i := i) (by omega)
      rw [show ((q : Int) + 1 + i).toNat = q + 1 + i by omega, show ((o : Int) + 1 + i).toNat = o + 1 + i by omega]
      have a2 := a.2.1
      have b2 := b.2.1
      unfold ty_v at a2 b2
      have s2 := H.2.2.2.1.2.1
      refine ⟨by omega, by omega, ca_I (by omega) (c_350 (by omega) H.2.2.2.1.2.2.2.2 s2 (by show -100 ≤ tA p M2 8 (q + 1 + i); omega) (by show tA p M2 8 (q + 1 + i) < 10 + cl; omega) (by show -100 ≤ tA p M2 8 (o + 1 + i); omega) (by show tA p M2 8 (o + 1 + i) < 100; omega)) (fun y M3 _ g => ?_) nt_E_no⟩
      obtain ⟨rfl, g⟩ := g
      rw [show (i : Int) + 1 = ((i + 1 : Nat) : Int) by omega]
      exact ih (i + 1) y (by omega) (by omega) (by omega)
theorem c_353 (H : JS p C n m cl Φ M) (hd : 2 ≤ d) (hq : q < m) (sq : tA p M 0 q = 2) (ho : o < m) (so : tA p M 0 o = 2) (hc : tA p M 9 q = tA p M 9 o) : me_W (mt_G N X) 353 d 0 [some (.inr (.inl (some p, 29, 0))), some (.inl (q : Int)), some (.inl (o : Int)), none, none] [] M (sx_qI (fun y M' => M' = M ∧ (y = 0 ∨ y = 1)) nt_E) := b353_0 (clo_5 H hd hq sq ho so hc 9 0 1 (by have := (H.met hq sq).1; omega) (by have := (H.met hq sq).1; omega) (Or.inr rfl))
end CLO
section NEAR
variable {N : Nat} {X : Nat → Int32} {d p C n m cl cnt : Nat} {Φ : Nat → Nat} {M : me_M} {na : Int}
/-- those that might be meant -/
def MB (p : Nat) (M : me_M) (m cnt : Nat) (na : Int) : Prop := cnt ≤ 192 ∧ ∀ i, i < cnt → ∃ q : Nat, me_i M (p + 42) i = (q : Int) ∧ q < m ∧ tA p M 0 q = 2 ∧ tA p M 9 q = na
/-- those that are kept -/
def KP (p : Nat) (M M' : me_M) (cnt l : Nat) : Prop := fr (fun b _ => b = p + 43) M M' ∧ ∀ k, k < l → ∃ i, i < cnt ∧ me_i M' (p + 43) k = me_i M (p + 42) i
theorem near_98 (H : JS p C n m cl Φ M) (hd : 3 ≤ d) (hB : MB p M m cnt na) {l : Nat} {M1 : me_M} (hl : l ≤ cnt) (K : KP p M M1 cnt l) {i : Nat} (hi : i < l) (W : me_W (mt_G N X) 351 d 87 [some (.inr (.inl (some p, 29, 0))), none, some (.inl (l : Int)), some (.inl ((i : Int) + 1)), none, none] [] M1 (sx_qI (fun y M' => fr (fun b _ => b = p + 43) M M' ∧ (y = -1 ∨ ∃ j, j < cnt ∧ y = me_i M (p + 42) j)) nt_E)) : ∀ (f k : Nat) (x4 : Int), l - k < f → k ≤ l → (x4 = 0 ∨ x4 = 1) → me_W (mt_G N X) 351 d 98 [some (.inr (.inl (some p, 29, 0))), none, some (.inl (l : Int)), some (.inl (i : Int)), some (.inl x4), some (.inl (k : Int))] [] M1 (sx_qI (fun y M' => fr (fun b _ => b = p + 43) M M' ∧ (y = -1 ∨ ∃ j, j < cnt ∧ y = me_i M (p + 42) j)) nt_E) := by
  have H1 : JS p C n m cl Φ M1 := H.fr (K.1.mo fun b j z => by unfold rJ; omega)
  have eB : ∀ i j, i < 10 → tA p M1 i j = tA p M i j := fun i j _ => K.1.i (by omega)
  have c192 := hB.1
  intro f
  induction f with
  | zero => intro k x4 h; omega
  | succ f ih =>
    intro k x4 hf hk hx
    refine b351_98 ?_
    have fin : me_W (mt_G N X) 351 d 87 [some (.inr (.inl (some p, 29, 0))), none, some (.inl (l : Int)), some (.inl ((i : Int) + 1)), none, none] [] M1 (sx_qI (fun y M' => fr (fun b _ => b = p + 43) M M' ∧ (y = -1 ∨ ∃ j, j < cnt ∧ y = me_i M (p + 42) j)) nt_E) := W
    obtain ⟨a, a1, a2⟩ := K.2 i hi
    rw [Int.toNat_natCast, Int.toNat_natCast]
    have rx : me_r x4 := by rcases hx with z | z <;> rw [z] <;> exact ⟨by omega, by omega⟩
    refine ⟨⟨by omega, by omega⟩, ⟨by omega, by omega⟩, fun _ => ⟨rx, fun _ => fin, fun _ => ⟨by omega, by omega, K.1, Or.inr ⟨a, a1, a2⟩⟩⟩, fun z => ⟨rx, fun _ => ⟨rx, fun _ => fin, fun w => by omega⟩, fun _ => ⟨by omega, by omega, by omega, by omega, ?_⟩⟩⟩
    · obtain ⟨b, b1, b2⟩ := K.2 k (by omega)
      obtain ⟨qa, qa1, qa2, qa3, qa4⟩ := hB.2 a a1
      obtain ⟨qb, qb1, qb2, qb3, qb4⟩ := hB.2 b b1
      rw [a2, b2, qa1, qb1]
      refine ca_I (by omega) (c_353 H1 (by omega) qa2 (by rw [eB 0 _ (by omega)]; exact qa3) qb2 (by rw [eB 0 _ (by omega)]; exact qb3) (by rw [eB 9 _ (by omega), eB 9 _ (by omega), qa4, qb4])) (fun y M2 _ g => ?_) nt_E_no
      obtain ⟨rfl, g⟩ := g
      rw [show (k : Int) + 1 = ((k + 1 : Nat) : Int) by omega]
      exact ih (k + 1) y (by omega) (by omega) g
theorem near_87 (H : JS p C n m cl Φ M) (hd : 3 ≤ d) (hB : MB p M m cnt na) {l : Nat} {M1 : me_M} (hl : l ≤ cnt) (K : KP p M M1 cnt l) : ∀ (f i : Nat), l - i < f → i ≤ l → me_W (mt_G N X) 351 d 87 [some (.inr (.inl (some p, 29, 0))), none, some (.inl (l : Int)), some (.inl (i : Int)), none, none] [] M1 (sx_qI (fun y M' => fr (fun b _ => b = p + 43) M M' ∧ (y = -1 ∨ ∃ j, j < cnt ∧ y = me_i M (p + 42) j)) nt_E) := by
  have c192 := hB.1
  intro f
  induction f with
  | zero => intro i h; omega
  | succ f ih =>
    intro i hf hi
    refine b351_87 ⟨⟨by omega, by omega⟩, ⟨by omega, by omega⟩, fun _ => ⟨K.1, Or.inl rfl⟩, fun z => ?_⟩
    refine near_98 H hd hB hl K (i := i) (by omega) ?_ (l + 1) 0 1 (by omega) (by omega) (Or.inr rfl)
    rw [show (i : Int) + 1 = ((i + 1 : Nat) : Int) by omega]
    exact ih (i + 1) (by omega) (by omega)
theorem near_15 (H : JS p C n m cl Φ M) (hd : 4 ≤ d) (hB : MB p M m cnt na) {l i : Nat} {M1 : me_M} (hl : l ≤ i) (hi : i < cnt) (K : KP p M M1 cnt l) (W : ∀ M2 l', l' ≤ i + 1 → KP p M M2 cnt l' → me_W (mt_G N X) 351 d 4 [some (.inr (.inl (some p, 29, 0))), some (.inl (cnt : Int)), some (.inl (l' : Int)), some (.inl ((i : Int) + 1)), none, none] [] M2 (sx_qI (fun y M' => fr (fun b _ => b = p + 43) M M' ∧ (y = -1 ∨ ∃ j, j < cnt ∧ y = me_i M (p + 42) j)) nt_E)) : ∀ (f k : Nat) (x4 : Int), cnt - k < f → k ≤ cnt → (x4 = 0 ∨ x4 = 1) → me_W (mt_G N X) 351 d 15 [some (.inr (.inl (some p, 29, 0))), some (.inl (cnt : Int)), some (.inl (l : Int)), some (.inl (i : Int)), some (.inl x4), some (.inl (k : Int))] [] M1 (sx_qI (fun y M' => fr (fun b _ => b = p + 43) M M' ∧ (y = -1 ∨ ∃ j, j < cnt ∧ y = me_i M (p + 42) j)) nt_E) := by
  have H1 : JS p C n m cl Φ M1 := H.fr (K.1.mo fun b j z => by unfold rJ; omega)
  have eB : ∀ i j, i < 10 → tA p M1 i j = tA p M i j := fun i j _ => K.1.i (by omega)
  have c192 := hB.1
  have m7 := H.m7
  have e42 : ∀ j, me_i M1 (p + 42) j = me_i M (p + 42) j := fun j => K.1.i (by omega)
  obtain ⟨qi, qi1, qi2, qi3, qi4⟩ := hB.2 i hi
  have keep : me_W (mt_G N X) 351 d 4 [some (.inr (.inl (some p, 29, 0))), some (.inl (cnt : Int)), some (.inl ((l : Int) + 1)), some (.inl ((i : Int) + 1)), none, none] [] (me_sI M1 (p + 43) l (Int32.ofInt (me_i M1 (p + 42) i))) (sx_qI (fun y M' => fr (fun b _ => b = p + 43) M M' ∧ (y = -1 ∨ ∃ j, j < cnt ∧ y = me_i M (p + 42) j)) nt_E) := by
    rw [show (l : Int) + 1 = ((l + 1 : Nat) : Int) by omega]
    refine W _ (l + 1) (by omega) ⟨K.1.tr (fr_sI rfl), fun k k1 => ?_⟩
    rw [me_i_sI]
    by_cases c : k = l
    · rw [if_pos ⟨rfl, c⟩, me_to (me_i_r _ _ _), e42]
      exact ⟨i, hi, rfl⟩
    · rw [if_neg (by omega)]
      exact K.2 k (by omega)
  have skip := W M1 l (by omega) K
  have rx : ∀ x4 : Int, (x4 = 0 ∨ x4 = 1) → me_r x4 := fun x4 hx => by rcases hx with z | z <;> rw [z] <;> exact ⟨by omega, by omega⟩
  intro f
  induction f with
  | zero => intro k x4 h; omega
  | succ f ih =>
    intro k x4 hf hk hx
    refine b351_15 ?_
    rw [Int.toNat_natCast, Int.toNat_natCast, Int.toNat_natCast]
    refine ⟨⟨by omega, by omega⟩, ⟨by omega, by omega⟩, fun _ => ⟨rx _ hx, fun _ => skip, fun _ => ⟨by omega, by omega, by omega, by omega, keep⟩⟩, fun z => ⟨rx _ hx, fun _ => ⟨rx _ hx, fun _ => skip, fun _ => ⟨by omega, by omega, by omega, by omega, keep⟩⟩, fun _ => ⟨by omega, by omega, by omega, by omega, ?_⟩⟩⟩
    obtain ⟨qk, qk1, qk2, qk3, qk4⟩ := hB.2 k (by omega)
    rw [e42, e42, qi1, qk1]
    have sk : tA p M1 0 qk = 2 := by rw [eB 0 _ (by omega)]; exact qk3
    have si : tA p M1 0 qi = 2 := by rw [eB 0 _ (by omega)]; exact qi3
    refine ca_I (by omega) (c_352 (by omega) H1.2.2.1 H1.2.2.2.1 (by omega) (H1.mtd qk2 sk) (H1.mtd qi2 si) (H1.own qk2 (Or.inr sk)) (H1.own qi2 (Or.inr si))) (fun y M2 _ g => ?_) nt_E_no
    obtain ⟨rfl, g⟩ := g
    rw [show (k : Int) + 1 = ((k + 1 : Nat) : Int) by omega]
    refine ⟨rx y (by omega), fun _ => ih (k + 1) 0 (by omega) (by omega) (Or.inl rfl), fun _ => ih (k + 1) 1 (by omega) (by omega) (Or.inr rfl)⟩
theorem near_4 (H : JS p C n m cl Φ M) (hd : 4 ≤ d) (hB : MB p M m cnt na) : ∀ (f i l : Nat) (M1 : me_M), cnt - i < f → i ≤ cnt → l ≤ i → KP p M M1 cnt l → me_W (mt_G N X) 351 d 4 [some (.inr (.inl (some p, 29, 0))), some (.inl (cnt : Int)), some (.inl (l : Int)), some (.inl (i : Int)), none, none] [] M1 (sx_qI (fun y M' => fr (fun b _ => b = p + 43) M M' ∧ (y = -1 ∨ ∃ j, j < cnt ∧ y = me_i M (p + 42) j)) nt_E) := by
  have c192 := hB.1
  intro f
  induction f with
  | zero => intro i l M1 h; omega
  | succ f ih =>
    intro i l M1 hf hi hl K
    refine b351_4 ⟨⟨by omega, by omega⟩, ⟨by omega, by omega⟩, fun _ => ?_, fun z => ?_⟩
    · exact near_87 H (by omega) hB (by omega) K (l + 1) 0 (by omega) (by omega)
    · refine near_15 H hd hB hl (by omega) K (fun M2 l' l1 K2 => ?_) (cnt + 1) 0 1 (by omega) (by omega) (Or.inr rfl)
      rw [show (i : Int) + 1 = ((i + 1 : Nat) : Int) by omega]
      exact ih (i + 1) l' M2 (by omega) (by omega) l1 K2
theorem c_351 (H : JS p C n m cl Φ M) (hd : 4 ≤ d) (hB : MB p M m cnt na) : me_W (mt_G N X) 351 d 0 [some (.inr (.inl (some p, 29, 0))), some (.inl (cnt : Int)), none, none, none, none] [] M (sx_qI (fun y M' => fr (fun b _ => b = p + 43) M M' ∧ (y = -1 ∨ ∃ j, j < cnt ∧ y = me_i M (p + 42) j)) nt_E) := b351_0 (near_4 H hd hB (cnt + 1) 0 0 M (by omega) (by omega) (Nat.le_refl _) ⟨fr.rf, fun k z => by omega⟩)
end NEAR
section TAK
variable {N : Nat} {X : Nat → Int32} {d p C n m cl q : Nat} {Φ : Nat → Nat} {M : me_M}
theorem tak_12 (H : JS p C n m cl Φ M) (hd : 2 ≤ d) (hq : q < m) (sq : tA p M 0 q = 2) {Z : Prop} : ∀ (r : List Nat) (j : Nat) (x4 x5 : Int), CHN (nA p M) x5 r → (∀ a, a ∈ r → a < n ∧ ty_x cl (nA p M 9 a)) → q < j → (j : Int) + r.length = q + 1 + tA p M 9 q → (x4 = 0 ∨ x4 = 1 ∧ (AF (sp p M) (nA p M 9) (tA p M 8) j r → Z)) → me_W (mt_G N X) 349 d 12 [some (.inr (.inl (some p, 29, 0))), none, none, some (.inl (j : Int)), some (.inl x4), some (.inl x5)] [] M (sx_qI (fun y M' => M' = M ∧ (y = 1 ∧ Z ∨ y = 0)) nt_E) := by
  have m7 := H.m7
  have n7 := H.1.2.2.1
  have c7 := H.2.1
  have hm := (H.met hq sq).1
  intro r
  induction r with
  | nil =>
    intro j x4 x5 hx hr j1 j2 h4
    have hx : x5 = -1 := hx
    subst hx
    refine b349_12 ⟨⟨by omega, by omega⟩, fun _ => ⟨by omega, rfl, ?_⟩, fun z => by omega⟩
    rcases h4 with z | ⟨z, w⟩
    · exact Or.inr z
    · exact Or.inl ⟨z, w trivial⟩
  | cons a r ih =>
    intro j x4 x5 hx hr j1 j2 h4
    obtain ⟨rfl, hx⟩ := hx
    have ha := hr a List.mem_cons_self
    have len : (j : Int) + 1 + r.length = q + 1 + tA p M 9 q := by
      rw [List.length_cons] at j2
      omega
    have rx4 : me_r x4 := by
      rcases h4 with z | z
      · rw [z]
        exact ⟨by omega, by omega⟩
      · rw [z.1]
        exact ⟨by omega, by omega⟩
    refine b349_12 ⟨⟨by omega, by omega⟩, fun z => by omega, fun _ => ⟨rx4, fun z => ⟨by omega, rfl, Or.inr z⟩, fun z => ⟨by omega, by omega, by omega, by omega, ?_⟩⟩⟩
    rw [Int.toNat_natCast, Int.toNat_natCast]
    have h1 : AF (sp p M) (nA p M 9) (tA p M 8) j (a :: r) → Z := by
      rcases h4 with v | v
      · omega
      · exact v.2
    obtain ⟨pr1, pr2, _⟩ := H.par hq sq (i := j - (q + 1)) (by omega)
    rw [show q + 1 + (j - (q + 1)) = j by omega] at pr2
    have ta := ha.2
    unfold ty_x at ta
    unfold ty_v at pr2
    have s2 := H.2.2.2.1.2.1
    refine ca_I (by omega) (c_350 (by omega) H.2.2.2.1.2.2.2.2 s2 (by show -100 ≤ nA p M 9 a; omega) (by show nA p M 9 a < 10 + cl; omega) (by show -100 ≤ tA p M 8 j; omega) (by show tA p M 8 j < 100; omega)) (fun y M2 _ g => ?_) nt_E_no
    obtain ⟨rfl, g⟩ := g
    refine ⟨by omega, by omega, ?_⟩
    rw [show (j : Int) + 1 = ((j + 1 : Nat) : Int) by omega]
    refine ih (j + 1) y _ hx (fun b b1 => hr b (List.mem_cons_of_mem _ b1)) (by omega) (by omega) ?_
    rcases g with ⟨g1, g2⟩ | ⟨g1, _⟩
    · exact Or.inr ⟨g1, fun w => h1 ⟨g2, w⟩⟩
    · exact Or.inl g1
theorem c_349 {ks : List Nat} {x2 : Int} (H : JS p C n m cl Φ M) (hd : 2 ≤ d) (hq : q < m) (sq : tA p M 0 q = 2) (hc : CHN (nA p M) x2 ks) (hr : ∀ a, a ∈ ks → a < n ∧ ty_x cl (nA p M 9 a)) (hl : (ks.length : Int) = tA p M 9 q) : me_W (mt_G N X) 349 d 0 [some (.inr (.inl (some p, 29, 0))), some (.inl (q : Int)), some (.inl x2), none, none, none] [] M (sx_qI (fun y M' => M' = M ∧ (y = 1 ∧ AF (sp p M) (nA p M 9) (tA p M 8) (q + 1) ks ∨ y = 0)) nt_E) := by
  refine b349_0 (ca_I (by omega) c_339 (fun y M1 _ g => ?_) nt_E_no)
  obtain ⟨rfl, rfl⟩ := g
  rw [show (q : Int) + 1 = ((q + 1 : Nat) : Int) by omega]
  exact tak_12 H hd hq sq ks (q + 1) 1 x2 hc hr (by omega) (by omega) (Or.inr ⟨rfl, fun z => z⟩)
end TAK
