/-! the reference's parser: frames, small methods -/
/-- M' is M but for ints at places of P -/
def fr (P : Nat → Nat → Prop) (M M' : me_M) : Prop := M'.1 = M.1 ∧ M'.2.1 = M.2.1 ∧ M'.2.2.2 = M.2.2.2 ∧ ∀ b j, ¬ P b j → M'.2.2.1 b j = M.2.2.1 b j
section FR
variable {P P' : Nat → Nat → Prop} {M M1 M2 : me_M}
theorem fr.rf : fr P M M := ⟨rfl, rfl, rfl, fun _ _ _ => rfl⟩
theorem fr.tr (h : fr P M M1) (k : fr P M1 M2) : fr P M M2 := ⟨k.1.trans h.1, k.2.1.trans h.2.1, k.2.2.1.trans h.2.2.1, fun b j n => (k.2.2.2 b j n).trans (h.2.2.2 b j n)⟩
theorem fr.mo (h : fr P M M1) (k : ∀ b j, P b j → P' b j) : fr P' M M1 := ⟨h.1, h.2.1, h.2.2.1, fun b j n => h.2.2.2 b j fun z => n (k b j z)⟩
theorem fr.i (h : fr P M M1) {b j : Nat} (n : ¬ P b j) : me_i M1 b j = me_i M b j := by
  unfold me_i
  rw [h.2.2.2 b j n]
theorem fr.p (h : fr P M M1) {b j : Nat} : me_p M1 b j = me_p M b j := by
  unfold me_p
  rw [h.2.2.1]
theorem fr_sI {a k : Nat} {x : Int32} (h : P a k) : fr P M (me_sI M a k x) := ⟨rfl, rfl, rfl, fun b j n => by
  unfold me_sI
  dsimp only
  rw [if_neg]
  rintro ⟨rfl, rfl⟩
  exact n h⟩
end FR
/-- the throw of stop, for C, with ints changed at P -/
def px (C : Prop) (P : Nat → Nat → Prop) (M : me_M) : Nat → me_M → Prop := fun e M' => e = 166 ∧ C ∧ fr P M M'
theorem px.mo {C C' : Prop} {P P' : Nat → Nat → Prop} {M M1 M' : me_M} {e : Nat} (h : px C P M1 e M') (hc : C → C') (hp : ∀ b j, P b j → P' b j) (hf : fr P' M M1) : px C' P' M e M' := ⟨h.1, hc h.2.1, hf.tr (h.2.2.mo hp)⟩
def fF : Nat → Nat → Prop := fun b j => b = 164 ∧ (j = 3 ∨ j = 4)
/-- what a program knows of its tokens: sorts, codes; lim: the token behind the last that a file may have -/
def pk (p : Nat) (s c : Nat → Int) (lim : Nat) (M : me_M) : Prop := (∀ k, me_i M (p + 8) k = s k) ∧ (∀ k, me_i M (p + 9) k = c k) ∧ me_i M p 36 + me_i M p 41 = lim ∧ 0 ≤ me_i M p 36 ∧ 0 ≤ me_i M p 41
theorem pk.fr {P : Nat → Nat → Prop} {p lim : Nat} {s c : Nat → Int} {M M' : me_M} (k : pk p s c lim M) (h : fr P M M') (n8 : ∀ j, ¬ P (p + 8) j) (n9 : ∀ j, ¬ P (p + 9) j) (n36 : ¬ P p 36) (n41 : ¬ P p 41) : pk p s c lim M' := by
  refine ⟨fun j => ?_, fun j => ?_, ?_⟩
  · rw [h.i (n8 j)]
    exact k.1 j
  · rw [h.i (n9 j)]
    exact k.2.1 j
  · rw [h.i n36, h.i n41]
    exact k.2.2
/-- a token further -/
def pT (M : me_M) (p t : Nat) : me_M := me_sI M p 35 (Int32.ofInt ((t : Int) + 1))
abbrev g_ty (s c : Nat → Int) (t : Nat) : Prop := s t = 1 ∨ s t = 3 ∧ (c t = 3 ∨ c t = 4)
abbrev g_lo (s c : Nat → Int) (t : Nat) : Prop := s t = 3 ∧ (c t = 3 ∨ c t = 4) ∨ s t = 1 ∧ s (t + 1) = 1
abbrev g_in (s c : Nat → Int) (dp t : Nat) : Prop := dp < 20 ∨ s t = 4 ∧ (c t = 125 ∨ c t = 41)
def g_lv (c : Int) : Int := if c = 305 then 1 else if c = 304 then 2 else if c = 300 ∨ c = 301 then 3 else if c = 60 ∨ c = 302 ∨ c = 62 ∨ c = 303 then 4 else if c = 43 ∨ c = 45 then 5 else if c = 42 ∨ c = 47 ∨ c = 37 then 6 else 0
section SMALL
variable {N : Nat} {X : Nat → Int32} {d p lim t dp : Nat} {s c : Nat → Int} {x1 x2 : Int} {M : me_M}
theorem pk.rs (k : pk p s c lim M) (j : Nat) : me_r (s j) := k.1 j ▸ me_i_r M (p + 8) j
theorem pk.rc (k : pk p s c lim M) (j : Nat) : me_r (c j) := k.2.1 j ▸ me_i_r M (p + 9) j
theorem c_295 : me_W (mt_G N X) 295 d 0 [some (.inr (.inl (some 164, 25, 0))), some (.inl x1), some (.inl x2)] [] M (sx_qV (fun _ => False) (px True fF M)) := by
  refine b295_0 ?_
  intro M1 M2
  exact ⟨rfl, trivial, (fr_sI ⟨rfl, Or.inl rfl⟩).tr (fr_sI ⟨rfl, Or.inr rfl⟩)⟩
theorem c_293 (hd : 1 ≤ d) (k : pk p s c lim M) (ht : me_i M p 35 = (t : Int)) (h8 : t < 2408) : me_W (mt_G N X) 293 d 0 [some (.inr (.inl (some p, 29, 0)))] [] M (sx_qI (fun y M' => M' = M ∧ y = s t ∧ ¬ s t = -1) (px (s t = -1) fF M)) := by
  have e := k.1 t
  have e' : me_i M (p + 7 + 1) t = s t := e
  refine b293_0 ?_
  simp only [ht, Int.toNat_natCast, e, e']
  refine ⟨by omega, by omega, k.rs t, ⟨by omega, by omega⟩, fun h => ⟨by omega, by omega, ?_⟩, fun h => ?_⟩
  · show M = M ∧ _ ∧ _
    exact ⟨rfl, rfl, h⟩
  · refine ca_I hd (c_294 (by omega) (by omega)) (fun y M1 _ g => ?_) nt_E_no
    obtain ⟨rfl, rfl⟩ := g
    exact ca_V hd c_295 (fun _ _ g => g.elim) fun _ _ _ g => ⟨g.1, h, g.2.2⟩
theorem c_297 (hd : 2 ≤ d) (k : pk p s c lim M) (ht : me_i M p 35 = (t : Int)) (h8 : t < 2408) : me_W (mt_G N X) 297 d 0 [some (.inr (.inl (some p, 29, 0)))] [] M (sx_qV (fun _ => False) (px True fF M)) := by
  refine b297_0 (ca_I (by omega) (c_293 (by omega) k ht h8) (fun y M1 _ g => ?_) (fun _ _ _ g => g.mo (fun _ => trivial) (fun _ _ z => z) fr.rf))
  obtain ⟨rfl, rfl, _⟩ := g
  refine ca_I (by omega) (c_294 (by omega) (by omega)) (fun y M1 _ g => ?_) nt_E_no
  obtain ⟨rfl, rfl⟩ := g
  exact ca_V (by omega) c_295 (fun _ _ g => g.elim) fun _ _ _ g => g
theorem c_300 (hd : 1 ≤ d) (k : pk p s c lim M) (ht : me_i M p 35 = (t : Int)) (h8 : t < 2408) (hl : lim < 2408) : me_W (mt_G N X) 300 d 0 [some (.inr (.inl (some p, 29, 0)))] [] M (sx_qV (fun M' => M' = M ∧ t < lim) (px (lim ≤ t) fF M)) := by
  obtain ⟨_, _, k1, k2, k3⟩ := k
  refine b300_0 ⟨⟨by omega, by omega⟩, me_i_r _ _ _, fun h => ⟨rfl, by omega⟩, fun h => ?_⟩
  refine ca_I hd (c_294 (by omega) (by omega)) (fun y M1 _ g => ?_) nt_E_no
  obtain ⟨rfl, rfl⟩ := g
  exact ca_V hd c_295 (fun _ _ g => g.elim) fun _ _ _ g => ⟨g.1, by omega, g.2.2⟩
theorem c_299 (hd : 2 ≤ d) (k : pk p s c lim M) (ht : me_i M p 35 = (t : Int)) (h8 : t < 2408) (hl : lim < 2408) : me_W (mt_G N X) 299 d 0 [some (.inr (.inl (some p, 29, 0)))] [] M (sx_qI (fun y M' => y = (t : Int) ∧ M' = pT M p t ∧ t < lim) (px (lim ≤ t) fF M)) := by
  refine b299_0 (ca_V (by omega) (c_300 (by omega) k ht h8 hl) (fun M1 _ g => ?_) (fun _ _ _ g => g))
  obtain ⟨rfl, h⟩ := g
  rw [ht]
  intro M2
  refine ⟨?_, rfl, h⟩
  show me_i (me_sI _ _ _ _) _ _ - 1 = _
  rw [me_i_sI, if_pos ⟨rfl, rfl⟩, me_to ⟨by omega, by omega⟩]
  omega
theorem c_307 (hd : 2 ≤ d) (k : pk p s c lim M) (ht : me_i M p 35 = (t : Int)) (h8 : t < 2408) (hx : me_r x1) : me_W (mt_G N X) 307 d 0 [some (.inr (.inl (some p, 29, 0))), some (.inl x1)] [] M (sx_qI (fun y M' => M' = M ∧ ¬ s t = -1 ∧ (y = 1 ∧ s t = 4 ∧ c t = x1 ∨ y = 0 ∧ ¬ (s t = 4 ∧ c t = x1))) (px (s t = -1) fF M)) := by
  refine b307_0 (ca_I (by omega) (c_293 (by omega) k ht h8) (fun y M1 _ g => ?_) (fun _ _ _ g => g))
  obtain ⟨rfl, rfl, h⟩ := g
  simp only [ht, Int.toNat_natCast, k.2.1]
  refine ⟨k.rs t, ⟨by omega, by omega⟩, fun z => ⟨by first | trivial | omega, rfl, h, Or.inr ⟨rfl, fun w => z w.1⟩⟩, fun z => ⟨by omega, by omega, k.rc t, hx, fun w => ⟨by first | trivial | omega, rfl, h, Or.inr ⟨rfl, fun v => w v.2⟩⟩, fun w => ⟨by first | trivial | omega, rfl, h, Or.inl ⟨rfl, z, w⟩⟩⟩⟩
theorem c_296 (hd : 2 ≤ d) (k : pk p s c lim M) (ht : me_i M p 35 = (t : Int)) (h8 : t < 2408) (hx : me_r x1) : me_W (mt_G N X) 296 d 0 [some (.inr (.inl (some p, 29, 0))), some (.inl x1)] [] M (sx_qI (fun y M' => M' = M ∧ ¬ s t = -1 ∧ (y = 1 ∧ s t = 3 ∧ c t = x1 ∨ y = 0 ∧ ¬ (s t = 3 ∧ c t = x1))) (px (s t = -1) fF M)) := by
  refine b296_0 (ca_I (by omega) (c_293 (by omega) k ht h8) (fun y M1 _ g => ?_) (fun _ _ _ g => g))
  obtain ⟨rfl, rfl, h⟩ := g
  simp only [ht, Int.toNat_natCast, k.2.1]
  refine ⟨k.rs t, ⟨by omega, by omega⟩, fun z => ⟨by first | trivial | omega, rfl, h, Or.inr ⟨rfl, fun w => z w.1⟩⟩, fun z => ⟨by omega, by omega, k.rc t, hx, fun w => ⟨by first | trivial | omega, rfl, h, Or.inr ⟨rfl, fun v => w v.2⟩⟩, fun w => ⟨by first | trivial | omega, rfl, h, Or.inl ⟨rfl, z, w⟩⟩⟩⟩
theorem c_306 (hd : 3 ≤ d) (k : pk p s c lim M) (ht : me_i M p 35 = (t : Int)) (h8 : t < 2408) (hl : lim < 2408) (hx : me_r x1) : me_W (mt_G N X) 306 d 0 [some (.inr (.inl (some p, 29, 0))), some (.inl x1)] [] M (sx_qI (fun y M' => y = 1 ∧ M' = pT M p t ∧ s t = 4 ∧ c t = x1 ∧ t < lim ∨ y = 0 ∧ M' = M ∧ ¬ s t = -1 ∧ ¬ (s t = 4 ∧ c t = x1)) (px (s t = -1 ∨ s t = 4 ∧ c t = x1 ∧ lim ≤ t) fF M)) := by
  refine b306_0 (ca_I (by omega) (c_307 (by omega) k ht h8 hx) (fun y M1 _ g => ?_) (fun _ _ _ g => ⟨g.1, Or.inl g.2.1, g.2.2⟩))
  obtain ⟨rfl, h, g⟩ := g
  refine ⟨⟨by omega, by omega⟩, fun z => ?_, fun z => ⟨Or.inl rfl, Or.inr ⟨rfl, rfl, h, ?_⟩⟩⟩
  · rcases g with ⟨_, g1, g2⟩ | ⟨g, _⟩
    · refine ca_I (by omega) (c_299 (by omega) k ht h8 hl) (fun y M1 _ g => ⟨Or.inr rfl, Or.inl ⟨rfl, g.2.1, g1, g2, g.2.2⟩⟩) (fun _ _ _ g => ⟨g.1, Or.inr ⟨g1, g2, g.2.1⟩, g.2.2⟩)
    · exact absurd g z
  · rcases g with ⟨g, _⟩ | g
    · omega
    · exact g.2
theorem c_303 (hd : 3 ≤ d) (k : pk p s c lim M) (ht : me_i M p 35 = (t : Int)) (h8 : t < 2408) (hl : lim < 2408) (hx : me_r x1) : me_W (mt_G N X) 303 d 0 [some (.inr (.inl (some p, 29, 0))), some (.inl x1)] [] M (sx_qI (fun y M' => y = 1 ∧ M' = pT M p t ∧ s t = 3 ∧ c t = x1 ∧ t < lim ∨ y = 0 ∧ M' = M ∧ ¬ s t = -1 ∧ ¬ (s t = 3 ∧ c t = x1)) (px (s t = -1 ∨ s t = 3 ∧ c t = x1 ∧ lim ≤ t) fF M)) := by
  refine b303_0 (ca_I (by omega) (c_296 (by omega) k ht h8 hx) (fun y M1 _ g => ?_) (fun _ _ _ g => ⟨g.1, Or.inl g.2.1, g.2.2⟩))
  obtain ⟨rfl, h, g⟩ := g
  refine ⟨⟨by omega, by omega⟩, fun z => ?_, fun z => ⟨Or.inl rfl, Or.inr ⟨rfl, rfl, h, ?_⟩⟩⟩
  · rcases g with ⟨_, g1, g2⟩ | ⟨g, _⟩
    · refine ca_I (by omega) (c_299 (by omega) k ht h8 hl) (fun y M1 _ g => ⟨Or.inr rfl, Or.inl ⟨rfl, g.2.1, g1, g2, g.2.2⟩⟩) (fun _ _ _ g => ⟨g.1, Or.inr ⟨g1, g2, g.2.1⟩, g.2.2⟩)
    · exact absurd g z
  · rcases g with ⟨g, _⟩ | g
    · omega
    · exact g.2
theorem c_305 (hd : 4 ≤ d) (k : pk p s c lim M) (ht : me_i M p 35 = (t : Int)) (h8 : t < 2408) (hl : lim < 2408) (hx : me_r x1) : me_W (mt_G N X) 305 d 0 [some (.inr (.inl (some p, 29, 0))), some (.inl x1)] [] M (sx_qV (fun M' => M' = pT M p t ∧ s t = 4 ∧ c t = x1 ∧ t < lim) (px (¬ (s t = 4 ∧ c t = x1 ∧ t < lim)) fF M)) := by
  refine b305_0 (ca_I (by omega) (c_306 (by omega) k ht h8 hl hx) (fun y M1 _ g => ?_) (fun _ _ _ g => ⟨g.1, by have := g.2.1; omega, g.2.2⟩))
  rcases g with ⟨rfl, rfl, g⟩ | ⟨rfl, rfl, _, g⟩
  · exact ⟨⟨by omega, by omega⟩, fun _ => ⟨rfl, g⟩, fun z => by omega⟩
  · exact ⟨⟨by omega, by omega⟩, fun z => by omega, fun _ => ca_V (by omega) (c_297 (by omega) k ht h8) (fun _ _ g => g.elim) fun _ _ _ h => ⟨h.1, fun z => g ⟨z.1, z.2.1⟩, h.2.2⟩⟩
theorem c_301 (hd : 4 ≤ d) (k : pk p s c lim M) (ht : me_i M p 35 = (t : Int)) (h8 : t < 2408) (hl : lim < 2408) (hx : me_r x1) : me_W (mt_G N X) 301 d 0 [some (.inr (.inl (some p, 29, 0))), some (.inl x1)] [] M (sx_qI (fun y M' => y = (t : Int) ∧ M' = pT M p t ∧ s t = 1 ∧ x1 = 0 ∧ t < lim) (px (¬ (s t = 1 ∧ x1 = 0 ∧ t < lim)) fF M)) := by
  refine b301_0 (ca_I (by omega) (c_293 (by omega) k ht h8) (fun y M1 _ g => ?_) (fun _ _ _ g => ⟨g.1, by have := g.2.1; omega, g.2.2⟩))
  obtain ⟨rfl, rfl, h⟩ := g
  refine ⟨k.rs t, ⟨by omega, by omega⟩, fun z => ⟨hx, fun w => ?_, fun w => ?_⟩, fun z => ?_⟩
  · exact ca_I (by omega) (c_299 (by omega) k ht h8 hl) (fun y M1 _ g => ⟨g.1, g.2.1, z, w, g.2.2⟩) (fun _ _ _ g => ⟨g.1, by have := g.2.1; omega, g.2.2⟩)
  · rw [ht]
    refine ca_I (by omega) (c_294 (by omega) (by omega)) (fun y M1 _ g => ?_) nt_E_no
    obtain ⟨rfl, rfl⟩ := g
    exact ca_V (by omega) c_295 (fun _ _ g => g.elim) fun _ _ _ g => ⟨g.1, fun q => w q.2.1, g.2.2⟩
  · exact ca_V (by omega) (c_297 (by omega) k ht h8) (fun _ _ g => g.elim) fun _ _ _ g => ⟨g.1, fun q => z q.1, g.2.2⟩
theorem c_304 (hd : 5 ≤ d) (k : pk p s c lim M) (ht : me_i M p 35 = (t : Int)) (h8 : t < 2408) (hl : lim < 2408) : me_W (mt_G N X) 304 d 0 [some (.inr (.inl (some p, 29, 0)))] [] M (sx_qI (fun y M' => y = (t : Int) ∧ M' = pT M p t ∧ s t = 1 ∧ t < lim) (px (¬ (s t = 1 ∧ t < lim)) fF M)) :=
  b304_0 (ca_I (by omega) (c_301 (by omega) k ht h8 hl ⟨by omega, by omega⟩) (fun _ _ _ g => ⟨g.1, g.2.1, g.2.2.1, g.2.2.2.2⟩) (fun _ _ _ g => ⟨g.1, fun q => g.2.1 ⟨q.1, rfl, q.2⟩, g.2.2⟩))
theorem c_309 (hd : 2 ≤ d) (k : pk p s c lim M) (ht : me_i M p 35 = (t : Int)) (h8 : t < 2408) : me_W (mt_G N X) 309 d 0 [some (.inr (.inl (some p, 29, 0)))] [] M (sx_qI (fun y M' => M' = M ∧ ¬ s t = -1 ∧ (y = 1 ∧ g_ty s c t ∨ y = 0 ∧ ¬ g_ty s c t)) (px (s t = -1) fF M)) := by
  refine b309_0 (ca_I (by omega) (c_293 (by omega) k ht h8) (fun y M1 _ g => ?_) (fun _ _ _ g => g))
  obtain ⟨rfl, rfl, h⟩ := g
  refine ⟨k.rs t, ⟨by omega, by omega⟩, fun z => ⟨by first | trivial | omega, rfl, h, Or.inl ⟨rfl, Or.inl z⟩⟩, fun z => ?_⟩
  refine ca_I (by omega) (c_293 (by omega) k ht h8) (fun y M2 _ g => ?_) (fun _ _ _ g => g)
  obtain ⟨rfl, rfl, _⟩ := g
  simp only [ht, Int.toNat_natCast, k.2.1]
  refine ⟨k.rs t, ⟨by omega, by omega⟩, fun w => ⟨by first | trivial | omega, rfl, h, Or.inr ⟨rfl, fun q => by unfold g_ty at q; omega⟩⟩, fun w => ⟨by omega, by omega, k.rc t, ⟨by omega, by omega⟩, fun v => ⟨by first | trivial | omega, rfl, h, Or.inl ⟨rfl, Or.inr ⟨w, Or.inl v⟩⟩⟩, fun v => ⟨by omega, by omega, k.rc t, ⟨by omega, by omega⟩, fun u => ⟨by first | trivial | omega, rfl, h, Or.inr ⟨rfl, fun q => by unfold g_ty at q; omega⟩⟩, fun u => ⟨by first | trivial | omega, rfl, h, Or.inl ⟨rfl, Or.inr ⟨w, Or.inr u⟩⟩⟩⟩⟩⟩
theorem c_313 (hd : 2 ≤ d) (k : pk p s c lim M) (ht : me_i M p 35 = (t : Int)) (h8 : t < 2407) : me_W (mt_G N X) 313 d 0 [some (.inr (.inl (some p, 29, 0)))] [] M (sx_qI (fun y M' => M' = M ∧ ¬ s t = -1 ∧ (y = 1 ∧ g_lo s c t ∨ y = 0 ∧ ¬ g_lo s c t)) (px (s t = -1) fF M)) := by
  refine b313_0 (ca_I (by omega) (c_293 (by omega) k ht (by omega)) (fun y M1 _ g => ?_) (fun _ _ _ g => g))
  obtain ⟨rfl, rfl, h⟩ := g
  refine ⟨k.rs t, ⟨by omega, by omega⟩, fun z => ?_, fun z => ?_⟩
  · refine ca_I (by omega) (c_293 (by omega) k ht (by omega)) (fun y M2 _ g => ?_) (fun _ _ _ g => g)
    obtain ⟨rfl, rfl, _⟩ := g
    have e : ((t : Int) + 1).toNat = t + 1 := by omega
    simp only [ht, e, k.1]
    refine ⟨k.rs t, ⟨by omega, by omega⟩, fun w => ⟨by first | trivial | omega, rfl, h, Or.inr ⟨rfl, fun q => by unfold g_lo at q; omega⟩⟩, fun w => ⟨by omega, by omega, k.rs _, ⟨by omega, by omega⟩, fun v => ⟨by first | trivial | omega, rfl, h, Or.inr ⟨rfl, fun q => by unfold g_lo at q; omega⟩⟩, fun v => ⟨by first | trivial | omega, rfl, h, Or.inl ⟨rfl, Or.inr ⟨w, v⟩⟩⟩⟩⟩
  · simp only [ht, Int.toNat_natCast, k.2.1]
    refine ⟨by omega, by omega, k.rc t, ⟨by omega, by omega⟩, fun v => ⟨by first | trivial | omega, rfl, h, Or.inl ⟨rfl, Or.inl ⟨z, Or.inl v⟩⟩⟩, fun v => ⟨by omega, by omega, k.rc t, ⟨by omega, by omega⟩, fun u => ⟨by first | trivial | omega, rfl, h, Or.inr ⟨rfl, fun q => by unfold g_lo at q; omega⟩⟩, fun u => ⟨by first | trivial | omega, rfl, h, Or.inl ⟨rfl, Or.inl ⟨z, Or.inr u⟩⟩⟩⟩⟩
theorem c_311 (hd : 3 ≤ d) (k : pk p s c lim M) (hp : 164 < p) (ht : me_i M p 35 = (t : Int)) (h8 : t < 2408) (hdp : me_i M p 37 = (dp : Int)) (hq : dp < 100) : me_W (mt_G N X) 311 d 0 [some (.inr (.inl (some p, 29, 0)))] [] M (sx_qV (fun M' => M' = me_sI M p 37 (Int32.ofInt ((dp : Int) + 1)) ∧ g_in s c dp t) (px (¬ g_in s c dp t) (fun b j => fF b j ∨ b = p ∧ j = 37) M)) := by
  refine b311_0 ?_
  rw [hdp]
  intro M1
  have f1 : fr (fun b j => b = p ∧ j = 37) M M1 := fr_sI ⟨rfl, rfl⟩
  have k1 : pk p s c lim M1 := k.fr f1 (by omega) (by omega) (by omega) (by omega)
  have t1 : me_i M1 p 35 = (t : Int) := by rw [f1.i (by omega), ht]
  have e1 : me_i M1 p 37 = (dp : Int) + 1 := by
    show me_i (me_sI _ _ _ _) _ _ = _
    rw [me_i_sI, if_pos ⟨rfl, rfl⟩, me_to ⟨by omega, by omega⟩]
  have f2 : fr (fun b j => fF b j ∨ b = p ∧ j = 37) M M1 := f1.mo fun _ _ z => Or.inr z
  rw [e1]
  refine ⟨⟨by omega, by omega⟩, ⟨by omega, by omega⟩, fun z => ⟨rfl, Or.inl (by omega)⟩, fun z => ?_⟩
  refine ca_I (by omega) (c_307 (by omega) k1 t1 h8 ⟨by omega, by omega⟩) (fun y M2 _ g => ?_) (fun _ _ _ g => g.mo (fun q w => by unfold g_in at w; omega) (fun _ _ z => Or.inl z) f2)
  obtain ⟨rfl, h, g⟩ := g
  rcases g with ⟨rfl, g⟩ | ⟨rfl, g⟩
  · exact ⟨⟨by omega, by omega⟩, fun _ => ⟨rfl, Or.inr ⟨g.1, Or.inl g.2⟩⟩, fun q => by omega⟩
  refine ⟨⟨by omega, by omega⟩, fun q => by omega, fun _ => ?_⟩
  refine ca_I (by omega) (c_307 (by omega) k1 t1 h8 ⟨by omega, by omega⟩) (fun y M3 _ g => ?_) (fun _ _ _ g => absurd g.2.1 h)
  obtain ⟨rfl, _, g3⟩ := g
  rcases g3 with ⟨rfl, g3⟩ | ⟨rfl, g3⟩
  · exact ⟨⟨by omega, by omega⟩, fun _ => ⟨rfl, Or.inr ⟨g3.1, Or.inr g3.2⟩⟩, fun q => by omega⟩
  refine ⟨⟨by omega, by omega⟩, fun q => by omega, fun _ => ?_⟩
  rw [t1]
  refine ca_I (by omega) (c_294 (by omega) (by omega)) (fun y M1 _ g => ?_) nt_E_no
  obtain ⟨rfl, rfl⟩ := g
  exact ca_V (by omega) c_295 (fun _ _ g => g.elim) fun _ _ _ q => q.mo (fun _ w => by unfold g_in at w; omega) (fun _ _ z => Or.inl z) f2
theorem c_328 (hx : me_r x1) : me_W (mt_G N X) 328 d 0 [some (.inr (.inl (some p, 29, 0))), some (.inl x1)] [] M (sx_qI (fun y M' => M' = M ∧ y = g_lv x1) nt_E) := by
  refine b328_0 ?_
  simp only [sx_qI, me_r] at hx ⊢
  (repeat' (first | apply And.intro | intro _)) <;> first | trivial | omega | (unfold g_lv; repeat' split) <;> first | trivial | omega | grind
end SMALL
