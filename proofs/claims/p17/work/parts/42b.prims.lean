/-! the run: its small methods -/
/-- one cell of the model -/
def m1 (j0 : Nat) : Nat → Nat → Prop := fun b j => b = 164 ∧ j = j0
theorem m1_ok {j0 : Nat} : ∀ b j, m1 j0 b j → ¬ oka b := fun b j z => by
  rw [z.1]
  exact ok164
theorem g22 : 22 ∈ gl := by decide
theorem g24 : 24 ∈ gl := by decide
theorem g43 {j : Nat} (h : 43 ≤ j) (h2 : j ≤ 48) : j ∈ gl := by
  rcases (show j = 43 ∨ j = 44 ∨ j = 45 ∨ j = 46 ∨ j = 47 ∨ j = 48 by omega) with z | z | z | z | z | z <;> rw [z] <;> decide
section PRIM
variable {N : Nat} {X : Nat → Int32} {d : Nat} {M M1 M2 : me_M} {Q : me_Q}
/-- a cell of the model is set -/
theorem cell1 {j0 : Nat} {x : Int} (G : GA M) (e : M1 = me_sI M 164 j0 (Int32.ofInt x)) : gx (m1 j0) no2 M M1 ∧ fr (m1 j0) M M1 ∧ me_i M1 164 j0 = (Int32.ofInt x).toInt := by
  have f : fr (m1 j0) M M1 := by
    rw [e]
    exact fr_sI ⟨rfl, rfl⟩
  refine ⟨gx.of G f m1_ok, f, ?_⟩
  rw [e, me_i_sI, if_pos ⟨rfl, rfl⟩]
/-- a row's cell is set -/
theorem row1 {j i : Nat} {x : Int} (G : GA M) (hj : j ∈ gl) (e : M1 = me_sI M (ga M j) i (Int32.ofInt x)) : gx no2 (fun a k => a = j ∧ k = i) M M1 ∧ (∀ b k, b < 477 → ¬ oka b → me_i M1 b k = me_i M b k) ∧ gi M1 j i = (Int32.ofInt x).toInt ∧ ∀ k, gL M1 k = gL M k := by
  have g : gx no2 (fun a k => a = j ∧ k = i) M M1 := by
    rw [e]
    exact gx.set G hj ⟨rfl, rfl⟩
  refine ⟨g, fun b k b1 b2 => g.i G b1 b2 fun z => z, ?_, fun k => by rw [e]; rfl⟩
  rw [e]
  exact gi_set'
theorem c_412 {x1 : Int} {E : Nat → me_M → Prop} {K : me_M → Prop} (hE : ∀ M', fr (fun b j => b = 164 ∧ (j = 7 ∨ j = 8)) M M' → E 167 M') : me_W (mt_G N X) 412 d 0 [some (.inr (.inl (some 164, 25, 0))), some (.inl x1)] [] M (sx_qV K E) := by
  refine b412_0 ?_
  intro M1 M2
  refine hE M2 ?_
  have f1 : fr (fun b j => b = 164 ∧ (j = 7 ∨ j = 8)) M M1 := fr_sI ⟨rfl, Or.inl rfl⟩
  have f2 : fr (fun b j => b = 164 ∧ (j = 7 ∨ j = 8)) M1 M2 := fr_sI ⟨rfl, Or.inr rfl⟩
  exact f1.tr f2
/-- a call of fails -/
theorem fails_w {x1 : Int} {E : Nat → me_M → Prop} {K : me_M → Prop} (hd : 1 ≤ d) (hE : ∀ M', fr (fun b j => b = 164 ∧ (j = 7 ∨ j = 8)) M M' → E 167 M') : ∃ d', d = d' + 1 ∧ me_W (mt_G N X) 412 d' 0 [some (.inr (.inl (some 164, 25, 0))), some (.inl x1)] [] M (sx_qV K E) := by
  refine ca_V hd (c_412 (K := fun _ => False) (E := fun e M' => e = 167 ∧ fr (fun b j => b = 164 ∧ (j = 7 ∨ j = 8)) M M') fun M' f => ⟨rfl, f⟩) (fun _ _ z => z.elim) fun a M' _ z => ?_
  rw [z.1]
  exact hE M' z.2
theorem step_w {st : Nat} {E : Nat → me_M → Prop} {K : me_M → Prop} (G : GA M) (h9 : me_i M 164 9 = (st : Int)) (hs : st ≤ 20000) (hd : 2 ≤ d) (hE : ∀ M', fr (fun b j => b = 164 ∧ (j = 7 ∨ j = 8)) M M' → E 167 M') (hK : ∀ M', st < 20000 → gx (m1 9) no2 M M' → fr (m1 9) M M' → me_i M' 164 9 = ((st + 1 : Nat) : Int) → K M') : ∃ d', d = d' + 1 ∧ me_W (mt_G N X) 414 d' 0 [some (.inr (.inl (some 164, 25, 0)))] [] M (sx_qV K E) := by
  refine ca_V (by omega) (P := fun M' => st < 20000 ∧ gx (m1 9) no2 M M' ∧ fr (m1 9) M M' ∧ me_i M' 164 9 = ((st + 1 : Nat) : Int)) (F := fun e M' => e = 167 ∧ fr (fun b j => b = 164 ∧ (j = 7 ∨ j = 8)) M M') ?_ (fun M' _ z => hK M' z.1 z.2.1 z.2.2.1 z.2.2.2) fun a M' _ z => by
    rw [z.1]
    exact hE M' z.2
  refine b414_0 ?_
  rw [h9]
  refine ⟨⟨by omega, by omega⟩, ⟨by omega, by omega⟩, fun z => ?_, fun z => fails_w (by omega) fun M' f => ⟨rfl, f⟩⟩
  intro M1
  obtain ⟨g, f, v⟩ := cell1 (M1 := M1) (j0 := 9) (x := (st : Int) + 1) G rfl
  refine ⟨by omega, g, f, ?_⟩
  rw [v, me_to ⟨by omega, by omega⟩]
  omega
/-- a value is pushed -/
def psh (M M' : me_M) (hg : Nat) (x : Int) : Prop := gx (m1 40) (fun j a => j = 39 ∧ a = hg) M M' ∧ me_i M' 164 40 = ((hg + 1 : Nat) : Int) ∧ gi M' 39 hg = x ∧ hg < gL M' 39
theorem push_w {x : Int} {hg : Nat} {E : Nat → me_M → Prop} {K : me_M → Prop} (G : GA M) (h40 : me_i M 164 40 = (hg : Int)) (hb : hg < 99000) (hd : 5 ≤ d) (hK : ∀ M', psh M M' hg (Int32.ofInt x).toInt → K M') : ∃ d', d = d' + 1 ∧ me_W (mt_G N X) 408 d' 0 [some (.inr (.inl (some 164, 25, 0))), some (.inl x)] [] M (sx_qV K E) := by
  refine ca_V (by omega) (P := fun M' => psh M M' hg (Int32.ofInt x).toInt) (F := nt_E) ?_ (fun M' _ z => hK M' z) nt_E_no
  have c1 : gcap 39 = 100000 := by decide
  refine b408_0 (fun n1 hn => ?_)
  cases gn G g39 hn
  rw [gp G g39, h40]
  refine ca_P (by omega) (c_400 (P := no2) (R := no2) G g39 (by decide) (by omega) (by omega) (by omega)) (fun o w M2 _ q => ?_) nt_E_no
  obtain ⟨q0, q1, l1⟩ := q
  refine ⟨q0, ?_⟩
  intro M7
  have q1 : gx no2 no2 M M7 := q1
  have l1 : (hg : Int) + 1 ≤ gL M7 39 := l1
  clear_value M7
  have e7 : me_i M7 164 40 = (hg : Int) := (q1.i4 G fun z => z).trans h40
  intro n8 hn8
  cases gn q1.GA g39 hn8
  rw [gp q1.GA g39]
  refine dr_s ?_
  rw [e7]
  refine ⟨by omega, by omega, ?_⟩
  intro M10
  obtain ⟨r1, r2, r3, r4⟩ := row1 (M1 := M10) (j := 39) (i := hg) (x := x) q1.GA g39 rfl
  have e10 : me_i M10 164 40 = (hg : Int) := (r2 164 40 (by omega) ok164).trans e7
  clear_value M10
  intro M11
  obtain ⟨s1, s2, s3⟩ := cell1 (M1 := M11) (j0 := 40) (x := me_i M10 164 40 + 1) r1.GA rfl
  clear_value M11
  rw [e10, me_to ⟨by omega, by omega⟩] at s3
  have k1 := s1.2.2.2.2.1 39 g39
  have l10 := r4 39
  refine ⟨(q1.mo no2_mo no2_mo).tr ((r1.mo no2_mo fun a k z => z).tr (s1.mo (fun _ _ z => z) no2_mo)), by omega, (s1.g g39 (by omega) fun z => z).trans r3, by omega⟩
/-- a value is pulled -/
def pul (M M' : me_M) (hg : Nat) : Prop := gx (m1 40) no2 M M' ∧ fr (m1 40) M M' ∧ me_i M' 164 40 = (hg : Int)
theorem pull_w {hg : Nat} {E : Nat → me_M → Prop} {K : Int → me_M → Prop} (G : GA M) (h40 : me_i M 164 40 = ((hg + 1 : Nat) : Int)) (hb : hg < 99000) (hl : hg < gL M 39) (hd : 1 ≤ d) (hK : ∀ M', pul M M' hg → gi M' 39 hg = gi M 39 hg → K (gi M 39 hg) M') : ∃ d', d = d' + 1 ∧ me_W (mt_G N X) 411 d' 0 [some (.inr (.inl (some 164, 25, 0)))] [] M (sx_qI K E) := by
  refine ca_I (by omega) (P := fun y M' => y = gi M 39 hg ∧ pul M M' hg ∧ gi M' 39 hg = gi M 39 hg) (F := nt_E) ?_ (fun y M' _ z => by rw [z.1]; exact hK M' z.2.1 z.2.2) nt_E_no
  refine b411_0 ?_
  intro M1
  obtain ⟨s1, s2, s3⟩ := cell1 (M1 := M1) (j0 := 40) (x := me_i M 164 40 - 1) G rfl
  clear_value M1
  rw [h40, me_to ⟨by omega, by omega⟩] at s3
  have s3 : me_i M1 164 40 = (hg : Int) := by omega
  have k1 := s1.2.2.2.2.1 39 g39
  have e := s1.g g39 hl fun z => z
  intro n2 hn
  cases gn s1.GA g39 hn
  rw [gp s1.GA g39]
  refine dr_s ?_
  rw [s3, Int.toNat_natCast]
  exact ⟨by omega, by omega, e, ⟨s1, s2, s3⟩, e⟩
/-- setOut -/
def rO (u : Nat) : Nat → Nat → Prop := fun j a => 43 ≤ j ∧ j ≤ 48 ∧ a = u
def sOut (M M' : me_M) (u : Nat) : Prop := gx (m1 42) (rO u) M M' ∧ me_i M' 164 42 = ((u + 1 : Nat) : Int) ∧ gi M' 43 u = me_i M 164 41 ∧ gi M' 44 u = me_i M 164 25 ∧ gi M' 45 u = me_i M 164 26 ∧ gi M' 46 u = me_i M 164 27 ∧ gi M' 47 u = me_i M 164 28 ∧ gi M' 48 u = me_i M 164 29 ∧ ∀ j, 43 ≤ j → j ≤ 48 → u < gL M' j
theorem room_w {j : Nat} {u : Nat} {E : Nat → me_M → Prop} {K : Option Nat → Nat × Nat → me_M → Prop} (G : GA M) (h1 : 43 ≤ j) (h2 : j ≤ 48) (h42 : me_i M 164 42 = (u : Int)) (hu : u ≤ 40) (hd : 3 ≤ d) (hK : ∀ o w M2, w.1 = 0 → gx no2 no2 M (me_sP M2 164 j o) → u < gL (me_sP M2 164 j o) j → me_i (me_sP M2 164 j o) 164 42 = (u : Int) → K o w M2) : ∀ n1, (∀ b, me_p M 164 j = some b → M.2.1 b = (0, n1)) → ∃ d', d = d' + 1 ∧ me_W (mt_G N X) 400 d' 0 [some (.inr (.inl (me_p M 164 j, 0, n1))), some (.inl (me_i M 164 42 + 1)), none] [] M (sx_qP K E) := fun n1 hn => by
  have jg := g43 h1 h2
  have c1 : gcap j = 64 := by
    unfold gcap
    rw [if_neg (by omega), if_neg (by omega), if_neg (by omega), if_neg (by omega), if_pos ⟨h1, h2⟩]
  cases gn G jg hn
  rw [gp G jg, h42]
  refine ca_P (by omega) (c_400 (P := no2) (R := no2) G jg (by omega) (by omega) (by omega) (by omega)) (fun o w M2 _ q => ?_) nt_E_no
  obtain ⟨q0, q1, l1⟩ := q
  exact hK o w M2 q0 q1 (by omega) ((q1.i4 G fun z => z).trans h42)
end PRIM
