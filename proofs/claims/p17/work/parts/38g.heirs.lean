/-! the reference's judge: heirs, fitting types, signatures -/
def sp (p : Nat) (M : me_M) (i : Nat) : Int := me_i M (p + 36) i
/-- a is above c -/
def heir (nx : Nat → Int) (c a : Int) : Prop := 0 ≤ c ∧ 0 ≤ a ∧ ∃ s, s ≤ 8 ∧ it nx s (nx c.toNat) = a
def fit (nx : Nat → Int) (a b : Int) : Prop := a = b ∨ 10 ≤ b ∧ (a = 2 ∨ 10 ≤ a ∧ heir nx (a - 10) (b - 10))
section HEIR
variable {N : Nat} {X : Nat → Int32} {d p cl : Nat} {M : me_M} {x1 x2 x3 x4 : Int}
theorem heir_18 (hs : ∀ i, i < cl → -1 ≤ sp p M i ∧ sp p M i < cl) (h8 : cl ≤ 8) (hr : me_r x2) : ∀ (m : Nat) (n : Nat) (k : Int), -1 ≤ k → k < cl → n + m = 10 → me_W (mt_G N X) 335 d 18 [some (.inr (.inl (some p, 29, 0))), none, some (.inl x2), some (.inl (n : Int)), some (.inl k)] [] M (sx_qI (fun y M' => M' = M ∧ (y = 1 ∧ (0 ≤ x2 ∧ ∃ s, n + s ≤ 8 ∧ it (sp p M) s k = x2) ∨ y = 0 ∧ ¬ (0 ≤ x2 ∧ ∃ s, n + s ≤ 8 ∧ it (sp p M) s k = x2))) nt_E) := by
  intro m
  induction m with
  | zero =>
    intro n k k1 k2 hn
    refine b335_18 ⟨⟨by omega, by omega⟩, fun _ => ⟨by omega, rfl, Or.inr ⟨rfl, ?_⟩⟩, fun _ => ⟨⟨by omega, by omega⟩, ⟨by omega, by omega⟩, fun _ => ⟨by omega, rfl, Or.inr ⟨rfl, ?_⟩⟩, fun z => by omega⟩⟩ <;>
    · rintro ⟨_, s, s1, _⟩
      omega
  | succ m ih =>
    intro n k k1 k2 hn
    refine b335_18 ⟨⟨by omega, by omega⟩, fun z => ⟨by omega, rfl, Or.inr ⟨rfl, ?_⟩⟩, fun z => ⟨⟨by omega, by omega⟩, ⟨by omega, by omega⟩, fun _ => ⟨by omega, rfl, Or.inr ⟨rfl, ?_⟩⟩, fun z2 => ⟨⟨by omega, by omega⟩, hr, fun z3 => ⟨by omega, by omega, ?_⟩, fun z3 => ⟨by omega, rfl, Or.inl ⟨rfl, by omega, 0, by omega, z3⟩⟩⟩⟩⟩
    · rintro ⟨y0, s, s1, s2⟩
      have := it_neg (nx := sp p M) (m := s) z
      omega
    · rintro ⟨_, s, s1, _⟩
      omega
    · obtain ⟨i, rfl⟩ := Int.eq_ofNat_of_zero_le z
      have hi := hs i (by omega)
      rw [Int.toNat_natCast, show (n : Int) + 1 = ((n + 1 : Nat) : Int) by omega]
      refine (ih (n + 1) (sp p M i) hi.1 hi.2 (by omega)).mono fun o M' _ g => ?_
      rcases o with a | _ | x | ⟨q, u⟩ | j <;> first | exact g.elim | skip
      obtain ⟨rfl, g⟩ := g
      refine ⟨rfl, ?_⟩
      have key : (0 ≤ x2 ∧ ∃ s, n + 1 + s ≤ 8 ∧ it (sp p M') s (sp p M' i) = x2) ↔ (0 ≤ x2 ∧ ∃ s, n + s ≤ 8 ∧ it (sp p M') s (i : Int) = x2) := by
        constructor
        · rintro ⟨y0, s, s1, s2⟩
          refine ⟨y0, s + 1, by omega, ?_⟩
          rw [it, if_neg (by omega), Int.toNat_natCast]
          exact s2
        · rintro ⟨y0, s, s1, s2⟩
          cases s with
          | zero => exact absurd s2 z3
          | succ s =>
            rw [it, if_neg (by omega), Int.toNat_natCast] at s2
            exact ⟨y0, s, by omega, s2⟩
      rcases g with ⟨g1, g2⟩ | ⟨g1, g2⟩
      · exact Or.inl ⟨g1, key.mp g2⟩
      · exact Or.inr ⟨g1, fun w => g2 (key.mpr w)⟩
theorem c_335 (hs : ∀ i, i < cl → -1 ≤ sp p M i ∧ sp p M i < cl) (h8 : cl ≤ 8) (h1 : -1 ≤ x1) (h2 : x1 < cl) (hr : me_r x2) : me_W (mt_G N X) 335 d 0 [some (.inr (.inl (some p, 29, 0))), some (.inl x1), some (.inl x2), none, none] [] M (sx_qI (fun y M' => M' = M ∧ (y = 1 ∧ heir (sp p M) x1 x2 ∨ y = 0 ∧ ¬ heir (sp p M) x1 x2)) nt_E) := by
  have fin : ∀ k : Int, -1 ≤ k → k < cl → ((0 ≤ x2 ∧ ∃ s, 0 + s ≤ 8 ∧ it (sp p M) s k = x2) ↔ heir (sp p M) x1 x2) → me_W (mt_G N X) 335 d 18 [some (.inr (.inl (some p, 29, 0))), none, some (.inl x2), some (.inl 0), some (.inl k)] [] M (sx_qI (fun y M' => M' = M ∧ (y = 1 ∧ heir (sp p M) x1 x2 ∨ y = 0 ∧ ¬ heir (sp p M) x1 x2)) nt_E) := fun k k1 k2 e => (heir_18 (d := d) (N := N) (X := X) hs h8 hr 10 0 k k1 k2 rfl).mono fun o M' _ g => by
    rcases o with a | _ | x | ⟨q, u⟩ | j <;> first | exact g.elim | skip
    obtain ⟨rfl, g⟩ := g
    refine ⟨rfl, ?_⟩
    rcases g with ⟨g1, g2⟩ | ⟨g1, g2⟩
    · exact Or.inl ⟨g1, e.mp g2⟩
    · exact Or.inr ⟨g1, fun w => g2 (e.mpr w)⟩
  refine b335_0 ⟨⟨by omega, by omega⟩, fun z => fin (-1) (by omega) (by omega) ?_, fun z => ⟨z, by omega, ?_⟩⟩
  · constructor
    · rintro ⟨y0, s, s1, s2⟩
      have := it_neg (nx := sp p M) (m := s) (k := -1) (by omega)
      omega
    · rintro ⟨y0, _⟩
      omega
  · have hi := hs x1.toNat (by omega)
    refine fin _ hi.1 hi.2 ⟨?_, ?_⟩
    · rintro ⟨y0, s, s1, s2⟩
      exact ⟨z, y0, s, by omega, s2⟩
    · rintro ⟨_, y0, s, s1, s2⟩
      exact ⟨y0, s, by omega, s2⟩
theorem c_350 (hd : 1 ≤ d) (hs : ∀ i, i < cl → -1 ≤ sp p M i ∧ sp p M i < cl) (h8 : cl ≤ 8) (h1 : -100 ≤ x1) (h2 : x1 < 10 + cl) (h3 : -100 ≤ x2) (h4 : x2 < 100) : me_W (mt_G N X) 350 d 0 [some (.inr (.inl (some p, 29, 0))), some (.inl x1), some (.inl x2)] [] M (sx_qI (fun y M' => M' = M ∧ (y = 1 ∧ fit (sp p M) x1 x2 ∨ y = 0 ∧ ¬ fit (sp p M) x1 x2)) nt_E) := by
  refine b350_0 ⟨⟨by omega, by omega⟩, ⟨by omega, by omega⟩, fun z => ⟨by omega, rfl, Or.inl ⟨rfl, Or.inl z⟩⟩, fun z => ⟨⟨by omega, by omega⟩, ⟨by omega, by omega⟩, fun w => ⟨by omega, rfl, Or.inr ⟨rfl, fun v => by unfold fit at v; omega⟩⟩, fun w => ⟨⟨by omega, by omega⟩, ⟨by omega, by omega⟩, fun v => ⟨by omega, rfl, Or.inl ⟨rfl, Or.inr ⟨w, Or.inl v⟩⟩⟩, fun v => ⟨⟨by omega, by omega⟩, ⟨by omega, by omega⟩, fun u => ⟨by omega, rfl, Or.inr ⟨rfl, fun q => by unfold fit at q; omega⟩⟩, fun u => ?_⟩⟩⟩⟩
  refine ca_I hd (c_335 hs h8 (by omega) (by omega) ⟨by omega, by omega⟩) (fun y M1 _ q => ?_) nt_E_no
  obtain ⟨rfl, q⟩ := q
  refine ⟨⟨by omega, by omega⟩, fun y0 => ⟨by omega, rfl, Or.inr ⟨rfl, fun f => ?_⟩⟩, fun y0 => ⟨by omega, rfl, Or.inl ⟨rfl, Or.inr ⟨w, Or.inr ⟨u, ?_⟩⟩⟩⟩⟩
  · have nh : ¬ heir (sp p M1) (x1 - 10) (x2 - 10) := by
      rcases q with q | q
      · omega
      · exact q.2
    rcases f with f | ⟨_, f | f⟩
    · exact z f
    · exact v f
    · exact nh f.2
  · rcases q with q | q
    · exact q.2
    · omega
end HEIR
/-- two methods have the same NAME and the same told types of params -/
def sig (p : Nat) (M : me_M) (m o : Nat) : Prop := tA p M 9 m = tA p M 9 o ∧ nmd p p M (tA p M 1 m).toNat (tA p M 1 o).toNat ∧ ∀ i : Int, 0 ≤ i → i < tA p M 9 m → ¬ tA p M 8 (m + 1 + i : Int).toNat = -5 ∧ tA p M 8 (m + 1 + i : Int).toNat = tA p M 8 (o + 1 + i : Int).toNat
/-- what a method's telling must be for that -/
def mtd (p : Nat) (M : me_M) (m : Nat) : Prop := m < 2408 ∧ 0 ≤ tA p M 9 m ∧ (m : Int) + tA p M 9 m < 2408 ∧ ∃ w : Nat, tA p M 1 m = (w : Int) ∧ tkv p M w
section SIG
variable {N : Nat} {X : Nat → Int32} {d p m o : Nat} {M : me_M}
theorem c_339 {x : Int} : me_W (mt_G N X) 339 d 0 [some (.inr (.inl (some p, 29, 0))), some (.inl x)] [] M (sx_qI (fun y M' => M' = M ∧ y = x + 1) nt_E) := b339_0 ⟨rfl, rfl⟩
theorem sig_44 (hd : 2 ≤ d) (hm : mtd p M m) (ho : mtd p M o) (hs : tA p M 9 m = tA p M 9 o ∧ nmd p p M (tA p M 1 m).toNat (tA p M 1 o).toNat) : ∀ (k : Nat) (i : Int), 0 ≤ i → i ≤ tA p M 9 m → tA p M 9 m - i ≤ k → ∀ x3 : Int, (x3 = 1 ∧ (∀ j, 0 ≤ j → j < i → ¬ tA p M 8 (m + 1 + j : Int).toNat = -5 ∧ tA p M 8 (m + 1 + j : Int).toNat = tA p M 8 (o + 1 + j : Int).toNat) ∨ x3 = 0 ∧ ¬ sig p M m o) → me_W (mt_G N X) 338 d 44 [some (.inr (.inl (some p, 29, 0))), some (.inl (m : Int)), some (.inl (o : Int)), some (.inl x3), some (.inl i), none] [] M (sx_qI (fun y M' => M' = M ∧ (y = 1 ∧ sig p M m o ∨ y = 0 ∧ ¬ sig p M m o)) nt_E) := by
  obtain ⟨m1, m2, m3, _⟩ := hm
  obtain ⟨o1, o2, o3, _⟩ := ho
  have e9 : me_i M (p + 34) m = tA p M 9 m := rfl
  intro k
  induction k with
  | zero =>
    intro i i0 i1 i2 x3 hx
    refine b338_44 ?_
    rw [Int.toNat_natCast, e9]
    refine ⟨by omega, by omega, ⟨by omega, by omega⟩, ⟨by omega, by omega⟩, fun _ => ⟨by omega, rfl, ?_⟩, fun z => by omega⟩
    rcases hx with ⟨rfl, h⟩ | ⟨rfl, h⟩
    · exact Or.inl ⟨rfl, hs.1, hs.2, fun j j0 j1 => h j j0 (by omega)⟩
    · exact Or.inr ⟨rfl, h⟩
  | succ k ih =>
    intro i i0 i1 i2 x3 hx
    refine b338_44 ?_
    rw [Int.toNat_natCast, e9]
    refine ⟨by omega, by omega, ⟨by omega, by omega⟩, ⟨by omega, by omega⟩, fun _ => ⟨by omega, rfl, ?_⟩, fun z => ⟨by rcases hx with ⟨rfl, _⟩ | ⟨rfl, _⟩ <;> exact ⟨by omega, by omega⟩, fun x0 => ⟨by omega, rfl, ?_⟩, fun x0 => ?_⟩⟩
    · rcases hx with ⟨rfl, h⟩ | ⟨rfl, h⟩
      · exact Or.inl ⟨rfl, hs.1, hs.2, fun j j0 j1 => h j j0 (by omega)⟩
      · exact Or.inr ⟨rfl, h⟩
    · rcases hx with ⟨h, _⟩ | ⟨_, h⟩
      · omega
      · exact Or.inr ⟨x0, h⟩
    · have hh : ∀ j, 0 ≤ j → j < i → ¬ tA p M 8 (m + 1 + j : Int).toNat = -5 ∧ tA p M 8 (m + 1 + j : Int).toNat = tA p M 8 (o + 1 + j : Int).toNat := by
        rcases hx with ⟨_, h⟩ | ⟨h, _⟩
        · exact h
        · exact absurd h x0
      refine ca_I (by omega) c_339 (fun y M1 _ q => ?_) nt_E_no
      obtain ⟨rfl, rfl⟩ := q
      have e8 : ∀ j : Int, me_i M1 (p + 33) (m + 1 + j : Int).toNat = tA p M1 8 (m + 1 + j : Int).toNat := fun _ => rfl
      have e8' : ∀ j : Int, me_i M1 (p + 33) (o + 1 + j : Int).toNat = tA p M1 8 (o + 1 + j : Int).toNat := fun _ => rfl
      refine ⟨by omega, by omega, me_i_r _ _ _, ⟨by omega, by omega⟩, fun w => ?_, fun w => ?_⟩
      · exact ih (i + 1) (by omega) (by omega) (by omega) 0 (Or.inr ⟨rfl, fun g => (g.2.2 i i0 z).1 w⟩)
      refine ca_I (by omega) c_339 (fun y M2 _ q => ?_) nt_E_no
      obtain ⟨rfl, rfl⟩ := q
      refine ⟨by omega, by omega, me_i_r _ _ _, me_i_r _ _ _, fun w2 => ?_, fun w2 => ?_⟩
      · exact ih (i + 1) (by omega) (by omega) (by omega) 0 (Or.inr ⟨rfl, fun g => w2 (g.2.2 i i0 z).2⟩)
      · exact ih (i + 1) (by omega) (by omega) (by omega) 1 (Or.inl ⟨rfl, fun j j0 j1 => by
          by_cases e : j = i
          · rw [e]
            exact ⟨w, w2⟩
          · exact hh j j0 (by omega)⟩)
theorem c_338 (hd : 2 ≤ d) (hT : TX p M) (hm : mtd p M m) (ho : mtd p M o) : me_W (mt_G N X) 338 d 0 [some (.inr (.inl (some p, 29, 0))), some (.inl (m : Int)), some (.inl (o : Int)), none, none, none] [] M (sx_qI (fun y M' => M' = M ∧ (y = 1 ∧ sig p M m o ∨ y = 0 ∧ ¬ sig p M m o)) nt_E) := by
  obtain ⟨m1, m2, m3, w, mw, mk⟩ := id hm
  obtain ⟨o1, o2, o3, v, ow, ok⟩ := id ho
  have e9 : me_i M (p + 34) m = tA p M 9 m := rfl
  have e9' : me_i M (p + 34) o = tA p M 9 o := rfl
  have K : ¬ sig p M m o → me_W (mt_G N X) 338 d 44 [some (.inr (.inl (some p, 29, 0))), some (.inl (m : Int)), some (.inl (o : Int)), some (.inl 0), some (.inl 0), none] [] M (sx_qI (fun y M' => M' = M ∧ (y = 1 ∧ sig p M m o ∨ y = 0 ∧ ¬ sig p M m o)) nt_E) := fun h => by
    refine b338_44 ?_
    rw [Int.toNat_natCast, e9]
    exact ⟨by omega, by omega, ⟨by omega, by omega⟩, ⟨by omega, by omega⟩, fun _ => ⟨by omega, rfl, Or.inr ⟨rfl, h⟩⟩, fun z => ⟨⟨by omega, by omega⟩, fun _ => ⟨by omega, rfl, Or.inr ⟨rfl, h⟩⟩, fun x0 => by omega⟩⟩
  refine b338_0 ?_
  rw [Int.toNat_natCast, Int.toNat_natCast, e9, e9', show me_i M (p + 26) m = (w : Int) from mw, show me_i M (p + 26) o = (v : Int) from ow]
  refine ⟨by omega, by omega, by omega, by omega, ⟨by omega, by omega⟩, ⟨by omega, by omega⟩, fun z => K fun g => z g.1, fun z => ⟨by omega, by omega, by omega, by omega, ?_⟩⟩
  refine ca_I (by omega) (c_326 (by omega) hT hT mk ok) (fun y M1 _ q => ?_) nt_E_no
  obtain ⟨rfl, q⟩ := q
  have ew : (tA p M1 1 m).toNat = w := by rw [mw, Int.toNat_natCast]
  have ev : (tA p M1 1 o).toNat = v := by rw [ow, Int.toNat_natCast]
  refine ⟨⟨by omega, by omega⟩, fun y0 => K fun g => ?_, fun y0 => ?_⟩
  · have := g.2.1
    rw [ew, ev] at this
    rcases q with q | q
    · omega
    · exact q.2 this
  · refine sig_44 hd hm ho ⟨z, ?_⟩ (tA p M1 9 m).toNat 0 (by omega) m2 (by omega) 1 (Or.inl ⟨rfl, fun j j0 j1 => by omega⟩)
    rw [ew, ev]
    rcases q with q | q
    · exact q.2
    · omega
end SIG
