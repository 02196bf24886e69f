/-! the reference's judge: names, classes, errors -/
/-- a program's texts in memory -/
def TX (p : Nat) (M : me_M) : Prop := ∀ f, f < 4 → me_p M (p + 1) f = some (p + 2 + f) ∧ M.2.1 (p + 2 + f) = (2, 4000) ∧ 0 ≤ me_i M (p + 6) f ∧ me_i M (p + 6) f ≤ 4000
/-- token k of program p stands within its text -/
def tkv (p : Nat) (M : me_M) (k : Nat) : Prop := k < 2408 ∧ (0 ≤ kA p M 4 k ∧ kA p M 4 k < 4) ∧ 0 ≤ kA p M 2 k ∧ 0 ≤ kA p M 3 k ∧ kA p M 2 k + kA p M 3 k ≤ 4000
def bA (p : Nat) (M : me_M) (k : Nat) (i : Int) : Int := me_i M (p + 2 + (kA p M 4 k).toNat) (kA p M 2 k + i).toNat
/-- two tokens have the same bytes -/
def nmd (p p' : Nat) (M : me_M) (k k' : Nat) : Prop := kA p M 3 k = kA p' M 3 k' ∧ ∀ i : Int, 0 ≤ i → i < kA p M 3 k → bA p M k i = bA p' M k' i
section NMD
variable {N : Nat} {X : Nat → Int32} {d p p' k k' : Nat} {M : me_M} {x1 x2 x3 : Int}
theorem c_327 (hT : TX p M) (hk : tkv p M k) (h0 : 0 ≤ x2) (h1 : x2 < kA p M 3 k) : me_W (mt_G N X) 327 d 0 [some (.inr (.inl (some p, 29, 0))), some (.inl (k : Int)), some (.inl x2)] [] M (sx_qI (fun y M' => M' = M ∧ y = bA p M k x2) nt_E) := by
  obtain ⟨k1, k2, k3, k4, k5⟩ := hk
  have e4 : me_i M (p + 12) k = kA p M 4 k := rfl
  have e2 : me_i M (p + 10) k = kA p M 2 k := rfl
  obtain ⟨f, hf⟩ := Int.eq_ofNat_of_zero_le k2.1
  have hf4 : f < 4 := by omega
  obtain ⟨t1, t2, t3, t4⟩ := hT f hf4
  refine b327_0 ?_
  rw [Int.toNat_natCast, e4, e2]
  refine ⟨by omega, by omega, by omega, by omega, fun n1 hn => ?_⟩
  have ef : (kA p M 4 k).toNat = f := by omega
  rw [ef] at hn ⊢
  have hn1 : n1 = 4000 := by
    have := hn _ t1
    rw [t2] at this
    exact (congrArg Prod.snd this).symm
  subst hn1
  rw [t1]
  refine ⟨by omega, by omega, ?_⟩
  show 0 ≤ _ ∧ _
  refine ⟨by omega, by omega, fun hb => ⟨hb, rfl, ?_⟩⟩
  unfold bA
  rw [ef]
theorem nmd_31 (hd : 1 ≤ d) (hT : TX p M) (hT' : TX p' M) (hk : tkv p M k) (hk' : tkv p' M k') (hs : kA p M 3 k = kA p' M 3 k') : ∀ (m : Nat) (i : Int), 0 ≤ i → i ≤ kA p M 3 k → kA p M 3 k - i ≤ m → (∀ j, 0 ≤ j → j < i - 1 → bA p M k j = bA p' M k' j) → ∀ x4 : Int, (x4 = 1 ∧ (∀ j, 0 ≤ j → j < i → bA p M k j = bA p' M k' j) ∨ x4 = 0 ∧ 0 < i ∧ ¬ bA p M k (i - 1) = bA p' M k' (i - 1)) → me_W (mt_G N X) 326 d 31 [some (.inr (.inl (some p, 29, 0))), some (.inl (k : Int)), some (.inr (.inl (some p', 29, 0))), some (.inl (k' : Int)), some (.inl x4), some (.inl i)] [] M (sx_qI (fun y M' => M' = M ∧ (y = 1 ∧ nmd p p' M k k' ∨ y = 0 ∧ ¬ nmd p p' M k k')) nt_E) := by
  have e3 : me_i M (p + 11) k = kA p M 3 k := rfl
  have k1 := hk.1
  have k3 := hk.2.2
  intro m
  induction m with
  | zero =>
    intro i i0 i1 i2 hl x4 hx
    refine b326_31 ?_
    rw [Int.toNat_natCast, e3]
    refine ⟨by omega, by omega, ⟨by omega, by omega⟩, ⟨by omega, by omega⟩, fun _ => ⟨by omega, rfl, ?_⟩, fun z => by omega⟩
    rcases hx with ⟨rfl, h⟩ | ⟨rfl, h1, h2⟩
    · exact Or.inl ⟨rfl, hs, fun j j0 j1 => h j j0 (by omega)⟩
    · exact Or.inr ⟨rfl, fun z => h2 (z.2 _ (by omega) (by omega))⟩
  | succ m ih =>
    intro i i0 i1 i2 hl x4 hx
    refine b326_31 ?_
    rw [Int.toNat_natCast, e3]
    refine ⟨by omega, by omega, ⟨by omega, by omega⟩, ⟨by omega, by omega⟩, fun _ => ⟨by omega, rfl, ?_⟩, fun z => ⟨⟨by omega, by omega⟩, fun z0 => ⟨by omega, rfl, ?_⟩, fun z0 => ?_⟩⟩
    · rcases hx with ⟨rfl, h⟩ | ⟨rfl, h1, h2⟩
      · exact Or.inl ⟨rfl, hs, fun j j0 j1 => h j j0 (by omega)⟩
      · exact Or.inr ⟨rfl, fun z => h2 (z.2 _ (by omega) (by omega))⟩
    · rcases hx with ⟨rfl, h⟩ | ⟨rfl, h1, h2⟩
      · omega
      · exact Or.inr ⟨z0, fun z => h2 (z.2 _ (by omega) (by omega))⟩
    · have hx1 : ∀ j, 0 ≤ j → j < i → bA p M k j = bA p' M k' j := by
        rcases hx with ⟨_, h⟩ | ⟨h, _⟩
        · exact h
        · exact absurd h z0
      refine ca_I hd (c_327 hT hk i0 z) (fun y M1 _ q => ?_) nt_E_no
      obtain ⟨rfl, rfl⟩ := q
      refine ca_I hd (c_327 hT' hk' i0 (by omega)) (fun y M2 _ q => ?_) nt_E_no
      obtain ⟨rfl, rfl⟩ := q
      refine ⟨me_i_r _ _ _, me_i_r _ _ _, fun w => ?_, fun w => ?_⟩
      · exact ih (i + 1) (by omega) (by omega) (by omega) (fun j j0 j1 => hx1 j j0 (by omega)) 0 (Or.inr ⟨rfl, by omega, by rw [show i + 1 - 1 = i by omega]; exact w⟩)
      · exact ih (i + 1) (by omega) (by omega) (by omega) (fun j j0 j1 => hx1 j j0 (by omega)) 1 (Or.inl ⟨rfl, fun j j0 j1 => by
          by_cases e : j = i
          · rw [e]
            exact w
          · exact hx1 j j0 (by omega)⟩)
theorem c_326 (hd : 1 ≤ d) (hT : TX p M) (hT' : TX p' M) (hk : tkv p M k) (hk' : tkv p' M k') : me_W (mt_G N X) 326 d 0 [some (.inr (.inl (some p, 29, 0))), some (.inl (k : Int)), some (.inr (.inl (some p', 29, 0))), some (.inl (k' : Int)), none, none] [] M (sx_qI (fun y M' => M' = M ∧ (y = 1 ∧ nmd p p' M k k' ∨ y = 0 ∧ ¬ nmd p p' M k k')) nt_E) := by
  have e3 : me_i M (p + 11) k = kA p M 3 k := rfl
  have e3' : me_i M (p' + 11) k' = kA p' M 3 k' := rfl
  have k1 := hk.1
  have k1' := hk'.1
  refine b326_0 ?_
  rw [Int.toNat_natCast, Int.toNat_natCast, e3, e3']
  have r1 : me_r (kA p M 3 k) := me_i_r _ _ _
  have r2 : me_r (kA p' M 3 k') := me_i_r _ _ _
  refine ⟨by omega, by omega, by omega, by omega, r1, r2, fun z => ?_, fun z => ?_⟩
  · refine b326_31 ?_
    rw [Int.toNat_natCast, e3]
    refine ⟨by omega, by omega, ⟨by omega, by omega⟩, r1, fun _ => ⟨by omega, rfl, Or.inr ⟨rfl, fun w => z w.1⟩⟩, fun _ => ⟨⟨by omega, by omega⟩, fun _ => ⟨by omega, rfl, Or.inr ⟨rfl, fun w => z w.1⟩⟩, fun w => by omega⟩⟩
  · exact nmd_31 hd hT hT' hk hk' z (kA p M 3 k).toNat 0 (by omega) hk.2.2.2.1 (by omega) (fun j j0 j1 => by omega) 1 (Or.inl ⟨rfl, fun j j0 j1 => by omega⟩)
/-- the first class told of a NAME, or -1 -/
theorem cls_2 (hd : 2 ≤ d) (hT : TX p M) (hT' : TX p' M) (cl : Nat) (hc : me_i M p 27 = (cl : Int)) (hc8 : cl ≤ 8) (hct : ∀ i, i < cl → ∃ q : Nat, me_i M (p + 35) i = (q : Int) ∧ q < 2408 ∧ ∃ w : Nat, tA p M 1 q = (w : Int) ∧ tkv p M w) (hk' : tkv p' M k') : ∀ (m i : Nat), i ≤ cl → cl - i ≤ m → me_W (mt_G N X) 325 d 2 [some (.inr (.inl (some p, 29, 0))), some (.inr (.inl (some p', 29, 0))), some (.inl (k' : Int)), some (.inl (i : Int))] [] M (sx_qI (fun y M' => M' = M ∧ (y = -1 ∧ (∀ j, i ≤ j → j < cl → ¬ nmd p p' M (tA p M 1 (me_i M (p + 35) j).toNat).toNat k') ∨ ((i : Int) ≤ y ∧ y < cl ∧ nmd p p' M (tA p M 1 (me_i M (p + 35) y.toNat).toNat).toNat k' ∧ ∀ j, i ≤ j → (j : Int) < y → ¬ nmd p p' M (tA p M 1 (me_i M (p + 35) j).toNat).toNat k'))) nt_E) := by
  intro m
  induction m with
  | zero =>
    intro i i1 i2
    refine b325_2 ⟨⟨by omega, by omega⟩, me_i_r _ _ _, fun _ => ⟨rfl, Or.inl ⟨rfl, fun j j1 j2 => by omega⟩⟩, fun z => by omega⟩
  | succ m ih =>
    intro i i1 i2
    refine b325_2 ⟨⟨by omega, by omega⟩, me_i_r _ _ _, fun _ => ⟨rfl, Or.inl ⟨rfl, fun j j1 j2 => by omega⟩⟩, fun z => ?_⟩
    obtain ⟨q, q1, q2, w, w1, w2⟩ := hct i (by omega)
    rw [Int.toNat_natCast, q1, Int.toNat_natCast, show me_i M (p + 26) q = (w : Int) from w1]
    refine ⟨by omega, by omega, by omega, by omega, ?_⟩
    have ew : (tA p M 1 (me_i M (p + 35) i).toNat).toNat = w := by
      rw [q1, Int.toNat_natCast, w1, Int.toNat_natCast]
    refine ca_I (by omega) (c_326 (by omega) hT hT' w2 hk') (fun y M1 _ q => ?_) nt_E_no
    obtain ⟨rfl, q⟩ := q
    refine ⟨⟨by omega, by omega⟩, fun y0 => ?_, fun y0 => ?_⟩
    · have nn : ¬ nmd p p' M1 w k' := by
        rcases q with v | v
        · omega
        · exact v.2
      rw [show (i : Int) + 1 = ((i + 1 : Nat) : Int) by omega]
      refine (ih (i + 1) (by omega) (by omega)).mono fun o M' _ g => ?_
      rcases o with a | _ | x | ⟨q, u⟩ | j <;> first | exact g.elim | skip
      obtain ⟨rfl, g⟩ := g
      refine ⟨rfl, ?_⟩
      have step : ∀ j, i ≤ j → (∀ z, i + 1 ≤ j → z = j → ¬ nmd p p' M' (tA p M' 1 (me_i M' (p + 35) z).toNat).toNat k') → ¬ nmd p p' M' (tA p M' 1 (me_i M' (p + 35) j).toNat).toNat k' := fun j j1 j2 => by
        by_cases e : j = i
        · rw [e, ew]
          exact nn
        · exact j2 j (by omega) rfl
      rcases g with ⟨rfl, g⟩ | ⟨g1, g2, g3, g4⟩
      · exact Or.inl ⟨rfl, fun j j1 j2 => step j j1 fun z z1 z2 => g z (by omega) (by omega)⟩
      · exact Or.inr ⟨by omega, g2, g3, fun j j1 j2 => step j j1 fun z z1 z2 => g4 z (by omega) (by omega)⟩
    · have yn : nmd p p' M1 w k' := by
        rcases q with v | v
        · exact v.2
        · omega
      refine ⟨rfl, Or.inr ⟨by omega, by omega, ?_, fun j j1 j2 => by omega⟩⟩
      rw [Int.toNat_natCast, ew]
      exact yn
end NMD
