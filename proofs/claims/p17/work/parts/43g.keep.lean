/-! the model's calls: texts that are kept -/
section KEEP
variable {N : Nat} {X : Nat → Int32} {d p C n m cl : Nat} {x1 x2 : Int} {Φ : Nat → Nat} {M0 M M1 M2 : me_M}
theorem mi_cp {a b n c j : Nat} : me_i (me_cp M a b 0 0 n) c j = if c = b ∧ j < n then me_i M a j else me_i M c j := by
  have v : va_cpy (M.2.2.1 a) (M.2.2.1 b) 0 0 n j = if j < n then M.2.2.1 a j else M.2.2.1 b j := by
    unfold va_cpy
    by_cases h : j < n
    · rw [if_pos h, if_pos ⟨Nat.zero_le _, by omega⟩, Nat.zero_add, Nat.sub_zero]
    · rw [if_neg h, if_neg (by omega)]
  unfold me_i
  show (if c = b then va_cpy (M.2.2.1 a) (M.2.2.1 b) 0 0 n j else M.2.2.1 c j).toInt = _
  rw [v]
  by_cases e : c = b
  · rw [if_pos e]
    by_cases h : j < n
    · rw [if_pos h, if_pos ⟨e, h⟩]
    · rw [if_neg h, if_neg fun v => h v.2, e]
  · rw [if_neg e, if_neg fun v => e v.1]
theorem fr_cp {P : Nat → Nat → Prop} {a b n : Nat} (h : ∀ j, P b j) : fr P M (me_cp M a b 0 0 n) := ⟨rfl, rfl, rfl, fun c j k => by
  show (if c = b then _ else M.2.2.1 c j) = _
  rw [if_neg fun v => k (by rw [v]; exact h j)]⟩
/-- where kept texts lie -/
def KPT (kp : Nat → Nat) (M : me_M) : Prop := (∀ j, j < 13 → me_p M 380 j = some (kp j) ∧ M.2.1 (kp j) = (12, 4) ∧ (381 ≤ kp j ∧ kp j ≤ 441) ∧ ∀ f, f < 4 → me_p M (kp j) f = some (kp j + 1 + f) ∧ M.2.1 (kp j + 1 + f) = (2, 3000)) ∧ ∀ i j, i < 13 → j < 13 → ¬ i = j → kp i + 5 ≤ kp j ∨ kp j + 5 ≤ kp i
/-- step j's text is that of p -/
def TXE (kp : Nat → Nat) (j p : Nat) (M : me_M) : Prop := ∀ f, f < 4 → me_i M 446 (4 * j + f) = me_i M (p + 6) f ∧ ∀ i : Nat, (i : Int) < me_i M (p + 6) f → me_i M (kp j + 1 + f) i = me_i M (p + 2 + f) i
def kpP (kp : Nat → Nat) (j : Nat) : Nat → Nat → Prop := fun b i => b = 446 ∧ 4 * j ≤ i ∧ i < 4 * j + 4 ∨ kp j + 1 ≤ b ∧ b ≤ kp j + 4
theorem KPT.fr {kp : Nat → Nat} {P : Nat → Nat → Prop} (H : KPT kp M) (f : fr P M M1) : KPT kp M1 := by
  refine ⟨fun j hj => ?_, H.2⟩
  obtain ⟨a, b, c, e⟩ := H.1 j hj
  refine ⟨f.p.trans a, by rw [f.2.1]; exact b, c, fun i hi => ⟨f.p.trans (e i hi).1, by rw [f.2.1]; exact (e i hi).2⟩⟩
theorem ke_2 {j : Nat} {kp : Nat → Nat} (hj : j < 13) (hp : 192 ≤ p ∧ p + 47 ≤ 380) (hd : 1 ≤ d) : ∀ (g x : Nat) (M1 : me_M), 4 - x < g → x ≤ 4 → me_p M 164 52 = some p → TX p M → (∀ f, f < 4 → me_i M (p + 6) f ≤ 3000) → KPT kp M → fr (kpP kp j) M M1 → (∀ f, f < x → me_i M1 446 (4 * j + f) = me_i M1 (p + 6) f ∧ ∀ i : Nat, (i : Int) < me_i M1 (p + 6) f → me_i M1 (kp j + 1 + f) i = me_i M1 (p + 2 + f) i) → me_W (mt_G N X) 363 d 2 [some (.inr (.inl (some 164, 25, 0))), some (.inl (j : Int)), some (.inl (x : Int))] [] M1 (sx_qV (fun M' => fr (kpP kp j) M M' ∧ TXE kp j p M') nt_E) := by
  intro g
  induction g with
  | zero => intro x M1 z; omega
  | succ g ih =>
    intro x M1 hg hx HP HT HS HK f1 hv
    have HP1 := f1.p.trans HP
    have kr := (HK.1 j hj).2.2.1
    have HT1 : TX p M1 := HT.fr f1 fun i v => by unfold kpP at v; omega
    have HK1 := HK.fr f1
    have HS1 : ∀ f, f < 4 → me_i M1 (p + 6) f ≤ 3000 := fun f hf => by
      rw [f1.i fun v => by unfold kpP at v; omega]
      exact HS f hf
    refine b363_2 ?_
    rw [HP1, Int.toNat_natCast]
    refine ⟨⟨by omega, by omega⟩, ⟨by decide, by decide⟩, fun c => ⟨f1, fun f hf => hv f (by omega)⟩, fun c => dr_s ⟨by omega, by omega, by omega, by omega, ?_⟩⟩
    have x4 : x < 4 := by omega
    rw [show (4 * (j : Int) + (x : Int)).toNat = 4 * j + x by omega]
    obtain ⟨t1, t2, t3, t4⟩ := HT1 x x4
    have s3 := HS1 x x4
    obtain ⟨sz, hsz⟩ := Int.eq_ofNat_of_zero_le t3
    intro M2
    have f2 : fr (kpP kp j) M1 M2 := fr_sI (Or.inl ⟨rfl, by omega, by omega⟩)
    have v2 : me_i M2 446 (4 * j + x) = me_i M1 (p + 6) x := by
      show me_i (me_sI M1 446 (4 * j + x) (Int32.ofInt (me_i M1 (p + 6) x))) 446 (4 * j + x) = _
      rw [me_i_sI, if_pos ⟨rfl, rfl⟩, me_to (me_i_r _ _ _)]
    have o2 : ∀ b i, ¬ (b = 446 ∧ i = 4 * j + x) → me_i M2 b i = me_i M1 b i := fun b i n => by
      show me_i (me_sI M1 446 (4 * j + x) (Int32.ofInt (me_i M1 (p + 6) x))) b i = _
      rw [me_i_sI, if_neg n]
    clear_value M2
    obtain ⟨k1, k2, k3, k4⟩ := (HK1.fr f2).1 j hj
    obtain ⟨k5, k6⟩ := k4 x x4
    have p2 : me_p M2 (p + 1) x = some (p + 2 + x) := f2.p.trans t1
    have z2 : M2.2.1 (p + 2 + x) = (2, 4000) := by
      rw [f2.2.1]
      exact t2
    rw [f2.p, HP1]
    refine dr_s ⟨by omega, by omega, fun n4 hn4 => ?_⟩
    have h4 := hn4 _ p2
    rw [z2] at h4
    have h4 : 4000 = n4 := (Prod.mk.inj h4).2
    refine ⟨by omega, by omega, fun n5 hn5 => ?_⟩
    have h5 := hn5 _ k1
    rw [k2] at h5
    have h5 : 4 = n5 := (Prod.mk.inj h5).2
    rw [show (164 + 216 : Nat) = 380 from rfl, Int.toNat_natCast, k1]
    refine dr_s ⟨by omega, by omega, fun n7 hn7 => ?_⟩
    have h7 := hn7 _ k5
    rw [k6] at h7
    have h7 : 3000 = n7 := (Prod.mk.inj h7).2
    have e6 : me_i M2 (p + 6) x = (sz : Int) := (o2 _ _ (by omega)).trans hsz
    refine dr_s ⟨by omega, by omega, ?_⟩
    rw [p2, k5, e6]
    refine dr_s (dr_s ⟨hd, by omega, by omega, by omega, by omega, by omega, ?_⟩)
    rw [Int.toNat_natCast]
    intro M11
    have f3 : fr (kpP kp j) M2 M11 := fr_cp fun i => Or.inr ⟨by omega, by omega⟩
    have c3 : ∀ c i, me_i M11 c i = if c = kp j + 1 + x ∧ i < sz then me_i M2 (p + 2 + x) i else me_i M2 c i := fun c i => mi_cp
    clear_value M11
    rw [show (x : Int) + 1 = ((x + 1 : Nat) : Int) by omega]
    have s6 : ∀ f, me_i M11 (p + 6) f = me_i M1 (p + 6) f := fun f => by
      rw [c3, if_neg (by omega), o2 _ _ (by omega)]
    refine ih (x + 1) M11 (by omega) (by omega) HP HT HS HK (f1.tr (f2.tr f3)) fun f hf => ?_
    rw [s6]
    by_cases e : f = x
    · subst e
      refine ⟨?_, fun i hi => ?_⟩
      · rw [c3, if_neg (by omega)]
        exact v2
      · rw [c3, if_pos ⟨rfl, by omega⟩, c3, if_neg (by omega)]
    · obtain ⟨a, b⟩ := hv f (by omega)
      refine ⟨?_, fun i hi => ?_⟩
      · rw [c3, if_neg (by omega), o2 _ _ (by omega)]
        exact a
      · rw [c3, if_neg (by omega), c3, if_neg (by omega), o2 _ _ (by omega), o2 _ _ (by omega)]
        exact b i hi
theorem c_363 {j : Nat} {kp : Nat → Nat} (hj : j < 13) (hp : 192 ≤ p ∧ p + 47 ≤ 380) (HP : me_p M 164 52 = some p) (HT : TX p M) (HS : ∀ f, f < 4 → me_i M (p + 6) f ≤ 3000) (HK : KPT kp M) (hd : 1 ≤ d) : me_W (mt_G N X) 363 d 0 [some (.inr (.inl (some 164, 25, 0))), some (.inl (j : Int)), none] [] M (sx_qV (fun M' => fr (kpP kp j) M M' ∧ TXE kp j p M') nt_E) :=
  b363_0 (ke_2 hj hp hd 5 0 M (by omega) (by omega) HP HT HS HK fr.rf fun f z => by omega)
end KEEP
