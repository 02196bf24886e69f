/-! the run: what stands between two acts -/
/-- where a run changes cells -/
def rP : Nat → Nat → Prop := fun b j => b = 164 ∧ (7 ≤ j ∧ j ≤ 12 ∨ j = 17 ∨ j = 23 ∨ 25 ≤ j ∧ j ≤ 29 ∨ 40 ≤ j ∧ j ≤ 42) ∨ b = 168 ∨ 170 ≤ b ∧ b ≤ 172 ∨ b = 190 ∨ b = 191
def rRun : Nat → Nat → Prop := fun j _ => j = 22 ∨ j = 24 ∨ j = 39 ∨ 43 ≤ j ∧ j ≤ 48
theorem rP_ok : ∀ b j, rP b j → ¬ oka b := fun b j z => by
  unfold oka
  rcases z with z | z | z | z | z
  · have := z.1
    omega
  all_goals omega
/-- what a run leaves -/
def RBS (Mr M : me_M) : Prop := gx rP rRun Mr M ∧ (0 ≤ me_i M 164 12 ∧ me_i M 164 12 ≤ 300) ∧ ∀ i, i < 19264 → me_i M 190 i ≤ me_i M 164 49
section MST
variable (p C n m cl : Nat) (A B : Nat → Nat → Int) (nx cn ct fc fs mn : Nat → Int) (V : Nat → Nat → Prop) (S F E : Nat → Int) (T : Nat) (MA KA : Nat → Int)
/-- memory is as the acts' tables tell -/
def MEMO (M : me_M) : Prop := RP p C n m cl A B nx cn ct fc fs mn V M ∧ (T ≤ gL M 31 ∧ T ≤ gL M 32 ∧ T ≤ gL M 33) ∧ (∀ i, i < T → gi M 31 i = S i ∧ gi M 32 i = F i ∧ gi M 33 i = E i) ∧ (∀ h, h < m → me_i M 178 h = MA h) ∧ ∀ c, c < cl → me_i M 179 c = KA c
/-- the class of self in method h, or -1 -/
def zf (h : Nat) : Int := if B 4 h = 0 then (hkn B cn h : Int) else -1
/-- the acts -/
def EVN : Prop := CF B nx cn ct fc fs V m cl ∧ (1 ≤ T ∧ T ≤ 57000) ∧ S 0 = 0 ∧ (∀ h, h < m → B 0 h = 2 → ∃ (lo k : Nat) (σ : Nat → cx) (H : Nat → Nat), MA h = (lo : Int) ∧ PKG B nx cn m cl S F E T lo k σ H (zf B cn h) (h : Int) ∧ cle (σ lo) ([], D0 B m h)) ∧ ∀ c, c < cl → ∃ (lo k : Nat) (σ : Nat → cx) (H : Nat → Nat), KA c = (lo : Int) ∧ PKG B nx cn m cl S F E T lo k σ H (c : Int) (-1) ∧ cle (σ lo) ([], Dm m)
/-- all but the frames -/
def BA (Mr : me_M) (nn fu st rd : Nat) (M : me_M) : Prop := MEMO p C n m cl A B nx cn ct fc fs mn V S F E T MA KA M ∧ RBS Mr M ∧ CHO B nx cn V m cl M ∧ (∃ ra rl : Nat, me_p M 164 16 = some ra ∧ ra < 477 ∧ M.2.1 ra = (0, rl) ∧ me_i M 164 18 ≤ rl) ∧ HEAP B nx cn ct m cl nn (me_i M 171) (me_i M 172) fu (gi M 22) ∧ STAT B nx m nn (me_i M 171) (me_i M 170) ∧ (me_i M 164 11 = (nn : Int) ∧ me_i M 164 23 = (fu : Int) ∧ me_i M 164 9 = (st : Int) ∧ me_i M 164 17 = (rd : Int)) ∧ (nn ≤ 400 ∧ st ≤ 20000 ∧ fu ≤ gL M 22)
end MST
section MST2
variable (B : Nat → Nat → Int) (nx cn : Nat → Int) (m cl : Nat) (S F E : Nat → Int) (T : Nat)
/-- the frames; the last is at act i -/
def FX (nn u b lb lo k i su : Nat) (σ : Nat → cx) (H : Nat → Nat) (z w : Int) (hg bs tp : Nat) (self fm : Int) (M : me_M) : Prop := (me_i M 164 42 = (u : Int) ∧ me_i M 164 10 = (u : Int) ∧ me_i M 164 40 = (hg : Int) ∧ me_i M 164 25 = (bs : Int) ∧ me_i M 164 26 = (tp : Int) ∧ me_i M 164 28 = self ∧ me_i M 164 27 = fm) ∧ (u ≤ 40 ∧ hg ≤ gL M 39 ∧ tp ≤ gL M 24 ∧ ∀ j, 43 ≤ j → j ≤ 48 → 0 < u → u ≤ gL M j) ∧ (PKG B nx cn m cl S F E T lo k σ H z w ∧ lo ≤ i ∧ i ≤ k) ∧ FRD B nx m (gi M 24) nn (me_i M 171) σ i z w self fm bs tp ∧ STK (vt nx (me_i M 171) nn) (gi M 39) (σ i).1 b hg ∧ (lb ≤ tp ∧ (0 ≤ w → lb ≤ bs) ∧ b ≤ 2410 * u ∧ tp ≤ 610 * u ∧ (u = 0 ↔ w = -1 ∧ z = -1)) ∧ CHW B nx cn m cl S F E T (gi M) nn (me_i M 171) u b lb (rtt B z w) su
/-- how far it is still to go at most -/
def mu (st su i : Nat) : Nat := (T + 1) * (20001 - st - (if S i = 16 then 1 else 0)) + su + (T - i)
theorem mu_fwd {S : Nat → Int} {T st su i j : Nat} (h : ¬ S i = 16) (ij : i < j) (hj : j ≤ T) : mu S T st su j < mu S T st su i := by
  unfold mu
  rw [if_neg h]
  have : (T + 1) * (20001 - st - (if S j = 16 then 1 else 0)) ≤ (T + 1) * (20001 - st - 0) := Nat.mul_le_mul_left _ (by omega)
  omega
theorem mu_trial {S : Nat → Int} {T st su i : Nat} (h : S i = 16) (hi : i < T) : mu S T (st + 1) su (i + 1) < mu S T st su i := by
  unfold mu
  rw [if_pos h]
  have : (T + 1) * (20001 - (st + 1) - (if S (i + 1) = 16 then 1 else 0)) ≤ (T + 1) * (20001 - st - 1) := Nat.mul_le_mul_left _ (by omega)
  omega
theorem mu_step {S : Nat → Int} {T st su i j : Nat} (h : ¬ S i = 16) (ij : i < j) (hj : j ≤ T) : mu S T (st + 1) su j < mu S T st su i := by
  unfold mu
  rw [if_neg h]
  have : (T + 1) * (20001 - (st + 1) - (if S j = 16 then 1 else 0)) ≤ (T + 1) * (20001 - st - 0) := Nat.mul_le_mul_left _ (by omega)
  omega
theorem mu_back {S : Nat → Int} {T st su i j : Nat} (h : ¬ S i = 16) (hj : S j = 16) (hs : st ≤ 20000) : mu S T st su j < mu S T st su i := by
  unfold mu
  rw [if_neg h, if_pos hj]
  have e : 20001 - st - 0 = (20001 - st - 1) + 1 := by omega
  rw [e, Nat.mul_add]
  omega
theorem mu_call {S : Nat → Int} {T st su i j : Nat} (h : ¬ S i = 16) (hi : i < T) (hs : st < 20000) : mu S T (st + 1) (su + (T - (i + 1))) j < mu S T st su i := by
  unfold mu
  rw [if_neg h]
  have a : (T + 1) * (20001 - (st + 1) - (if S j = 16 then 1 else 0)) ≤ (T + 1) * (20001 - (st + 1)) := Nat.mul_le_mul_left _ (by omega)
  have e : 20001 - st - 0 = (20001 - (st + 1)) + 1 := by omega
  rw [e, Nat.mul_add]
  omega
theorem mu_ret {S : Nat → Int} {T st su su' i j : Nat} (h : ¬ S i = 16) (hi : i < T) (e : su = su' + (T - j)) : mu S T st su' j < mu S T st su i := by
  unfold mu
  rw [if_neg h]
  have : (T + 1) * (20001 - st - (if S j = 16 then 1 else 0)) ≤ (T + 1) * (20001 - st - 0) := Nat.mul_le_mul_left _ (by omega)
  omega
end MST2
section MST3
variable {N : Nat} {X : Nat → Int32} {d p C n m cl : Nat} {A B : Nat → Nat → Int} {nx cn ct fc fs mn : Nat → Int} {V : Nat → Nat → Prop} {S F E : Nat → Int} {T BD : Nat} {MA KA : Nat → Int} {Mr M M1 M2 M' : me_M} {P R : Nat → Nat → Prop}
variable {nn fu st rd u b lb lo k i su hg bs tp : Nat} {σ : Nat → cx} {H : Nat → Nat} {z w self fm : Int}
/-- the machine before an act -/
def MR (p C n m cl : Nat) (A B : Nat → Nat → Int) (nx cn ct fc fs mn : Nat → Int) (V : Nat → Nat → Prop) (S F E : Nat → Int) (T : Nat) (MA KA : Nat → Int) (BD : Nat) (Mr : me_M) (μ : Nat) (M : me_M) : Prop := ∃ (nn fu st rd u b lb lo k i su hg bs tp : Nat) (σ : Nat → cx) (H : Nat → Nat) (z w self fm : Int), BA p C n m cl A B nx cn ct fc fs mn V S F E T MA KA Mr nn fu st rd M ∧ FX B nx cn m cl S F E T nn u b lb lo k i su σ H z w hg bs tp self fm M ∧ me_i M 164 41 = (i : Int) ∧ mu S T st su i = μ ∧ rd + μ ≤ BD ∧ BD ≤ 2000000000
/-- behind an act -/
def NXT (p C n m cl : Nat) (A B : Nat → Nat → Int) (nx cn ct fc fs mn : Nat → Int) (V : Nat → Nat → Prop) (S F E : Nat → Int) (T : Nat) (MA KA : Nat → Int) (BD : Nat) (Mr : me_M) (μ0 : Nat) (M : me_M) : Prop := ∃ μ, μ < μ0 ∧ MR p C n m cl A B nx cn ct fc fs mn V S F E T MA KA BD Mr μ M
theorem MEMO.gx (I : MEMO p C n m cl A B nx cn ct fc fs mn V S F E T MA KA M) (g : gx P R M M') (hP : ∀ b j, P b j → rP b j) (hR : ∀ j a, R j a → rRun j a) : MEMO p C n m cl A B nx cn ct fc fs mn V S F E T MA KA M' := by
  obtain ⟨h1, ⟨h2, h3, h4⟩, h5, h6, h7⟩ := I
  have G := h1.1.1
  have n1 := g.2.2.2.2.1 31 g31
  have n2 := g.2.2.2.2.1 32 g32
  have n3 := g.2.2.2.2.1 33 g33
  have nr : ∀ j a, 31 ≤ j → j ≤ 33 → ¬ R j a := fun j a j1 j2 v => by
    have := hR j a v
    unfold rRun at this
    omega
  have np : ∀ b j, (b = 178 ∨ b = 179) → ¬ P b j := fun b j h v => by
    have := hP b j v
    unfold rP at this
    omega
  refine ⟨h1.gx g fun b j v => Or.inl ?_, ⟨Nat.le_trans h2 n1.1, Nat.le_trans h3 n2.1, Nat.le_trans h4 n3.1⟩, fun i i1 => ?_, fun h hm => ?_, fun c hc => ?_⟩
  · have := hP b j v
    unfold rP at this
    omega
  · obtain ⟨a1, a2, a3⟩ := h5 i i1
    exact ⟨(n1.2 i (Nat.lt_of_lt_of_le i1 h2) (nr _ _ (by decide) (by decide))).trans a1, (n2.2 i (Nat.lt_of_lt_of_le i1 h3) (nr _ _ (by decide) (by decide))).trans a2, (n3.2 i (Nat.lt_of_lt_of_le i1 h4) (nr _ _ (by decide) (by decide))).trans a3⟩
  · exact (g.i G (by decide) ok178 (np _ _ (Or.inl rfl))).trans (h6 h hm)
  · exact (g.i G (by decide) ok179 (np _ _ (Or.inr rfl))).trans (h7 c hc)
/-- fails: what a run leaves stays -/
theorem RBS.fail (I : RBS Mr M) (f : fr (fun b j => b = 164 ∧ (j = 7 ∨ j = 8)) M M') : RBS Mr M' := by
  obtain ⟨h1, h2, h3⟩ := I
  have g : gx rP rRun M M' := (gx.of (R := no2) h1.GA f fun b j v => by rw [v.1]; exact ok164).mo (fun b j v => Or.inl ⟨v.1, by have := v.2; omega⟩) no2_mo
  refine ⟨h1.tr g, ?_, fun i i1 => ?_⟩
  · rw [f.i fun v => by have := v.2; omega]
    exact h2
  · rw [f.i fun v => absurd v.1 (by decide), f.i fun v => by have := v.2; omega]
    exact h3 i i1
/-- cells that acts of one frame change -/
def kP : Nat → Nat → Prop := fun b j => b = 164 ∧ (j = 9 ∨ j = 12 ∨ j = 17 ∨ j = 29 ∨ j = 40 ∨ j = 41) ∨ b = 168 ∨ b = 170
/-- and those of calls -/
def sP : Nat → Nat → Prop := fun b j => b = 164 ∧ (9 ≤ j ∧ j ≤ 10 ∨ j = 12 ∨ j = 17 ∨ 25 ≤ j ∧ j ≤ 29 ∨ 40 ≤ j ∧ j ≤ 42) ∨ b = 168 ∨ b = 170
theorem kP_sP : ∀ b j, kP b j → sP b j := fun b j v => by
  unfold kP at v
  unfold sP
  omega
theorem sP_rP : ∀ b j, sP b j → rP b j := fun b j v => by
  unfold sP at v
  unfold rP
  omega
theorem ok171 : ¬ oka 171 := by unfold oka; omega
theorem ok172 : ¬ oka 172 := by unfold oka; omega
theorem ok170 : ¬ oka 170 := by unfold oka; omega
theorem ok168 : ¬ oka 168 := by unfold oka; omega
theorem ok19x {b : Nat} (h : b = 190 ∨ b = 191) : ¬ oka b := by unfold oka; omega
theorem BA.GA (I : BA p C n m cl A B nx cn ct fc fs mn V S F E T MA KA Mr nn fu st rd M) : GA M := I.2.1.1.GA
/-- fixed cells that stay -/
theorem BA.stay (I : BA p C n m cl A B nx cn ct fc fs mn V S F E T MA KA Mr nn fu st rd M) (g : gx P R M M') (hP : ∀ b j, P b j → sP b j) {b j : Nat} (hb : b = 171 ∨ b = 172 ∨ b = 190 ∨ b = 191 ∨ b = 164 ∧ (j = 11 ∨ j = 23 ∨ j = 49 ∨ j = 18)) : me_i M' b j = me_i M b j := by
  refine g.i I.GA (by omega) ?_ fun v => ?_
  · unfold oka
    omega
  · have := hP b j v
    unfold sP at this
    omega
theorem BA.go {st' rd' : Nat} (I : BA p C n m cl A B nx cn ct fc fs mn V S F E T MA KA Mr nn fu st rd M) (g : gx P R M M') (hP : ∀ b j, P b j → sP b j) (hR : ∀ j a, R j a → rRun j a) (h9 : me_i M' 164 9 = (st' : Int)) (h17 : me_i M' 164 17 = (rd' : Int)) (h12 : 0 ≤ me_i M' 164 12 ∧ me_i M' 164 12 ≤ 300) (hs : st' ≤ 20000) (hH : HEAP B nx cn ct m cl nn (me_i M' 171) (me_i M' 172) fu (gi M' 22)) (hS : STAT B nx m nn (me_i M' 171) (me_i M' 170)) : BA p C n m cl A B nx cn ct fc fs mn V S F E T MA KA Mr nn fu st' rd' M' := by
  have sty := fun {b j : Nat} => I.stay (b := b) (j := j) g hP
  obtain ⟨h1, ⟨b1, b2, b3⟩, h3, ⟨ra, rl, r1, r2, r3, r4⟩, h5, h6, ⟨s1, s2, s3, s4⟩, t1, t2, t3⟩ := I
  have gr := g.mo (fun b j v => sP_rP b j (hP b j v)) hR
  refine ⟨h1.gx g (fun b j v => sP_rP b j (hP b j v)) hR, ⟨b1.tr gr, h12, fun i i1 => ?_⟩, fun c a c1 a1 v => ?_, ⟨ra, rl, ?_, r2, ?_, ?_⟩, hH, hS, ⟨(sty (by omega)).trans s1, (sty (by omega)).trans s2, h9, h17⟩, t1, hs, Nat.le_trans t3 (g.2.2.2.2.1 22 g22).1⟩
  · rw [sty (by omega), sty (j := 49) (by omega)]
    exact b3 i i1
  · rw [sty (by omega), sty (j := 49) (by omega)] at v
    rw [sty (by omega)]
    exact h3 c a c1 a1 v
  · have := g.2.2.2.1 164 16 (by have := b1.GA.2.2.1; omega) fun v => absurd v.2 (by decide)
    unfold me_p at r1 ⊢
    rw [this]
    exact r1
  · rw [g.2.1 ra (by have := b1.GA.2.2.1; omega)]
    exact r3
  · rw [sty (j := 18) (by omega)]
    exact r4
/-- heap and statics that stay -/
theorem BA.heap (I : BA p C n m cl A B nx cn ct fc fs mn V S F E T MA KA Mr nn fu st rd M) (g : gx P R M M') (hP : ∀ b j, P b j → sP b j) (h22 : ∀ a, a < fu → ¬ R 22 a) : HEAP B nx cn ct m cl nn (me_i M' 171) (me_i M' 172) fu (gi M' 22) := by
  refine I.2.2.2.2.1.eq (fun v v1 v2 => ⟨I.stay g hP (by omega), I.stay g hP (by omega)⟩) fun a a1 => ?_
  exact g.g g22 (Nat.lt_of_lt_of_le a1 I.2.2.2.2.2.2.2.2.2) (h22 a a1)
theorem BA.stat (I : BA p C n m cl A B nx cn ct fc fs mn V S F E T MA KA Mr nn fu st rd M) (g : gx P R M M') (hP : ∀ b j, P b j → sP b j) (h170 : ∀ a, a < m → ¬ P 170 a) : STAT B nx m nn (me_i M' 171) (me_i M' 170) := by
  refine I.2.2.2.2.2.1.mo (Nat.le_refl _) (fun v v1 v2 => I.stay g hP (by omega)) fun a a1 => ?_
  exact g.i I.GA (by decide) ok170 (h170 a a1)
/-- the same frame at act i' -/
theorem FX.go {i' hg' : Nat} (I : FX B nx cn m cl S F E T nn u b lb lo k i su σ H z w hg bs tp self fm M) (G : GA M) (g : gx P R M M') (hP : ∀ b j, P b j → kP b j) (hR : ∀ j a, R j a → j = 22 ∨ j = 39 ∧ b ≤ a ∨ j = 24 ∧ lb ≤ a) (h40 : me_i M' 164 40 = (hg' : Int)) (hl : hg' ≤ gL M' 39) (hi : lo ≤ i' ∧ i' ≤ k) (hF : FRD B nx m (gi M' 24) nn (me_i M' 171) σ i' z w self fm bs tp) (hK : STK (vt nx (me_i M' 171) nn) (gi M' 39) (σ i').1 b hg') : FX B nx cn m cl S F E T nn u b lb lo k i' su σ H z w hg' bs tp self fm M' := by
  have sty : ∀ j, (j = 42 ∨ j = 10 ∨ 25 ≤ j ∧ j ≤ 28) → me_i M' 164 j = me_i M 164 j := fun j hj => g.i4 G fun v => by
    have := hP 164 j v
    unfold kP at this
    omega
  have oc : ∀ v, me_i M' 171 v = me_i M 171 v := fun v => g.i G (by decide) ok171 fun y => by
    have := hP 171 v y
    unfold kP at this
    omega
  obtain ⟨⟨h1, h2, h3, h4, h5, h6, h7⟩, ⟨u1, u2, u3, u4⟩, h8, h9, h10, h11, h12⟩ := I
  have len := h10.len
  refine ⟨⟨(sty _ (by omega)).trans h1, (sty _ (by omega)).trans h2, h40, (sty _ (by omega)).trans h4, (sty _ (by omega)).trans h5, (sty _ (by omega)).trans h6, (sty _ (by omega)).trans h7⟩, ⟨u1, hl, Nat.le_trans u3 (g.2.2.2.2.1 24 g24).1, fun j j1 j2 j3 => Nat.le_trans (u4 j j1 j2 j3) (g.2.2.2.2.1 j (g43 j1 j2)).1⟩, ⟨h8.1, hi⟩, hF, hK, h11, ?_⟩
  refine h12.mo (Nat.le_refl _) (fun v _ _ => oc v) (fun j v j1 j2 v1 => ?_) (fun a a1 => ?_) fun a a1 => ?_
  · exact g.g (g43 j1 (by omega)) (Nat.lt_of_lt_of_le v1 (u4 j j1 (by omega) (by omega))) fun y => by
      have := hR j v y
      omega
  · exact g.g g39 (Nat.lt_of_lt_of_le (by omega) u2) fun y => by
      have := hR 39 a y
      omega
  · exact g.g g24 (Nat.lt_of_lt_of_le a1 (Nat.le_trans h11.1 u3)) fun y => by
      have := hR 24 a y
      omega
/-- locals that stay -/
theorem FX.frd {i' : Nat} (I : FX B nx cn m cl S F E T nn u b lb lo k i su σ H z w hg bs tp self fm M) (G : GA M) (g : gx P R M M') (hP : ∀ b j, P b j → kP b j) (hR : ∀ a, ¬ R 24 a) (hD : ∀ q, q < m → (σ i').2 q → (σ i).2 q) : FRD B nx m (gi M' 24) nn (me_i M' 171) σ i' z w self fm bs tp := by
  refine I.2.2.2.1.mo (Nat.le_refl _) (fun v _ _ => ?_) (fun a _ a2 => ?_) hD
  · exact g.i G (by decide) ok171 fun y => by
      have := hP 171 v y
      unfold kP at this
      omega
  · exact g.g g24 (Nat.lt_of_lt_of_le a2 I.2.1.2.2.1) (hR a)
/-- the pile below what changed stays -/
theorem FX.stk {l : List Int} {h b0 : Nat} (I : FX B nx cn m cl S F E T nn u b lb lo k i su σ H z w hg bs tp self fm M) (G : GA M) (g : gx P R M M') (hP : ∀ b j, P b j → kP b j) (hh : h ≤ hg) (hR : ∀ a, a < h → ¬ R 39 a) (K : STK (vt nx (me_i M 171) nn) (gi M 39) l b0 h) : STK (vt nx (me_i M' 171) nn) (gi M' 39) l b0 h := by
  have oc : ∀ v, me_i M' 171 v = me_i M 171 v := fun v => g.i G (by decide) ok171 fun y => by
    have := hP 171 v y
    unfold kP at this
    omega
  refine K.eq (fun t v y => y.mo (Nat.le_refl _) fun o _ _ => oc o) fun a _ a2 => ?_
  exact g.g g39 (Nat.lt_of_lt_of_le a2 (Nat.le_trans hh I.2.1.2.1)) (hR a a2)
/-- what act i may be -/
def ACT (B : Nat → Nat → Int) (nx cn : Nat → Int) (m cl : Nat) (S F E : Nat → Int) (σ : Nat → cx) (h : Nat) (z w : Int) (lo k i : Nat) : Prop := S i = 0 ∨ (S i = 24 ∧ (∃ h : Nat, w = (h : Int) ∧ h < m ∧ B 0 h = 2 ∧ ∃ t, (σ i).1 = [t] ∧ fit nx t (B 8 h))) ∨ (S i = 27 ∧ (σ i).1 = [] ∧ w = -1 ∧ ∃ c : Nat, z = (c : Int) ∧ c < cl) ∨ i < k ∧ (h < m ∧ (B 4 h = 0 → up nx z (hkn B cn h)) ∧ (B 0 h = 2 → w = (h : Int))) ∧ ((∃ y, SA B nx cn m cl h (hkn B cn h) (S i) (F i) (E i) (σ i) y ∧ cle (σ (i + 1)) y) ∨
  (S i = 12 ∨ S i = 13) ∧ (∃ (j : Nat) (t : Int) (r : List Int), F i = (j : Int) ∧ i < j ∧ j ≤ k ∧ (t = 0 ∨ t = 1) ∧ (σ i).1 = t :: r ∧ cle (σ (i + 1)) (r, (σ i).2) ∧ cle (σ j) (σ i)) ∨
  S i = 22 ∧ (∃ (j : Nat) (t : Int) (r : List Int), F i = (j : Int) ∧ i < j ∧ j ≤ k ∧ (σ i).1 = t :: r ∧ cle (σ (i + 1)) (r, (σ i).2) ∧ cle (σ j) (r, (σ i).2)) ∨
  S i = 23 ∧ (∃ j : Nat, F i = (j : Int) ∧ lo ≤ j ∧ j ≤ k ∧ (i < j ∨ S j = 16) ∧ cle (σ j) (σ i)))
theorem PKG.act (I : PKG B nx cn m cl S F E T lo k σ H z w) (h1 : lo ≤ i) (h2 : i ≤ k) : ACT B nx cn m cl S F E σ (H i) z w lo k i := by
  obtain ⟨_, p2, _, p4, p5⟩ := I
  by_cases e : i = k
  · rw [e]
    rcases p5 with p5 | p5 | p5
    · exact Or.inl p5.1
    · exact Or.inr (Or.inl p5)
    · exact Or.inr (Or.inr (Or.inl p5))
  · obtain ⟨a, b⟩ := p2 i h1 (by omega)
    rcases b with b | b | b | b | ⟨b1, b2, b3⟩
    · exact Or.inr (Or.inr (Or.inr ⟨by omega, a, Or.inl b⟩))
    · exact Or.inr (Or.inr (Or.inr ⟨by omega, a, Or.inr (Or.inl b)⟩))
    · exact Or.inr (Or.inr (Or.inr ⟨by omega, a, Or.inr (Or.inr (Or.inl b))⟩))
    · exact Or.inr (Or.inr (Or.inr ⟨by omega, a, Or.inr (Or.inr (Or.inr b))⟩))
    · exact Or.inr (Or.inl ⟨b1, H i, a.2.2 b2, a.1, b2, b3⟩)
/-- an act of one frame was done -/
theorem fin {st' rd' i' hg' : Nat} (I : BA p C n m cl A B nx cn ct fc fs mn V S F E T MA KA Mr nn fu st rd M) (J : FX B nx cn m cl S F E T nn u b lb lo k i su σ H z w hg bs tp self fm M) (hm : rd + mu S T st su i ≤ BD ∧ BD ≤ 2000000000) (g : gx P R M M') (hP : ∀ b j, P b j → kP b j) (hR : ∀ j a, R j a → j = 22 ∨ j = 39 ∧ b ≤ a ∨ j = 24 ∧ lb ≤ a) (h9 : me_i M' 164 9 = (st' : Int)) (h17 : me_i M' 164 17 = (rd' : Int)) (h12 : 0 ≤ me_i M' 164 12 ∧ me_i M' 164 12 ≤ 300) (hs : st' ≤ 20000) (h40 : me_i M' 164 40 = (hg' : Int)) (hl : hg' ≤ gL M' 39) (h41 : me_i M' 164 41 = (i' : Int)) (hi : lo ≤ i' ∧ i' ≤ k) (hH : HEAP B nx cn ct m cl nn (me_i M' 171) (me_i M' 172) fu (gi M' 22)) (hS : STAT B nx m nn (me_i M' 171) (me_i M' 170)) (hF : FRD B nx m (gi M' 24) nn (me_i M' 171) σ i' z w self fm bs tp) (hK : STK (vt nx (me_i M' 171) nn) (gi M' 39) (σ i').1 b hg') (hmu : mu S T st' su i' < mu S T st su i) (hrd : rd' ≤ rd + 1) : NXT p C n m cl A B nx cn ct fc fs mn V S F E T MA KA BD Mr (mu S T st su i) M' :=
  ⟨mu S T st' su i', hmu, nn, fu, st', rd', u, b, lb, lo, k, i', su, hg', bs, tp, σ, H, z, w, self, fm, I.go g (fun b j v => kP_sP b j (hP b j v)) (fun j a v => by
    have := hR j a v
    unfold rRun
    omega) h9 h17 h12 hs hH hS, J.go I.GA g hP hR h40 hl hi hF hK, h41, rfl, by omega⟩
end MST3
