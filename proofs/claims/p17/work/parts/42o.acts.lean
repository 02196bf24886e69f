/-! the run: written acts as packages -/
section EVO
variable {p C n m cl : Nat} {A B : Nat → Nat → Int} {nx cn ct fc fs mn : Nat → Int} {V : Nat → Nat → Prop} {S F E : Nat → Int} {T lo k h c : Nat} {M : me_M} {x z : Int}
/-- acts, and x behind them -/
def sfl (T : Nat) (x : Int) (S : Nat → Int) : Nat → Int := fun i => if i < T then S i else x
theorem sfl.lt {i : Nat} (h : i < T) : sfl T x S i = S i := if_pos h
theorem sfl.at : sfl T x S T = x := if_neg (Nat.lt_irrefl _)
theorem PKG.ofM (H : PM B nx cn m cl S F E h lo k) (kT : k < T) (hm : h < m) (h2 : B 0 h = 2) : ∃ (σ : Nat → cx) (H : Nat → Nat), PKG B nx cn m cl (sfl T x S) F E T lo k σ H (zf B cn h) (h : Int) ∧ cle (σ lo) ([], D0 B m h) := by
  obtain ⟨a1, σ, a2, a3, a4, a5, t, a6, a7⟩ := H
  refine ⟨σ, fun _ => h, ⟨⟨a1, kT⟩, fun i i1 i2 => ⟨⟨hm, fun h4 => ?_, fun _ => rfl⟩, (a3 i i1 i2).eq i1 i2 fun j _ j2 => ⟨sfl.lt (by omega), rfl, rfl⟩⟩, a4, Or.inl ⟨Int.natCast_nonneg _, fun _ => rfl⟩, Or.inr (Or.inl ⟨(sfl.lt kT).trans a5, h, rfl, hm, h2, t, a6, a7⟩)⟩, a2⟩
  unfold zf
  rw [if_pos h4]
  exact ⟨Int.natCast_nonneg _, 0, rfl⟩
theorem PKG.ofG (H : FCG B nx cn m cl S F E z lo k) (kT : k < T) (he : S k = 0 ∧ z = -1 ∨ S k = 27 ∧ ∃ c : Nat, z = (c : Int) ∧ c < cl) : ∃ (σ : Nat → cx) (H : Nat → Nat), PKG B nx cn m cl (sfl T x S) F E T lo k σ H z (-1) ∧ cle (σ lo) ([], Dm m) := by
  obtain ⟨a1, σ, H, a2, a3, a4, a5⟩ := H
  refine ⟨σ, H, ⟨⟨a1, kT⟩, fun i i1 i2 => ?_, fun i i1 i2 => (a5 i i1 i2).2, Or.inr ⟨rfl, fun i q i1 i2 v => (a5 i i1 i2).1 q v⟩, ?_⟩, a2⟩
  · obtain ⟨⟨b1, b2, b3⟩, b4⟩ := a4 i i1 i2
    exact ⟨⟨b1, b3, fun v => by omega⟩, b4.eq i1 i2 fun j _ j2 => ⟨sfl.lt (by omega), rfl, rfl⟩⟩
  · rcases he with ⟨e1, e2⟩ | ⟨e1, e2⟩
    · exact Or.inl ⟨(sfl.lt kT).trans e1, rfl, e2, Or.inl (by rw [a3])⟩
    · exact Or.inr (Or.inr ⟨(sfl.lt kT).trans e1, by rw [a3], rfl, e2⟩)
theorem EVN.of (CFH : CF B nx cn ct fc fs V m cl) (H : COD B nx cn m cl T M) : EVN m cl B nx cn ct fc fs V (sfl T x (gi M 31)) (gi M 32) (gi M 33) T (me_i M 178) (me_i M 179) := by
  obtain ⟨h1, h2, h3, h4, h5, h6⟩ := H
  refine ⟨CFH, h1, (sfl.lt (by omega)).trans h3, fun h hm h2 => ?_, fun c hc => ?_⟩
  · obtain ⟨lo, k, a1, a2, a3⟩ := h5 h hm h2
    obtain ⟨σ, H, b1, b2⟩ := PKG.ofM (x := x) a3 a2 hm h2
    exact ⟨lo, k, σ, H, a1, b1, b2⟩
  · obtain ⟨lo, k, a1, a2, a3, a4⟩ := h6 c hc
    obtain ⟨σ, H, b1, b2⟩ := PKG.ofG (x := x) a3 a2 (Or.inr ⟨a4, c, rfl, hc⟩)
    exact ⟨lo, k, σ, H, a1, b1, b2⟩
theorem COD.st (H : COD B nx cn m cl T M) : ∃ (k : Nat) (σ : Nat → cx) (H : Nat → Nat), PKG B nx cn m cl (sfl T x (gi M 31)) (gi M 32) (gi M 33) T 1 k σ H (-1) (-1) ∧ cle (σ 1) ([], Dm m) := by
  obtain ⟨k, a1, a2, a3⟩ := H.2.2.2.1
  obtain ⟨σ, H, b⟩ := PKG.ofG (x := x) a2 a1 (Or.inl ⟨a3, rfl⟩)
  exact ⟨k, σ, H, b⟩
/-- the first act, to which main comes back -/
theorem COD.z0 {t : Int} (H : COD B nx cn m cl T M) : PKG B nx cn m cl (sfl T 1 (gi M 31)) (gi M 32) (gi M 33) T 0 0 (fun _ => ([t], Dm m)) (fun _ => 0) (-1) (-1) :=
  ⟨⟨Nat.le_refl _, H.1.1⟩, fun i _ z => by omega, fun i _ _ => by
    show ([t] : List Int).length ≤ 2410
    rw [List.length_singleton]
    omega, Or.inr ⟨rfl, fun i q _ _ v => v⟩, Or.inl ⟨(sfl.lt H.1.1).trans H.2.2.1, rfl, rfl, Or.inr sfl.at⟩⟩
end EVO
