/-! the model's calls: what a run leaves; a program that is to run -/
section RUNS
variable {N : Nat} {X : Nat → Int32} {d p C n m cl : Nat} {x1 x2 : Int} {Φ : Nat → Nat} {M0 M M1 M2 : me_M}
theorem c_425 (h1 : me_r x1) (hd : 1 ≤ d) : me_W (mt_G N X) 425 d 0 [some (.inr (.inl (some 164, 25, 0))), some (.inl x1)] [] M (sx_qI (fun _ M' => M' = M) nt_E) := by
  refine b425_0 (ca_I hd (c_368 h1 ⟨by decide, by decide⟩) (fun y M1 _ z => ?_) nt_E_no)
  obtain ⟨z1, z2⟩ := z
  rw [z1]
  exact ⟨⟨by omega, by omega⟩, fun _ => ⟨me_i_r _ _ _, fun _ => ⟨h1, fun _ => ⟨h1, ⟨by decide, by decide⟩, fun _ => ⟨h1, ⟨by decide, by decide⟩, fun _ => ⟨h1, ⟨by decide, by decide⟩, fun _ => rfl, fun _ => rfl⟩, fun _ => rfl⟩, fun _ => rfl⟩, fun _ => rfl⟩, fun _ => rfl⟩, fun _ => rfl⟩
theorem c_426 (h1 : me_r x1) (h108 : me_i M 164 108 ≤ 300) (hd : 1 ≤ d) : me_W (mt_G N X) 426 d 0 [some (.inr (.inl (some 164, 25, 0))), some (.inl x1)] [] M (sx_qI (fun _ M' => M' = M) nt_E) := by
  refine b426_0 ⟨me_i_r _ _ _, fun _ => rfl, fun _ => ca_I hd (c_368 h1 (me_i_r _ _ _)) (fun y M1 _ z => ?_) nt_E_no⟩
  obtain ⟨z1, z2⟩ := z
  rw [z1]
  exact ⟨⟨by omega, by omega⟩, fun _ => rfl, fun _ => ⟨by omega, by omega, rfl⟩⟩
/-- the tape is copied -/
theorem c_369 {a1 l1 s : Nat} (hs : me_i M 164 1 = (s : Int)) (h : s ≤ 4000) (hl : s ≤ l1) (ha : ¬ a1 = 164) (hd : 1 ≤ d) : me_W (mt_G N X) 369 d 0 [some (.inr (.inl (some 164, 25, 0))), some (.inr (.inl (some a1, 2, l1)))] [] M (sx_qV (fun M' => fr (fun b j => b = a1 ∨ b = 164 ∧ j = 1) M M' ∧ me_i M' 164 1 = 0) nt_E) := by
  refine b369_0 ?_
  rw [hs]
  refine ⟨hd, by omega, by omega, by omega, by omega, by omega, ?_⟩
  intro M1
  have f1 : fr (fun b j => b = a1 ∨ b = 164 ∧ j = 1) M M1 := fr_cp fun _ => Or.inl rfl
  clear_value M1
  intro M2
  obtain ⟨f2, e2⟩ := cell_fr (M := M1) (M1 := M2) (j0 := 1) (x := 0) rfl ⟨by decide, by decide⟩
  clear_value M2
  exact ⟨f1.tr (f2.mo fun b j v => Or.inr v), e2⟩
/-- what runs wants -/
theorem PI.rp (H : PI p C n m cl Φ M0 M) (h33 : me_i M p 33 = 0) (G : GA M) (hp : 192 ≤ p ∧ p + 47 ≤ 447) : ∃ (A B : Nat → Nat → Int) (nx cn ct fc fs mn : Nat → Int) (V : Nat → Nat → Prop) (b s T9 : Nat → Int) (hh : Nat → Int × Nat) (dh : Nat), CF B nx cn ct fc fs V m cl ∧ (∀ h, STF A B b s nx cn mn T9 hh n dh C m cl h (hkn B cn h)) ∧ (∀ h, STS A B nx T9 n m h) ∧ FB A B nx T9 n m ∧ MBD A B n m ∧ RP p C n m cl A B nx cn ct fc fs mn V (me_sP M 164 6 (some p)) := by
  have S := H.2.2.1
  have e33 : me_i M0 p 33 = 0 := (S p 33 (by omega) (by omega) (by omega)).symm.trans h33
  obtain ⟨Mb, g⟩ := H.2.2.2.2.2.2 e33
  have nm := H.nm
  have T := H.2.2.2.1
  have e : ∀ c j, p + 1 ≤ c → c < p + 38 → ¬ c = p + 23 → me_i M c j = me_i Mb c j := fun c j c1 c2 c3 => (S c j (by omega) (by omega) (by omega)).trans (g.1.i (by unfold rG rJ; omega))
  have e0 : ∀ j, (j = 4 ∨ j = 16 ∨ j = 27) → me_i M p j = me_i Mb p j := fun j hj => (S p j (by omega) (by omega) (by omega)).trans (g.1.i (by unfold rG rJ; omega))
  have tk : ∀ k, k < C → tkv p Mb k := fun k hk => by
    obtain ⟨a1, a2, a3, a4, _⟩ := g.js.1.2.2.2.2.2.2.1 k hk
    have z : me_i Mb (p + 6) (kA p Mb 4 k).toNat ≤ 4000 := by
      have a := (T (kA p Mb 4 k).toNat (by omega)).2.2.2
      rw [e _ _ (by omega) (by omega) (by omega)] at a
      exact a
    exact ⟨by omega, a1, by omega, by omega, by omega⟩
  have nam : ∀ q, q < m → 0 ≤ tA p Mb 1 q ∧ tA p Mb 1 q < C := fun q hq => by
    have a := H.nam hq
    rw [e _ _ (by omega) (by omega) (by omega)] at a
    exact a
  refine ⟨_, _, _, _, _, _, _, _, _, _, _, _, _, _, g.cf, fun h => g.stf, fun h => g.sts, g.fb, g.mbd, ⟨G.sP nl6, ?_, hp, fun i j i1 i9 => e _ _ (by omega) (by omega) (by omega), fun i j i1 => e _ _ (by omega) (by omega) (by omega), fun j => S _ _ (by omega) (by omega) (by omega), fun q => e _ _ (by omega) (by omega) (by omega), fun f hf => ?_, fun k hk => ?_⟩, ⟨H.n4, H.m16, ?_⟩, fun i => ⟨e _ _ (by omega) (by omega) (by omega), e _ _ (by omega) (by omega) (by omega), S _ _ (by omega) (by omega) (by omega), S _ _ (by omega) (by omega) (by omega)⟩, nam, fun a b a1 b1 _ _ v => ?_⟩
  · rw [me_p_sP, if_pos ⟨rfl, rfl⟩]
  · rw [me_p_sP, if_neg (by omega)]
    exact T f hf
  · have t := tk k hk
    have k5 : ∀ i, i < 5 → kA p (me_sP M 164 6 (some p)) i k = kA p Mb i k := fun i _ => e _ _ (by omega) (by omega) (by omega)
    unfold tkv at t ⊢
    rw [k5 4 (by omega), k5 2 (by omega), k5 3 (by omega)]
    exact t
  · exact (e0 27 (by omega)).trans g.js.2.2.2.1.1
  · exact ovr_eq tk (nam a a1) (nam b b1) (fun c j c1 c2 c3 => e c j c1 c2 c3) v
end RUNS
