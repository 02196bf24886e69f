/-! the model's calls: what is asked of the program -/
section QUERY
variable {N : Nat} {X : Nat → Int32} {d p C n m cl : Nat} {x1 x2 : Int} {Φ : Nat → Nat} {M0 M M1 M2 : me_M}
/-- the program's cells are as they were behind its reading -/
def SAME (p : Nat) (M0 M : me_M) : Prop := ∀ b j, p ≤ b → b < p + 46 → ¬ (b = p ∧ j = 57) → me_i M b j = me_i M0 b j
/-- a program that was read -/
def PI (p C n m cl : Nat) (Φ : Nat → Nat) (M0 M : me_M) : Prop := PF p M0 4 Φ C n m ∧ C ≤ 2404 ∧ SAME p M0 M ∧ TX p M ∧ (∀ f, f < 4 → me_i M0 (p + 6) f ≤ 3000) ∧ MAP p C M ∧ (me_i M0 p 33 = 0 → ∃ Mb, GOOD p C n m cl Φ Mb M0)
theorem PI.tkf (H : PI p C n m cl Φ M0 M) : TKF p C M := by
  obtain ⟨h1, h2, h3, h4, h5, h6, h7⟩ := H
  refine ⟨(h3 _ _ (by omega) (by omega) (by omega)).trans h1.1, by omega, fun k hk => ?_⟩
  have e : ∀ i, i < 5 → kA p M i k = kA p M0 i k := fun i _ => h3 _ _ (by omega) (by omega) (by omega)
  obtain ⟨t1, t2, t3, t4, _⟩ := h1.2.2.2.2.2.2.1 k hk
  have := h5 (kA p M0 4 k).toNat (by omega)
  rw [e 4 (by omega), e 2 (by omega)]
  omega
theorem PI.map (H : PI p C n m cl Φ M0 M) : MAP p C M := H.2.2.2.2.2.1
theorem PI.fr {P : Nat → Nat → Prop} (H : PI p C n m cl Φ M0 M) (f : fr P M M1) (hP : ∀ b j, P b j → b < p ∨ p + 46 ≤ b ∨ b = p ∧ j = 57) (hM : MAP p C M1) : PI p C n m cl Φ M0 M1 := by
  obtain ⟨h1, h2, h3, h4, h5, h6, h7⟩ := H
  refine ⟨h1, h2, fun b j b1 b2 b3 => (f.i fun v => ?_).trans (h3 b j b1 b2 b3), h4.fr f fun j v => ?_, h5, hM, h7⟩
  · have := hP b j v
    omega
  · have := hP _ j v
    omega
theorem mP_P {p : Nat} : ∀ b j, mP p b j → b < p ∨ p + 46 ≤ b ∨ b = p ∧ j = 57 := fun b j v => by
  unfold mP at v
  omega
theorem PI.nm (H : PI p C n m cl Φ M0 M) : n ≤ 2404 ∧ m ≤ 2404 ∧ C ≤ 2404 := by
  have a := H.1.2.2.1
  have b := H.1.2.2.2.2.1
  have := H.2.1
  omega
theorem PI.n4 (H : PI p C n m cl Φ M0 M) : me_i M p 4 = (n : Int) := (H.2.2.1 p 4 (by omega) (by omega) (by omega)).trans H.1.2.1
theorem PI.m16 (H : PI p C n m cl Φ M0 M) : me_i M p 16 = (m : Int) := (H.2.2.1 p 16 (by omega) (by omega) (by omega)).trans H.1.2.2.2.1
theorem PI.c5 (H : PI p C n m cl Φ M0 M) : me_i M (p + 7) 5 = (C : Int) := H.tkf.1
/-- the token where something is told -/
theorem PI.nam {q : Nat} (H : PI p C n m cl Φ M0 M) (hq : q < m) : 0 ≤ me_i M (p + 26) q ∧ me_i M (p + 26) q < C := by
  have e : me_i M (p + 26) q = tA p M0 1 q := H.2.2.1 _ _ (by omega) (by omega) (by omega)
  have t := (H.1.2.2.2.2.2.1.2.1 q hq (by omega)).1
  rw [e]
  omega
theorem PI.means {k : Nat} (H : PI p C n m cl Φ M0 M) (h33 : me_i M p 33 = 0) (hk : k < C) (h1 : me_i M (p + 8) k = 1) : ∃ q : Nat, me_i M (p + 38) k = (q : Int) ∧ q < m := by
  have S := H.2.2.1
  rw [S p 33 (by omega) (by omega) (by omega)] at h33
  obtain ⟨Mb, g⟩ := H.2.2.2.2.2.2 h33
  have e : tS p Mb k = 1 := by
    rw [← h1, S _ _ (by omega) (by omega) (by omega)]
    exact (g.1.i (by unfold rG rJ; omega)).symm
  obtain ⟨q, a, b⟩ := g.means hk e
  exact ⟨q, (S _ _ (by omega) (by omega) (by omega)).trans a, b⟩
/-- nothing has changed, but that tokens may have been mapped -/
def QP (p C : Nat) (M M' : me_M) : Prop := fr (mP p) M M' ∧ MAP p C M'
theorem QP.rf (H : PI p C n m cl Φ M0 M) : QP p C M M := ⟨fr.rf, H.map⟩
theorem QP.tr (h : QP p C M M1) (k : QP p C M1 M2) : QP p C M M2 := ⟨h.1.tr k.1, k.2⟩
theorem QP.pi (h : QP p C M M1) (H : PI p C n m cl Φ M0 M) : PI p C n m cl Φ M0 M1 := H.fr h.1 mP_P h.2
theorem c_373 (HP : me_p M 164 52 = some p) (h1 : me_r x1) (hd : 1 ≤ d) : me_W (mt_G N X) 373 d 0 [some (.inr (.inl (some 164, 25, 0))), some (.inl x1)] [] M (sx_qI (fun _ M' => M' = M) nt_E) := by
  refine b373_0 (ca_I hd (c_368 h1 ⟨by decide, by decide⟩) (fun y M1 _ z => ?_) nt_E_no)
  obtain ⟨z1, z2⟩ := z
  rw [z1, HP]
  exact ⟨⟨by omega, by omega⟩, fun _ => rfl, fun c => dr_s ⟨by omega, by omega, rfl⟩⟩
theorem c_374 (HP : me_p M 164 52 = some p) (H : TX p M) (h1 : me_r x1) (h2 : me_r x2) (hd : 1 ≤ d) : me_W (mt_G N X) 374 d 0 [some (.inr (.inl (some 164, 25, 0))), some (.inl x1), some (.inl x2)] [] M (sx_qI (fun _ M' => M' = M) nt_E) := by
  refine b374_0 (ca_I hd (c_368 h1 ⟨by decide, by decide⟩) (fun y M1 _ z => ?_) nt_E_no)
  obtain ⟨z1, z2⟩ := z
  rw [z1, HP]
  refine ⟨⟨by omega, by omega⟩, fun _ => rfl, fun c => dr_s ⟨by omega, by omega, ca_I hd (c_368 h2 (me_i_r _ _ _)) (fun y2 M2 _ w => ?_) nt_E_no⟩⟩
  obtain ⟨w1, w2⟩ := w
  rw [w1, HP]
  refine ⟨⟨by omega, by omega⟩, fun _ => rfl, fun c2 => dr_s ⟨by omega, by omega, fun n11 hn => ?_⟩⟩
  obtain ⟨t1, t2, t3, t4⟩ := H x1.toNat (by omega)
  have k := hn _ t1
  rw [t2] at k
  have k : 4000 = n11 := (Prod.mk.inj k).2
  rw [t1]
  exact dr_s ⟨by omega, by omega, fun _ => rfl⟩
theorem c_375 (HP : me_p M 164 52 = some p) (H : PI p C n m cl Φ M0 M) (h1 : me_r x1) (h2 : me_r x2) (hd : 1 ≤ d) : me_W (mt_G N X) 375 d 0 [some (.inr (.inl (some 164, 25, 0))), some (.inl x1), some (.inl x2), none] [] M (sx_qI (fun _ M' => QP p C M M') nt_E) := by
  refine b375_0 (ca_I hd (c_368 h2 ⟨by decide, by decide⟩) (fun y M1 _ z => ?_) nt_E_no)
  obtain ⟨z1, z2⟩ := z
  rw [z1, HP]
  refine ⟨⟨by omega, by omega⟩, fun c => dr_s (ca_I hd (c_376 h1 H.tkf H.map) (fun y9 M6 _ w => ?_) nt_E_no), fun _ => QP.rf H⟩
  obtain ⟨f, hm, y1, y2⟩ := w
  have C5 := H.2.1
  rw [f.p, HP]
  exact ⟨⟨by omega, by omega⟩, fun c => ⟨h2, fun _ => dr_s ⟨by omega, by omega, f, hm⟩, fun _ => dr_s ⟨by omega, by omega, f, hm⟩⟩, fun _ => ⟨f, hm⟩⟩
theorem c_377 (HP : me_p M 164 52 = some p) (hp : 192 ≤ p) : me_W (mt_G N X) 377 d 0 [some (.inr (.inl (some 164, 25, 0)))] [] M (sx_qI (fun _ M' => fr (m1 56) M M') nt_E) := by
  refine b377_0 ?_
  rw [HP]
  refine dr_s ⟨me_i_r _ _ _, fun _ => dr_s ?_, fun _ => ?_⟩
  · intro M3
    have f : fr (m1 56) M M3 := fr_sI ⟨rfl, rfl⟩
    clear_value M3
    rw [f.p, HP]
    exact dr_s f
  · intro M3
    have f : fr (m1 56) M M3 := fr_sI ⟨rfl, rfl⟩
    clear_value M3
    rw [f.p, HP]
    exact dr_s f
theorem c_378 (HP : me_p M 164 52 = some p) (H : PI p C n m cl Φ M0 M) (h1 : me_r x1) (h2 : me_r x2) (hd : 2 ≤ d) : me_W (mt_G N X) 378 d 0 [some (.inr (.inl (some 164, 25, 0))), some (.inl x1), some (.inl x2), none, none] [] M (sx_qI (fun _ M' => QP p C M M') nt_E) := by
  refine b378_0 (ca_I (by omega) (c_368 h2 ⟨by decide, by decide⟩) (fun y M1 _ z => ?_) nt_E_no)
  obtain ⟨z1, z2⟩ := z
  rw [z1, HP]
  refine ⟨⟨by omega, by omega⟩, fun c => dr_s ⟨me_i_r _ _ _, fun _ => ⟨⟨by decide, by decide⟩, fun v => absurd v (by decide), fun _ => QP.rf H⟩, fun c33 => dr_s (ca_I (by omega) (c_379 h1 H.tkf H.map (by omega)) (fun y18 M6 _ w => ?_) nt_E_no)⟩, fun _ => QP.rf H⟩
  obtain ⟨f, hm, w3⟩ := w
  have nm := H.nm
  have q6 : QP p C M M6 := ⟨f, hm⟩
  have H6 := q6.pi H
  rw [f.p, HP]
  refine ⟨?_, fun c2 => ?_, fun _ => q6⟩
  · rcases w3 with w3 | ⟨k, w3, k2, _⟩ <;> rw [w3]
    · exact ⟨by decide, by decide⟩
    · exact ⟨by omega, by omega⟩
  · rcases w3 with w3 | ⟨k, w3, k2, k3⟩
    · omega
    · have e8 : me_i M6 (p + 8) k = 1 := (f.i (by unfold mP; omega)).trans k3
      obtain ⟨q, a, b⟩ := H6.means ((f.i (by unfold mP; omega)).trans c33) k2 e8
      rw [w3, Int.toNat_natCast]
      refine dr_s ?_
      rw [a, Int.toNat_natCast]
      obtain ⟨o1, o2⟩ := H6.nam b
      refine ⟨by omega, by omega, h2, fun _ => dr_s ⟨by omega, by omega, q6⟩, fun _ => dr_s ⟨by omega, by omega, dr_s (ca_I (by omega) (c_294 o1 (by omega)) (fun y26 M23 _ v => ?_) nt_E_no)⟩⟩
      rw [v.1]
      exact q6
/-- a node that is a class's name -/
theorem c_382 {k : Nat} (H : PI p C n m cl Φ M0 M) (h33 : me_i M p 33 = 0) (hk : k < n) : me_W (mt_G N X) 382 d 0 [some (.inr (.inl (some p, 29, 0))), some (.inl (k : Int))] [] M (sx_qI (fun y M' => M' = M ∧ (y = 0 ∨ y = 1)) nt_E) := by
  have nm := H.nm
  have S := H.2.2.1
  refine b382_0 ?_
  rw [Int.toNat_natCast]
  have e : ∀ i, i ≤ 10 → me_i M (p + 14 + i) k = nA p M0 i k := fun i _ => S _ _ (by omega) (by omega) (by omega)
  have e0 : me_i M (p + 14) k = nA p M0 0 k := e 0 (by omega)
  have e4 : me_i M (p + 18) k = nA p M0 4 k := e 4 (by omega)
  obtain ⟨_, ⟨n0, n1, n2, _⟩, _⟩ := (H.1.2.2.2.2.2.1.1 k hk).1
  refine ⟨by omega, by omega, me_i_r _ _ _, ⟨by decide, by decide⟩, fun _ => ⟨Or.inl rfl, rfl, Or.inl rfl⟩, fun c => ?_⟩
  obtain ⟨a1, a2⟩ := n2 (by omega)
  obtain ⟨w, hw⟩ := Int.eq_ofNat_of_zero_le a1
  rw [hw, Int.toNat_natCast] at a2
  rw [e4, hw, Int.toNat_natCast]
  have e8 : me_i M (p + 8) w = 1 := (S _ _ (by omega) (by omega) (by omega)).trans a2
  obtain ⟨q, b1, b2⟩ := H.means h33 (by omega) e8
  rw [b1, Int.toNat_natCast]
  exact ⟨by omega, by omega, by omega, by omega, ⟨by omega, by omega⟩, fun _ => ⟨Or.inl rfl, rfl, Or.inl rfl⟩, fun _ => ⟨by omega, by omega, by omega, by omega, by omega, by omega, me_i_r _ _ _, fun _ => ⟨Or.inl rfl, rfl, Or.inl rfl⟩, fun _ => ⟨Or.inr rfl, rfl, Or.inr rfl⟩⟩⟩
theorem c_381 (H : PI p C n m cl Φ M0 M) (h33 : me_i M p 33 = 0) (h1 : me_r x1) (h2 : me_r x2) (hd : 1 ≤ d) : ∀ (f x : Nat) (x3 : Int), n - x < f → x ≤ n → (x3 = -1 ∨ 0 ≤ x3 ∧ x3 < n) → me_W (mt_G N X) 381 d 5 [some (.inr (.inl (some p, 29, 0))), some (.inl x1), some (.inl x2), some (.inl x3), some (.inl (x : Int))] [] M (sx_qI (fun y M' => M' = M ∧ (y = -1 ∨ 0 ≤ y ∧ y < n)) nt_E) := by
  intro f
  induction f with
  | zero => intro x x3 z; omega
  | succ f ih =>
    intro x x3 hf hx h3
    have nm := H.nm
    refine b381_5 ?_
    rw [H.n4, Int.toNat_natCast, show (x : Int) + 1 = ((x + 1 : Nat) : Int) by omega]
    refine ⟨⟨by omega, by omega⟩, ⟨by omega, by omega⟩, fun _ => ⟨rfl, h3⟩, fun c => ?_⟩
    have xn : x < n := by omega
    have go : ∀ x3, (x3 = -1 ∨ 0 ≤ x3 ∧ x3 < (n : Int)) → me_W (mt_G N X) 381 d 5 [some (.inr (.inl (some p, 29, 0))), some (.inl x1), some (.inl x2), some (.inl x3), some (.inl ((x + 1 : Nat) : Int))] [] M (sx_qI (fun y M' => M' = M ∧ (y = -1 ∨ 0 ≤ y ∧ y < n)) nt_E) := fun x3 h3 => ih (x + 1) x3 (by omega) (by omega) h3
    refine ⟨by omega, by omega, me_i_r _ _ _, ⟨by decide, by decide⟩, fun _ => go x3 h3, fun _ => ⟨h1, fun _ => go x3 h3, fun _ => ⟨h2, fun _ => go x3 h3, fun _ => ⟨by omega, by omega, me_i_r _ _ _, h1, fun _ => go x3 h3, fun _ => ⟨by omega, by omega, me_i_r _ _ _, h2, fun _ => go x3 h3, fun _ => ca_I hd (c_382 H h33 xn) (fun y M1 _ z => ?_) nt_E_no⟩⟩⟩⟩⟩
    obtain ⟨z1, z2⟩ := z
    rw [z1]
    exact ⟨by rcases z2 with z | z <;> rw [z] <;> exact ⟨by decide, by decide⟩, fun _ => go x3 h3, fun _ => go x (Or.inr ⟨by omega, by omega⟩)⟩
theorem c_380 (HP : me_p M 164 52 = some p) (H : PI p C n m cl Φ M0 M) (h1 : me_r x1) (h2 : me_r x2) (hd : 3 ≤ d) : me_W (mt_G N X) 380 d 0 [some (.inr (.inl (some 164, 25, 0))), some (.inl x1), some (.inl x2), none] [] M (sx_qI (fun _ M' => QP p C M M') nt_E) := by
  have nm := H.nm
  refine b380_0 ?_
  rw [HP]
  refine dr_s ⟨me_i_r _ _ _, fun _ => ⟨⟨by decide, by decide⟩, fun v => absurd v (by decide), fun _ => QP.rf H⟩, fun c33 => dr_s (ca_I (by omega) (c_376 h1 H.tkf H.map) (fun y7 M4 _ w => ?_) nt_E_no)⟩
  obtain ⟨f4, m4, y71, y72⟩ := w
  have q4 : QP p C M M4 := ⟨f4, m4⟩
  have H4 := q4.pi H
  rw [f4.p, HP]
  refine dr_s (ca_I (by omega) (c_376 h2 H4.tkf H4.map) (fun y12 M9 _ w => ?_) nt_E_no)
  obtain ⟨f9, m9, y121, y122⟩ := w
  have q9 : QP p C M M9 := q4.tr ⟨f9, m9⟩
  have H9 := q9.pi H
  have c9 : me_i M9 p 33 = 0 := (q9.1.i (by unfold mP; omega)).trans c33
  refine dr_s (ca_I (by omega) (b381_0 (c_381 H9 c9 ⟨by omega, by omega⟩ ⟨by omega, by omega⟩ (by omega) (n + 1) 0 (-1) (by omega) (by omega) (Or.inl rfl))) (fun y17 M14 _ w => ?_) nt_E_no)
  obtain ⟨w1, w2⟩ := w
  rw [w1, q9.1.p, HP]
  exact ⟨⟨by omega, by omega⟩, fun _ => dr_s ⟨by omega, by omega, q9⟩, fun _ => q9⟩
end QUERY
