/-! the model's calls: what is told, and where it is used -/
section QUERY2
variable {N : Nat} {X : Nat → Int32} {d p C n m cl : Nat} {x1 x2 : Int} {Φ : Nat → Nat} {M0 M M1 M2 : me_M}
theorem cn_27 (HP : me_p M 164 52 = some p) (H : PI p C n m cl Φ M0 M) (h1 : me_r x1) : ∀ (f x : Nat) (c : Nat), m - x < f → x ≤ m → c ≤ x → me_W (mt_G N X) 383 d 27 [some (.inr (.inl (some 164, 25, 0))), some (.inl x1), some (.inl (c : Int)), some (.inl (x : Int))] [] M (sx_qI (fun _ M' => M' = M) nt_E) := by
  intro f
  induction f with
  | zero => intro x c z; omega
  | succ f ih =>
    intro x c hf hx hc
    have nm := H.nm
    refine b383_27 ?_
    rw [HP]
    refine dr_s ?_
    rw [H.m16]
    refine ⟨⟨by omega, by omega⟩, ⟨by omega, by omega⟩, fun _ => rfl, fun z => dr_s ⟨by omega, by omega, me_i_r _ _ _, h1, fun _ => ?_, fun _ => ?_⟩⟩
    · exact ih (x + 1) c (by omega) (by omega) (by omega)
    · exact ih (x + 1) (c + 1) (by omega) (by omega) (by omega)
theorem c_383 (HP : me_p M 164 52 = some p) (H : PI p C n m cl Φ M0 M) (h1 : me_r x1) (hd : 1 ≤ d) : me_W (mt_G N X) 383 d 0 [some (.inr (.inl (some 164, 25, 0))), some (.inl x1), none, none] [] M (sx_qI (fun _ M' => M' = M) nt_E) := by
  refine b383_0 (ca_I hd (c_368 h1 ⟨by decide, by decide⟩) (fun y M1 _ z => ?_) nt_E_no)
  obtain ⟨z1, z2⟩ := z
  rw [z1, HP]
  exact ⟨⟨by omega, by omega⟩, fun _ => dr_s ⟨me_i_r _ _ _, fun _ => cn_27 HP H h1 (m + 1) 0 0 (by omega) (by omega) (by omega), fun _ => rfl⟩, fun _ => rfl⟩
theorem to_28 (HP : me_p M 164 52 = some p) (H : PI p C n m cl Φ M0 M) (h1 : me_r x1) (h2 : me_r x2) (hd : 1 ≤ d) : ∀ (f x : Nat) (c : Nat), m - x < f → x ≤ m → c ≤ x → me_W (mt_G N X) 384 d 28 [some (.inr (.inl (some 164, 25, 0))), some (.inl x1), some (.inl x2), some (.inl (c : Int)), some (.inl (x : Int))] [] M (sx_qI (fun _ M' => M' = M) nt_E) := by
  intro f
  induction f with
  | zero => intro x c z; omega
  | succ f ih =>
    intro x c hf hx hc
    have nm := H.nm
    refine b384_28 ?_
    rw [HP]
    refine dr_s ?_
    rw [H.m16]
    refine ⟨⟨by omega, by omega⟩, ⟨by omega, by omega⟩, fun _ => rfl, fun z => dr_s ⟨by omega, by omega, me_i_r _ _ _, h1, fun _ => ?_, fun _ => ⟨⟨by omega, by omega⟩, h2, fun _ => ?_, fun _ => ?_⟩⟩⟩
    · exact ih (x + 1) c (by omega) (by omega) (by omega)
    · exact ih (x + 1) (c + 1) (by omega) (by omega) (by omega)
    · obtain ⟨o1, o2⟩ := H.nam (q := x) (by omega)
      exact dr_s ⟨by omega, by omega, dr_s (ca_I hd (c_294 o1 (by rw [Int.toNat_natCast]; omega)) (fun y M1 _ v => v.1) nt_E_no)⟩
theorem c_384 (HP : me_p M 164 52 = some p) (H : PI p C n m cl Φ M0 M) (h1 : me_r x1) (h2 : me_r x2) (hd : 1 ≤ d) : me_W (mt_G N X) 384 d 0 [some (.inr (.inl (some 164, 25, 0))), some (.inl x1), some (.inl x2), none, none] [] M (sx_qI (fun _ M' => M' = M) nt_E) := by
  refine b384_0 (ca_I hd (c_368 h1 ⟨by decide, by decide⟩) (fun y M1 _ z => ?_) nt_E_no)
  obtain ⟨z1, z2⟩ := z
  rw [z1, HP]
  exact ⟨⟨by omega, by omega⟩, fun _ => dr_s ⟨me_i_r _ _ _, fun _ => to_28 HP H h1 h2 hd (m + 1) 0 0 (by omega) (by omega) (by omega), fun _ => rfl⟩, fun _ => rfl⟩
theorem c_388 {k : Nat} (HP : me_p M 164 52 = some p) (hk : k < 2408) : me_W (mt_G N X) 388 d 0 [some (.inr (.inl (some 164, 25, 0))), some (.inl (k : Int))] [] M (sx_qI (fun y M' => M' = M ∧ me_r y) nt_E) := by
  refine b388_0 ?_
  rw [HP]
  exact dr_s ⟨by omega, by omega, me_i_r _ _ _, ⟨by decide, by decide⟩, fun _ => ⟨rfl, by decide, by decide⟩, fun _ => dr_s ⟨by omega, by omega, rfl, me_i_r _ _ _⟩⟩
/-- what is told at a place -/
theorem c_387 (H : PI p C n m cl Φ M0 M) (h33 : me_i M p 33 = 0) (h1 : me_r x1) (hd : 2 ≤ d) : me_W (mt_G N X) 387 d 0 [some (.inr (.inl (some p, 29, 0))), some (.inl x1), none] [] M (sx_qI (fun y M' => QP p C M M' ∧ (y = -1 ∨ ∃ q : Nat, y = (q : Int) ∧ q < m)) nt_E) := by
  refine b387_0 (ca_I (by omega) (c_379 h1 H.tkf H.map (by omega)) (fun y M1 _ w => ?_) nt_E_no)
  obtain ⟨f, hm, w3⟩ := w
  have nm := H.nm
  have q1 : QP p C M M1 := ⟨f, hm⟩
  have H1 := q1.pi H
  rcases w3 with w3 | ⟨k, w3, k2, k3⟩ <;> rw [w3]
  · exact ⟨⟨by decide, by decide⟩, fun _ => ⟨q1, Or.inl rfl⟩, fun z => absurd z (by decide)⟩
  · have e8 : me_i M1 (p + 8) k = 1 := (f.i (by unfold mP; omega)).trans k3
    obtain ⟨q, a, b⟩ := H1.means ((f.i (by unfold mP; omega)).trans h33) k2 e8
    rw [Int.toNat_natCast, a, Int.toNat_natCast]
    exact ⟨⟨by omega, by omega⟩, fun _ => ⟨q1, Or.inl rfl⟩, fun _ => ⟨by omega, by omega, ⟨by omega, by omega⟩, fun _ => ⟨q1, Or.inl rfl⟩, fun _ => ⟨by omega, by omega, by omega, by omega, me_i_r _ _ _, ⟨by omega, by omega⟩, fun _ => ⟨q1, Or.inl rfl⟩, fun _ => ⟨by omega, by omega, q1, Or.inr ⟨q, rfl, b⟩⟩⟩⟩⟩
theorem c_386 (HP : me_p M 164 52 = some p) (H : PI p C n m cl Φ M0 M) (h1 : me_r x1) (hd : 3 ≤ d) : me_W (mt_G N X) 386 d 0 [some (.inr (.inl (some 164, 25, 0))), some (.inl x1)] [] M (sx_qI (fun y M' => QP p C M M' ∧ (y = -1 ∨ ∃ q : Nat, y = (q : Int) ∧ q < m)) nt_E) := by
  refine b386_0 ?_
  rw [HP]
  exact dr_s ⟨me_i_r _ _ _, fun _ => ⟨QP.rf H, Or.inl rfl⟩, fun c => dr_s (ca_I (by omega) (c_387 H c h1 (by omega)) (fun y M1 _ w => w) nt_E_no)⟩
theorem us_18 {q : Nat} (HP : me_p M 164 52 = some p) (H : PI p C n m cl Φ M0 M) (hq : q < m) (hd : 1 ≤ d) : ∀ (f x : Nat) (c : Nat), C - x < f → x ≤ C → c ≤ x → me_W (mt_G N X) 385 d 18 [some (.inr (.inl (some 164, 25, 0))), none, some (.inl (q : Int)), some (.inl (c : Int)), some (.inl (x : Int))] [] M (sx_qI (fun _ M' => M' = M) nt_E) := by
  intro f
  induction f with
  | zero => intro x c z; omega
  | succ f ih =>
    intro x c hf hx hc
    have nm := H.nm
    refine b385_18 ?_
    rw [HP]
    refine dr_s ?_
    rw [H.c5]
    refine ⟨⟨by omega, by omega⟩, ⟨by omega, by omega⟩, fun _ => rfl, fun z => ca_I hd (c_388 HP (by omega)) (fun y M1 _ w => ?_) nt_E_no⟩
    obtain ⟨w1, w2⟩ := w
    rw [w1]
    refine ⟨w2, ⟨by omega, by omega⟩, fun _ => ?_, fun _ => ?_⟩
    · exact ih (x + 1) c (by omega) (by omega) (by omega)
    · exact ih (x + 1) (c + 1) (by omega) (by omega) (by omega)
theorem c_385 (HP : me_p M 164 52 = some p) (H : PI p C n m cl Φ M0 M) (h1 : me_r x1) (hd : 4 ≤ d) : me_W (mt_G N X) 385 d 0 [some (.inr (.inl (some 164, 25, 0))), some (.inl x1), none, none, none] [] M (sx_qI (fun _ M' => QP p C M M') nt_E) := by
  refine b385_0 (ca_I (by omega) (c_386 HP H h1 (by omega)) (fun y M1 _ w => ?_) nt_E_no)
  obtain ⟨q1, w⟩ := w
  have nm := H.nm
  rcases w with w | ⟨q, w, hq⟩ <;> rw [w]
  · exact ⟨⟨by decide, by decide⟩, fun z => absurd z (by decide), fun _ => q1⟩
  · refine ⟨⟨by omega, by omega⟩, fun _ => ?_, fun _ => q1⟩
    refine (us_18 (q1.1.p.trans HP) (q1.pi H) hq (by omega) (C + 1) 0 0 (by omega) (by omega) (by omega)).mono fun o M' _ h => ?_
    rcases o with a | _ | x | ⟨a, b⟩ | j
    · exact h
    · exact h
    · have h : M' = M1 := h
      rw [h]
      exact q1
    · exact h
    · exact h
theorem ue_19 {q : Nat} (HP : me_p M 164 52 = some p) (H : PI p C n m cl Φ M0 M) (hq : q < m) (h2 : me_r x2) (hd : 1 ≤ d) : ∀ (f x : Nat) (c : Nat), C - x < f → x ≤ C → c ≤ x → me_W (mt_G N X) 389 d 19 [some (.inr (.inl (some 164, 25, 0))), none, some (.inl x2), some (.inl (q : Int)), some (.inl (c : Int)), some (.inl (x : Int))] [] M (sx_qI (fun _ M' => M' = M) nt_E) := by
  intro f
  induction f with
  | zero => intro x c z; omega
  | succ f ih =>
    intro x c hf hx hc
    have nm := H.nm
    refine b389_19 ?_
    rw [HP]
    refine dr_s ?_
    rw [H.c5]
    refine ⟨⟨by omega, by omega⟩, ⟨by omega, by omega⟩, fun _ => rfl, fun z => ca_I hd (c_388 HP (by omega)) (fun y M1 _ w => ?_) nt_E_no⟩
    obtain ⟨w1, w2⟩ := w
    rw [w1, HP]
    refine ⟨w2, ⟨by omega, by omega⟩, fun _ => ?_, fun _ => ⟨⟨by omega, by omega⟩, h2, fun _ => ?_, fun _ => dr_s (ca_I hd (c_294 (Int.natCast_nonneg _) (by omega)) (fun y M1 _ v => v.1) nt_E_no)⟩⟩
    · exact ih (x + 1) c (by omega) (by omega) (by omega)
    · exact ih (x + 1) (c + 1) (by omega) (by omega) (by omega)
theorem c_389 (HP : me_p M 164 52 = some p) (H : PI p C n m cl Φ M0 M) (h1 : me_r x1) (h2 : me_r x2) (hd : 4 ≤ d) : me_W (mt_G N X) 389 d 0 [some (.inr (.inl (some 164, 25, 0))), some (.inl x1), some (.inl x2), none, none, none] [] M (sx_qI (fun _ M' => QP p C M M') nt_E) := by
  refine b389_0 (ca_I (by omega) (c_386 HP H h1 (by omega)) (fun y M1 _ w => ?_) nt_E_no)
  obtain ⟨q1, w⟩ := w
  have nm := H.nm
  rcases w with w | ⟨q, w, hq⟩ <;> rw [w]
  · exact ⟨⟨by decide, by decide⟩, fun z => absurd z (by decide), fun _ => q1⟩
  · refine ⟨⟨by omega, by omega⟩, fun _ => ?_, fun _ => q1⟩
    refine (ue_19 (q1.1.p.trans HP) (q1.pi H) hq h2 (by omega) (C + 1) 0 0 (by omega) (by omega) (by omega)).mono fun o M' _ h => ?_
    rcases o with a | _ | x | ⟨a, b⟩ | j
    · exact h
    · exact h
    · have h : M' = M1 := h
      rw [h]
      exact q1
    · exact h
    · exact h
theorem c_392 {a b : Nat} (ha : a < 2408) (hb : b < 2408) : me_W (mt_G N X) 392 d 0 [some (.inr (.inl (some p, 29, 0))), some (.inl (a : Int)), some (.inl (b : Int))] [] M (sx_qI (fun y M' => M' = M ∧ (y = 0 ∨ y = 1)) nt_E) := by
  exact b392_0 ⟨by omega, by omega, me_i_r _ _ _, ⟨by decide, by decide⟩, fun _ => ⟨Or.inl rfl, rfl, Or.inl rfl⟩, fun _ => ⟨by omega, by omega, by omega, by omega, me_i_r _ _ _, me_i_r _ _ _, fun _ => ⟨Or.inl rfl, rfl, Or.inl rfl⟩, fun _ => ⟨Or.inr rfl, rfl, Or.inr rfl⟩⟩⟩
theorem c_391 {q : Nat} (hm : me_i M p 16 = (m : Int)) (m8 : m < 2408) (hq : q < m) (hd : 1 ≤ d) : me_W (mt_G N X) 391 d 0 [some (.inr (.inl (some p, 29, 0))), some (.inl (q : Int)), none, none] [] M (sx_qI (fun y M' => M' = M ∧ 0 ≤ y ∧ y ≤ m) nt_E) := by
  have lp : ∀ (f x c : Nat), m - x < f → x ≤ m → c ≤ x → me_W (mt_G N X) 391 d 4 [some (.inr (.inl (some p, 29, 0))), some (.inl (q : Int)), some (.inl (c : Int)), some (.inl (x : Int))] [] M (sx_qI (fun y M' => M' = M ∧ 0 ≤ y ∧ y ≤ m) nt_E) := by
    intro f
    induction f with
    | zero => intro x c z; omega
    | succ f ih =>
      intro x c hf hx hc
      refine b391_4 ?_
      rw [hm]
      refine ⟨⟨by omega, by omega⟩, ⟨by omega, by omega⟩, fun _ => ⟨rfl, by omega, by omega⟩, fun z => ca_I hd (c_392 (by omega) (by omega)) (fun y M1 _ w => ?_) nt_E_no⟩
      obtain ⟨w1, w2⟩ := w
      rw [w1]
      refine ⟨by rcases w2 with w | w <;> rw [w] <;> exact ⟨by decide, by decide⟩, fun _ => ?_, fun _ => ?_⟩
      · exact ih (x + 1) c (by omega) (by omega) (by omega)
      · exact ih (x + 1) (c + 1) (by omega) (by omega) (by omega)
  exact b391_0 (lp (m + 1) 0 0 (by omega) (by omega) (by omega))
theorem c_390 (HP : me_p M 164 52 = some p) (H : PI p C n m cl Φ M0 M) (h1 : me_r x1) (hd : 4 ≤ d) : me_W (mt_G N X) 390 d 0 [some (.inr (.inl (some 164, 25, 0))), some (.inl x1), none] [] M (sx_qI (fun _ M' => QP p C M M') nt_E) := by
  refine b390_0 (ca_I (by omega) (c_386 HP H h1 (by omega)) (fun y M1 _ w => ?_) nt_E_no)
  obtain ⟨q1, w⟩ := w
  have nm := H.nm
  rw [q1.1.p, HP]
  rcases w with w | ⟨q, w, hq⟩ <;> rw [w]
  · exact ⟨⟨by decide, by decide⟩, fun _ => q1, fun z => absurd z (by decide)⟩
  · refine ⟨⟨by omega, by omega⟩, fun _ => q1, fun _ => dr_s ⟨by omega, by omega, me_i_r _ _ _, ⟨by decide, by decide⟩, fun _ => dr_s (ca_I (by omega) (c_391 (q1.pi H).m16 (by omega) hq (by omega)) (fun y M2 _ v => ?_) nt_E_no), fun _ => q1⟩⟩
    rw [v.1]
    exact q1
end QUERY2
