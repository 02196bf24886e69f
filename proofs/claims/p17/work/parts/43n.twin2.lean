/-! the model's calls: twin, its loops -/
section TWIN2
variable {N : Nat} {X : Nat → Int32} {d p pb C n m cl C1 n1 m1' cl1 r : Nat} {x1 x3 x4 x6 x8 : Int} {Φ Φ1 : Nat → Nat} {M0 Mb Ms M M1 M2 : me_M} {Q : me_Q}
theorem tw_195 (h8 : me_r x8 ∧ x8 ≤ 300) (hC : ∀ x4' x5' : Int, (x5' = 0 ∨ x5' = 1) → me_W (mt_G N X) 427 d 58 [some (.inr (.inl (some 164, 25, 0))), some (.inl x1), none, some (.inl x3), some (.inl x4'), some (.inl x5'), some (.inl (x6 + 1)), none, none, none, none] [] M Q) : ∀ (f x : Nat) (x5 : Int), (x8 - x).toNat < f → (x5 = 0 ∨ x5 = 1) → x ≤ 300 → me_W (mt_G N X) 427 d 195 [some (.inr (.inl (some 164, 25, 0))), some (.inl x1), none, some (.inl x3), some (.inl x4), some (.inl x5), some (.inl x6), none, some (.inl x8), none, some (.inl (x : Int))] [] M Q := by
  intro f
  induction f with
  | zero => intro x x5 z; omega
  | succ f ih =>
    intro x x5 hf h5 hx
    have r5 : me_r x5 := by rcases h5 with z | z <;> rw [z] <;> exact ⟨by decide, by decide⟩
    refine b427_195 ⟨⟨by omega, by omega⟩, h8.1, fun _ => ⟨r5, fun _ => hC _ _ h5, fun _ => hC _ _ h5⟩, fun c => ⟨r5, fun _ => ⟨r5, fun _ => hC _ _ h5, fun _ => hC _ _ h5⟩, fun _ => ⟨by omega, by omega, by omega, by omega, me_i_r _ _ _, me_i_r _ _ _, fun _ => ?_, fun _ => ?_⟩⟩⟩
    · exact ih (x + 1) 0 (by omega) (Or.inl rfl) (by omega)
    · exact ih (x + 1) 1 (by omega) (Or.inr rfl) (by omega)
theorem tw_72 (hp : 192 ≤ p ∧ p + 47 ≤ 380) (hpb : 192 ≤ pb ∧ pb + 47 ≤ 380) (hr : r + 2 < 2000000000) (hd : 1856 ≤ d) (hC : ∀ (M' : me_M) (x3 x4' x5' : Int), TW p pb C n m cl C1 n1 m1' cl1 Φ Φ1 M0 Mb (r + 2) M' → gq twP eR Ms M' → (x5' = 0 ∨ x5' = 1) → me_W (mt_G N X) 427 d 58 [some (.inr (.inl (some 164, 25, 0))), some (.inl x1), none, some (.inl x3), some (.inl x4'), some (.inl x5'), some (.inl (x6 + 1)), none, none, none, none] [] M' Q) (hQ : ∀ (a : Nat) (M' : me_M), nt_E a M' → Q (.inl a) M') : ∀ (f x : Nat) (x3 : Int) (M1 : me_M), 8 - x < f → x ≤ 8 → TW p pb C n m cl C1 n1 m1' cl1 Φ Φ1 M0 Mb r M1 → gq twP eR Ms M1 → me_W (mt_G N X) 427 d 72 [some (.inr (.inl (some 164, 25, 0))), some (.inl x1), none, some (.inl x3), some (.inl x4), none, some (.inl x6), some (.inl (x : Int)), none, none, none] [] M1 Q := by
  intro f
  induction f with
  | zero => intro x x3 M1 z; omega
  | succ f ih =>
    intro x x3 M1 hf hx T g
    have mo : ∀ {A B : me_M}, gq eP eR A B → gq twP eR A B := fun h => h.mo (fun b j v => Or.inl v) fun _ _ v => v
    have ce : ∀ {A B : me_M}, GA A → fr (fun b _ => b = 475 ∨ b = 476) A B → gq twP eR A B := fun G f => ((gx.of (R := no2) G f fun b j => twP_ok).gq).mo (fun b j v => Or.inr v) no2_mo
    refine b427_72 ⟨⟨by omega, by omega⟩, ⟨by decide, by decide⟩, fun c => ?_, fun c => ⟨⟨Int32.le_toInt _, Int32.toInt_lt _⟩, ⟨by decide, by decide⟩, by decide, by omega, by omega, ?_⟩⟩
    · rw [T.1.2]
      refine ca_I (by omega) (c_397r (a2 := 164 + 311) T.2.2.1.1 T.2.2.1.2 (by omega) T.2.2.2.1 (by decide) T.2.2.2.2.1 (by decide) ⟨by decide, by decide⟩ (by omega)) (fun y4 M2 _ w => ?_) (fun a M' _ z => hQ a M' z)
      obtain ⟨ry, re⟩ := w
      have T2 := T.run hp hpb (by omega) re
      obtain ⟨b12, c12⟩ := re.2.2.1
      refine ⟨by omega, by omega, by omega, b12, by omega, by omega, ?_⟩
      intro M5
      have f5 : fr (fun b _ => b = 475 ∨ b = 476) M2 M5 := fr_cp fun _ => Or.inr rfl
      clear_value M5
      have T5 := T2.cell hp hpb f5
      have g5 := (g.tr (mo re.1)).tr (ce T2.2.2.2.1.1 f5)
      rw [T5.1.1]
      refine ca_I (by omega) (c_397r (a2 := 164 + 311) T5.2.1.1 T5.2.1.2 (by omega) T5.2.2.2.1 (by decide) T5.2.2.2.2.1 (by decide) ⟨by decide, by decide⟩ (by omega)) (fun y9 M6 _ w => ?_) (fun a M' _ z => hQ a M' z)
      obtain ⟨ry9, re9⟩ := w
      have T6 := T5.run hp hpb (by omega) re9
      have g6 := g5.tr (mo re9.1)
      have go : ∀ x5 : Int, (x5 = 0 ∨ x5 = 1) → me_W (mt_G N X) 427 d 195 [some (.inr (.inl (some 164, 25, 0))), some (.inl x1), none, some (.inl x3), some (.inl x4), some (.inl x5), some (.inl x6), none, some (.inl (me_i M2 164 12)), none, some (.inl ((0 : Nat) : Int))] [] M6 Q := fun x5 h5 => tw_195 ⟨me_i_r _ _ _, c12⟩ (fun x4' x5' h => hC M6 x3 x4' x5' T6 g6 h) _ 0 x5 (Nat.lt_succ_self _) h5 (by omega)
      exact ⟨ry, ry9, fun _ => go 0 (Or.inl rfl), fun _ => ⟨me_i_r _ _ _, me_i_r _ _ _, fun _ => go 0 (Or.inl rfl), fun _ => go 1 (Or.inr rfl)⟩⟩
    · intro M10
      have f10 : fr (fun b _ => b = 475 ∨ b = 476) M1 M10 := fr_sI (Or.inl rfl)
      clear_value M10
      exact ih (x + 1) _ M10 (by omega) (by omega) (T.cell hp hpb f10) (g.tr (ce T.2.2.2.1.1 f10))
end TWIN2
