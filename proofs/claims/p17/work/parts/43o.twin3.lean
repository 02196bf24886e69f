/-! the model's calls: twin, whole -/
section TWIN3
variable {N : Nat} {X : Nat → Int32} {d p pb C n m cl C1 n1 m1' cl1 r : Nat} {k : Nat → Nat} {x1 x2 x3 x4 x6 x8 : Int} {Φ Φ1 : Nat → Nat} {M0 Mb Ms M M1 M2 : me_M}
theorem TW.mo {r' : Nat} (T : TW p pb C n m cl C1 n1 m1' cl1 Φ Φ1 M0 Mb r M) (h : r ≤ r') : TW p pb C n m cl C1 n1 m1' cl1 Φ Φ1 M0 Mb r' M := by
  obtain ⟨a, b, c, e, f, g⟩ := T
  exact ⟨a, b, c, e, f, by omega⟩
theorem tw_58 (hp : 192 ≤ p ∧ p + 47 ≤ 380) (hpb : 192 ≤ pb ∧ pb + 47 ≤ 380) (hr : r + 50 < 2000000000) (hd : 1856 ≤ d) (h1 : 1 ≤ x1 ∧ x1 ≤ 20) : ∀ (f i : Nat) (x3 x4 x5 : Int) (M1 : me_M), 20 - i < f → i ≤ 20 → (x5 = 0 ∨ x5 = 1) → TW p pb C n m cl C1 n1 m1' cl1 Φ Φ1 M0 Mb (r + 2 * i) M1 → gq twP eR Ms M1 → me_W (mt_G N X) 427 d 58 [some (.inr (.inl (some 164, 25, 0))), some (.inl x1), none, some (.inl x3), some (.inl x4), some (.inl x5), some (.inl (i : Int)), none, none, none, none] [] M1 (sx_qI (fun _ M' => TW p pb C n m cl C1 n1 m1' cl1 Φ Φ1 M0 Mb (r + 40) M' ∧ gq twP eR Ms M') nt_E) := by
  intro f
  induction f with
  | zero => intro i x3 x4 x5 M1 z; omega
  | succ f ih =>
    intro i x3 x4 x5 M1 hf hi h5 T g
    have en : TW p pb C n m cl C1 n1 m1' cl1 Φ Φ1 M0 Mb (r + 40) M1 ∧ gq twP eR Ms M1 := ⟨T.mo (by omega), g⟩
    refine b427_58 ⟨⟨by omega, by omega⟩, ⟨by omega, by omega⟩, fun _ => en, fun c => ⟨by rcases h5 with z | z <;> rw [z] <;> exact ⟨by decide, by decide⟩, fun _ => en, fun _ => ?_⟩⟩
    exact tw_72 (x4 := x4) hp hpb (by omega) hd (fun M' x3' x4' x5' T' g' h => ih (i + 1) x3' x4' x5' M' (by omega) (by omega) h (T'.mo (by omega)) g') (fun a M' z => z) 9 0 x3 M1 (by omega) (by omega) T g
/-- behind twin -/
def TWQ (p pb C n m cl : Nat) (Φ : Nat → Nat) (M0 : me_M) (k : Nat → Nat) (r : Nat) (M M' : me_M) : Prop := M' = M ∨ ∃ (M1 : me_M) (C1 n1 m1' : Nat) (Φ1 : Nat → Nat), fr (bgP pb) M M1 ∧ TW p pb C n m cl C1 n1 m1' (sumk k 4) Φ Φ1 M0 M1 (r + 40) M' ∧ gq twP eR M1 M'
theorem c_427 (HP : me_p M 164 52 = some p) (HB : me_p M 164 54 = some pb) (H : PI p C n m cl Φ M0 M) (hp : 192 ≤ p ∧ p + 47 ≤ 380) (hpb : 192 ≤ pb ∧ pb + 47 ≤ 380) (hdis : p + 47 ≤ pb ∨ pb + 47 ≤ p) (R : RDY M) (k475 : M.2.1 475 = (0, 8)) (hr : me_i M 164 49 ≤ r ∧ r + 50 < 2000000000) (h1 : me_r x1) (hd : 1866 ≤ d)
    (hB : ¬ me_i M 164 59 = 0 → ∀ d, 1862 ≤ d → me_W (mt_G N X) 396 d 0 [some (.inr (.inl (some 164, 25, 0))), some (.inr (.inl (some pb, 29, 0))), some (.inl (me_i M 164 59 - 1)), none] [] M (sx_qV (fun M' => fr (bgP pb) M M' ∧ RDP pb k M' ∧ me_i M' pb 33 = 0) nt_E)) : me_W (mt_G N X) 427 d 0 [some (.inr (.inl (some 164, 25, 0))), some (.inl x1), some (.inl x2), none, none, none, none, none, none, none, none] [] M (sx_qI (fun _ M' => TWQ p pb C n m cl Φ M0 k r M M') nt_E) := by
  have no : TWQ p pb C n m cl Φ M0 k r M M := Or.inl rfl
  refine b427_0 ⟨h1, ⟨by decide, by decide⟩, fun _ => no, fun c1 => ⟨h1, ⟨by decide, by decide⟩, fun c20 => ?_, fun _ => no⟩⟩
  rw [HP, HB]
  refine dr_s ⟨me_i_r _ _ _, fun _ => no, fun c33 => ⟨me_i_r _ _ _, fun c59 => ?_, fun _ => no⟩⟩
  refine ca_V (by omega) (hB c59 (d - 1) (by omega)) (fun M1 _ w => ?_) nt_E_no
  obtain ⟨f, rp, e33⟩ := w
  obtain ⟨Φ1, C1, n1, m1', I1, _⟩ := rp
  have o : ∀ b j, (b < pb ∧ ¬ b = 164 ∨ pb + 47 ≤ b ∨ b = 164 ∧ ¬ j = 3 ∧ ¬ j = 4) → me_i M1 b j = me_i M b j := fun b j h => f.i fun v => by
    rcases bgP_p v with v | v <;> omega
  have I : PI p C n m cl Φ M0 M1 := H.fr f (fun b j v => by rcases bgP_p v with v | v <;> omega) fun v x hx => by
    rw [o _ _ (by omega)] at v ⊢
    exact H.map v x hx
  have T : TW p pb C n m cl C1 n1 m1' (sumk k 4) Φ Φ1 M0 M1 (r + 2 * 0) M1 := ⟨⟨f.p.trans HP, f.p.trans HB⟩, ⟨I, (o _ _ (by omega)).trans c33⟩, ⟨I1, e33⟩, R.bg hpb f, by rw [f.2.1]; exact k475, by rw [o _ _ (by omega)]; omega⟩
  refine (tw_58 (Ms := M1) hp hpb hr.2 (by omega) ⟨c1, c20⟩ 21 0 x2 0 1 M1 (by omega) (by omega) (Or.inr rfl) T (((gx.rf T.2.2.2.1.1).gq))).mono fun oo M' _ h => ?_
  rcases oo with a | _ | x | ⟨a, b⟩ | jj
  · exact h
  · exact h
  · exact Or.inr ⟨M1, C1, n1, m1', Φ1, f, h⟩
  · exact h
  · exact h
end TWIN3
