/-! more fuel does no harm -/
theorem mv_take_mono {G : mv_G} {y : Nat} {k k' : mv_S → Option mv_E} (hk : ∀ S E, k S = some E → k' S = some E) {a : Nat} {S : mv_S} {E : mv_E} (h : mv_take G y k a S = some E) : mv_take G y k' a S = some E := by
  unfold mv_take at h ⊢
  cases hn : mv_hand (mv_gH G y) S.1 with
  | none =>
    rw [hn] at h
    exact h
  | some q =>
    obtain ⟨hd, ct⟩ := q
    rw [hn] at h
    dsimp only at h ⊢
    cases ho : S.2.2.2.1[a]? with
    | none =>
      rw [ho] at h
      cases h
    | some e =>
      rw [ho] at h
      rcases e with e | ⟨ci, fs⟩
      · cases h
      · dsimp only at h ⊢
        by_cases hc : ci = mv_gX G
        · rw [if_pos hc] at h ⊢
          exact hk _ _ h
        · rw [if_neg hc] at h
          cases h
theorem mv_fuel1 (G : mv_G) : ∀ (n y fb lb : Nat) (S : mv_S) (E : mv_E), mv_run G n y fb lb S = some E → mv_run G (n + 1) y fb lb S = some E
  | 0, _, _, _, _, _, h => by cases h
  | n + 1, y, fb, lb, S, E, h => by
    have ih := fun y fb lb S E => mv_fuel1 G n y fb lb S E
    rw [mv_run] at h ⊢
    cases hnat : mv_nat G y fb lb S with
    | some S' =>
      rw [hnat] at h
      exact ih _ _ _ _ _ h
    | none =>
      rw [hnat] at h
      dsimp only at h ⊢
      cases hex : mv_exec G y S with
      | none =>
        rw [hex] at h
        cases h
      | some r =>
        rw [hex] at h
        rcases r with S' | ⟨z, as, r, len⟩ | v | a
        · exact ih _ _ _ _ _ h
        · dsimp only at h ⊢
          split at h
          · rename_i hc
            rw [if_pos hc]
            split at h
            · cases h
            · rename_i v hp cb sb hrun
              rw [ih _ _ _ _ _ hrun]
              exact ih _ _ _ _ _ h
            · rename_i a hp cb sb hrun
              rw [ih _ _ _ _ _ hrun]
              exact mv_take_mono (fun S E => ih _ _ _ S E) h
          · cases h
        · exact h
        · exact mv_take_mono (fun S E => ih _ _ _ S E) h
theorem mv_fuel (G : mv_G) {n m y fb lb : Nat} {S : mv_S} {E : mv_E} (hle : n ≤ m) (h : mv_run G n y fb lb S = some E) : mv_run G m y fb lb S = some E := by
  obtain ⟨k, rfl⟩ := Nat.le.dest hle
  clear hle
  induction k with
  | zero => exact h
  | succ k ih => exact mv_fuel1 G (n + k) y fb lb S E ih
/-- steps of one frame, the calls in it as a whole (n: their fuel) -/
def ab_pre (G : mv_G) (Ls : Nat → Option Nat) (X : Nat → ab_V) (n y fb lb : Nat) : Nat → ab_S → Option ab_S
  | 0, A => some A
  | k + 1, A => match ab_step G Ls X y fb lb A with
    | some (.inl A') => ab_pre G Ls X n y fb lb k A'
    | some (.inr (.inl (z, as, r))) => bif Nat.ble 1 fb && Nat.ble (r.length + (mv_gL G z + 11)) lb && Nat.ble as.length (mv_gL G z) then
        ab_fn (fb - 1) fun fb' => ab_fn (lb - (r.length + (mv_gL G z + 11))) fun lb' => match ab_run G Ls X n z fb' lb' (0, ab_args 0 as, [], A.2.2.2.1, A.2.2.2.2.1, A.2.2.2.2.2) with
        | some (.inr v, h, cb, sb) => ab_fn (A.1 + 3) fun pc' => ab_pre G Ls X n y fb lb k (pc', A.2.1, v.toList ++ r, h, cb, sb)
        | _ => none
      else none
    | _ => none
theorem ab_pre_ok {G : mv_G} {Ls : Nat → Option Nat} {X : Nat → ab_V} (hX : ∀ a n f, mv_gS G a = some (n, f) → ∀ k, ab_g (X k) (.int (f k))) (hL : ∀ a n, Ls a = some n → ∃ f, mv_gS G a = some (n, f)) (hL0 : ∀ a, Ls a = none → mv_gS G a = none) {n y fb lb : Nat} : ∀ (k : Nat) (A A' : ab_S) (S : mv_S), ab_gS A S → ab_pre G Ls X n y fb lb k A = some A' → ∃ S', ab_gS A' S' ∧ ∀ (m : Nat) (E : mv_E), n ≤ m → mv_run G m y fb lb S' = some E → mv_run G (m + k) y fb lb S = some E
  | 0, A, A', S, hs, h => by
    cases h
    exact ⟨S, hs, fun m E _ hm => hm⟩
  | k + 1, A, A', S, hs, h => by
    unfold ab_pre at h
    cases hst : ab_step G Ls X y fb lb A with
    | none =>
      rw [hst] at h
      cases h
    | some r =>
      rw [hst] at h
      have hok := ab_step_ok hX hL hL0 hs hst
      obtain ⟨s1, s2, s3, s4, s5, s6⟩ := id hs
      rcases r with A1 | ⟨z, as, r⟩ | v | a
      · obtain ⟨S1, h1, h2⟩ := hok
        obtain ⟨S', h3, h4⟩ := ab_pre_ok hX hL hL0 k A1 A' S1 h2 h
        refine ⟨S', h3, fun m E hm he => ?_⟩
        have h5 := h4 m E hm he
        show mv_run G (m + k + 1) y fb lb S = some E
        rw [mv_run]
        rcases h1 with h1 | ⟨h1, h6⟩
        · rw [h1]
          exact h5
        · rw [h1, h6]
          exact h5
      · obtain ⟨h1, as', r', h3, h4, h5⟩ := hok
        dsimp only at h
        obtain ⟨b1, h9⟩ := ab_bif h
        simp only [Bool.and_eq_true] at b1
        obtain ⟨⟨c1, c2⟩, c3⟩ := b1
        rw [ab_fn_eq, ab_fn_eq] at h9
        have c1 := Nat.le_of_ble_eq_true c1
        have c2 := Nat.le_of_ble_eq_true c2
        have c3 := Nat.le_of_ble_eq_true c3
        split at h9
        · rename_i v h' cb' sb' hrun
          rw [ab_fn_eq] at h9
          obtain ⟨⟨o, hp', cb2, sb2⟩, e1, e2, e3, e4, e5⟩ := ab_run_ok hX hL hL0 n z (fb - 1) (lb - (r.length + (mv_gL G z + 11))) (0, ab_args 0 as, [], A.2.2.2.1, A.2.2.2.2.1, A.2.2.2.2.2) (0, lv_args 0 as', [], S.2.2.2.1, S.2.2.2.2.1, S.2.2.2.2.2) _ ⟨rfl, fun i v hv => ab_args_ok 0 0 h4 i v hv, trivial, s4, s5, s6⟩ hrun
          rcases o with a2 | w
          · exact absurd e2 id
          · obtain ⟨S', h6, h7⟩ := ab_pre_ok hX hL hL0 k (A.1 + 3, A.2.1, v.toList ++ r, h', cb', sb') A' (S.1 + 3, S.2.1, w.toList ++ r', hp', cb2, sb2) ⟨by show A.1 + 3 = S.1 + 3; rw [s1], s2, ab_gs_app (ab_toList e2) h5, e3, e4, e5⟩ h9
            refine ⟨S', h6, fun m E hm he => ?_⟩
            have h8 := h7 m E hm he
            show mv_run G (m + k + 1) y fb lb S = some E
            rw [mv_run, h1, h3]
            dsimp only
            rw [(ab_gs_cats h5).1, if_pos ⟨c1, c2, by rw [(ab_gs_cats h4).2]; exact c3⟩, mv_fuel G (show n ≤ m + k by omega) e1]
            exact h8
        · cases h9
      · cases h
      · cases h
