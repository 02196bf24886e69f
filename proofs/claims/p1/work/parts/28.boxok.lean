/-! boxes: the run is sound: a step, the whole -/
section ABS
variable {G : mv_G} {Ls : Nat → Option Nat} {X : Nat → ab_V}
theorem ab_kd_at {y idx k : Nat} (h : ab_kd G y idx = k) (hk : k < 99) : ∃ z n, mv_gC G y idx = some (k, z, n) := by
  unfold ab_kd at h
  split at h
  · rename_i kd z n hc
    subst h
    exact ⟨z, n, hc⟩
  · omega
theorem ab_step_ok (hX : ∀ a n f, mv_gS G a = some (n, f) → ∀ k, ab_g (X k) (.int (f k))) (hL : ∀ a n, Ls a = some n → ∃ f, mv_gS G a = some (n, f)) (hL0 : ∀ a, Ls a = none → mv_gS G a = none) {y fb lb : Nat} {A : ab_S} {S : mv_S} (hs : ab_gS A S) {q : ab_R} (h : ab_step G Ls X y fb lb A = some q) : ab_okR G y fb lb q S := by
  obtain ⟨s1, s2, s3, s4, s5, s6⟩ := id hs
  cases hI : mv_gI G y A.1 with
  | none =>
    unfold ab_step at h
    rw [hI] at h
    cases h
  | some w =>
    obtain ⟨i, n⟩ := w
    have hI' : mv_gI G y S.1 = some (i, n) := by rw [← s1]; exact hI
    unfold ab_step at h
    rw [hI] at h
    cases i
    case invokestatic idx =>
      dsimp only at h
      obtain ⟨b1, h9⟩ := ab_bif h
      replace h := h9
      clear h9
      have hn := Nat.eq_of_beq_eq_true b1
      cases hb : Nat.beq (ab_kd G y idx) 7 with
      | true =>
        rw [hb, cond_true, s1, s5, s6] at h
        obtain ⟨z, na, hc⟩ := ab_kd_at (Nat.eq_of_beq_eq_true hb) (by decide)
        subst hn
        refine ab_nat_step (ab_copy_ok s2 s3 s4) ?_ h
        unfold mv_nat
        simp only [hI', hc]
        rw [if_pos trivial]
      | false =>
        rw [hb, cond_false] at h
        exact ab_callS_ok hn hI' (fun e => by rw [e] at hb; cases hb) hs h
    case invokevirtual idx =>
      dsimp only at h
      obtain ⟨b1, h9⟩ := ab_bif h
      replace h := h9
      clear h9
      exact ab_callV_ok (Nat.eq_of_beq_eq_true b1) hI' hs h
    case invokespecial idx =>
      dsimp only at h
      obtain ⟨b1, h9⟩ := ab_bif h
      replace h := h9
      clear h9
      have hn := Nat.eq_of_beq_eq_true b1
      cases hb : Nat.beq (ab_kd G y idx) 9 with
      | true =>
        rw [hb, cond_true, s1, s5, s6] at h
        obtain ⟨z, na, hc⟩ := ab_kd_at (Nat.eq_of_beq_eq_true hb) (by decide)
        subst hn
        refine ab_nat_step (ab_oini_ok s2 s3 s4) ?_ h
        unfold mv_nat
        simp only [hI', hc]
        rw [if_pos trivial]
      | false =>
        rw [hb, cond_false] at h
        exact ab_callI_ok hn hI' (fun e => by rw [e] at hb; cases hb) hs h
    case new idx =>
      dsimp only at h
      obtain ⟨b1, h9⟩ := ab_bif h
      replace h := h9
      clear h9
      have hn := Nat.eq_of_beq_eq_true b1
      subst hn
      cases hN : mv_gN G y idx with
      | none =>
        rw [hN] at h
        cases h
      | some ci =>
        rw [hN] at h
        have h : (bif Nat.beq ci (mv_gX G) then ab_go (ab_made G y A.1 A.2.1 A.2.2.1 A.2.2.2.1 A.2.2.2.2.1 A.2.2.2.2.2 fb lb) else ab_go (ab_new G y A.1 A.2.1 A.2.2.1 A.2.2.2.1 A.2.2.2.2.1 A.2.2.2.2.2 idx)) = some q := h
        cases hb : Nat.beq ci (mv_gX G) with
        | true =>
          rw [hb, cond_true, s1, s5, s6] at h
          refine ab_nat_step (ab_made_ok s2 s3 s4) ?_ h
          unfold mv_nat
          simp only [hI', hN]
          rw [if_pos (Nat.eq_of_beq_eq_true hb)]
        | false =>
          rw [hb, cond_false] at h
          refine ab_ins_step hI' ?_ (by unfold mv_exec; rw [hI']) hs h
          unfold mv_nat
          simp only [hI', hN]
          rw [if_neg (fun e => by rw [e, Nat.beq_refl] at hb; cases hb)]
    case iaload =>
      dsimp only at h
      obtain ⟨b1, h9⟩ := ab_bif h
      replace h := h9
      clear h9
      have hn := Nat.eq_of_beq_eq_true b1
      subst hn
      have hnat : mv_nat G y fb lb S = mv_xald G S.1 S.2.1 S.2.2.1 S.2.2.2.1 S.2.2.2.2.1 S.2.2.2.2.2 := by
        unfold mv_nat
        simp only [hI']
      cases ha : ab_scr2 A with
      | none =>
        rw [ha] at h
        cases h
      | some a =>
        rw [ha] at h
        have h : (match Ls a with | some _ => ab_go (ab_xald Ls X A.1 A.2.1 A.2.2.1 A.2.2.2.1 A.2.2.2.2.1 A.2.2.2.2.2) | none => ab_go (ab_iald A.1 A.2.1 A.2.2.1 A.2.2.2.1 A.2.2.2.2.1 A.2.2.2.2.2)) = some q := h
        cases hl : Ls a with
        | some n0 =>
          rw [hl] at h
          dsimp only at h
          rw [s1, s5, s6] at h
          exact ab_nat_step (ab_xald_ok hX hL s2 s3 s4) hnat h
        | none =>
          rw [hl] at h
          refine ab_ins_step hI' ?_ (by unfold mv_exec; rw [hI']) hs h
          rw [hnat]
          unfold ab_scr2 at ha
          split at ha
          · rename_i v a' r hst
            cases ha
            rw [hst] at s3
            obtain ⟨w1, r1, e1, g1, hs1⟩ := ab_gs_cons s3
            obtain ⟨w2, r2, e2, g2, hs2⟩ := ab_gs_cons hs1
            rw [e1, e2, g2.1]
            unfold mv_xald
            have h0 := hL0 a hl
            cases w1 <;> simp only [h0]
          · cases ha
    case arraylength =>
      dsimp only at h
      obtain ⟨b1, h9⟩ := ab_bif h
      replace h := h9
      clear h9
      have hn := Nat.eq_of_beq_eq_true b1
      subst hn
      have hnat : mv_nat G y fb lb S = mv_xlen G S.1 S.2.1 S.2.2.1 S.2.2.2.1 S.2.2.2.2.1 S.2.2.2.2.2 := by
        unfold mv_nat
        simp only [hI']
      cases ha : ab_scr A with
      | none =>
        rw [ha] at h
        cases h
      | some a =>
        rw [ha] at h
        have h : (match Ls a with | some _ => ab_go (ab_xlen Ls A.1 A.2.1 A.2.2.1 A.2.2.2.1 A.2.2.2.2.1 A.2.2.2.2.2) | none => ab_go (ab_alen G A.1 A.2.1 A.2.2.1 A.2.2.2.1 A.2.2.2.2.1 A.2.2.2.2.2)) = some q := h
        cases hl : Ls a with
        | some n0 =>
          rw [hl] at h
          dsimp only at h
          rw [s1, s5, s6] at h
          exact ab_nat_step (ab_xlen_ok hL s2 s3 s4) hnat h
        | none =>
          rw [hl] at h
          refine ab_ins_step hI' ?_ (by unfold mv_exec; rw [hI']) hs h
          rw [hnat]
          unfold ab_scr at ha
          split at ha
          · rename_i a' r hst
            cases ha
            rw [hst] at s3
            obtain ⟨w1, r1, e1, g1, hs1⟩ := ab_gs_cons s3
            rw [e1, g1.1]
            unfold mv_xlen
            have h0 := hL0 a hl
            simp only [h0]
          · cases ha
    case ireturn =>
      dsimp only at h
      obtain ⟨b1, h9⟩ := ab_bif h
      replace h := h9
      clear h9
      exact ab_iret_ok (Nat.eq_of_beq_eq_true b1) hI' hs h
    case areturn =>
      dsimp only at h
      obtain ⟨b1, h9⟩ := ab_bif h
      replace h := h9
      clear h9
      exact ab_aret_ok (Nat.eq_of_beq_eq_true b1) hI' hs h
    case return_ =>
      dsimp only at h
      obtain ⟨b1, h9⟩ := ab_bif h
      replace h := h9
      clear h9
      exact ab_vret_ok (Nat.eq_of_beq_eq_true b1) hI' hs h
    case athrow =>
      dsimp only at h
      obtain ⟨b1, h9⟩ := ab_bif h
      replace h := h9
      clear h9
      exact ab_throw_ok (Nat.eq_of_beq_eq_true b1) hI' hs h
    all_goals exact ab_ins_step hI' (ab_nat_none hI' rfl) (by unfold mv_exec; rw [hI']) hs h
theorem ab_take_ok {y : Nat} {k : ab_S → Option ab_Q} {k' : mv_S → Option mv_E} (hk : ∀ A S q, ab_gS A S → k A = some q → ∃ E, k' S = some E ∧ ab_gQ q E) {a : Nat} {A : ab_S} {S : mv_S} (hs : ab_gS A S) {q : ab_Q} (h : ab_take G y k a A = some q) : ∃ E, mv_take G y k' a S = some E ∧ ab_gQ q E := by
  obtain ⟨s1, s2, s3, s4, s5, s6⟩ := hs
  unfold ab_take at h
  unfold mv_take
  rw [s1] at h
  split at h
  · rename_i hn
    cases h
    rw [hn]
    exact ⟨_, rfl, rfl, s4, s5, s6⟩
  · rename_i hd ct hn
    rw [hn]
    split at h
    · rename_i ci N F ha
      obtain ⟨b1, h9⟩ := ab_bif h
      obtain ⟨e, he, fs, rfl, -⟩ := ab_at_ok s4 ha
      dsimp only
      rw [he]
      dsimp only
      rw [if_pos (Nat.eq_of_beq_eq_true b1)]
      exact hk (hd, A.2.1, [.inl (.ref a)], A.2.2.2.1, A.2.2.2.2.1, A.2.2.2.2.2) (hd, S.2.1, [.ref a], S.2.2.2.1, S.2.2.2.2.1, S.2.2.2.2.2) _ ⟨rfl, s2, ⟨⟨rfl, rfl⟩, trivial⟩, s4, s5, s6⟩ h9
    · cases h
theorem ab_toList {v : Option ab_V} {w : Option Value} (h : ab_go_ v w) : ab_gs v.toList w.toList := by
  cases v with
  | none =>
    cases w with
    | none => trivial
    | some b => exact absurd h id
  | some a =>
    cases w with
    | none => exact absurd h id
    | some b => exact ⟨h, trivial⟩
/-- THE BOXES: where the boxes' run comes to an end, the small machine does from every state in the box, and its end lies in that end's box -/
theorem ab_run_ok (hX : ∀ a n f, mv_gS G a = some (n, f) → ∀ k, ab_g (X k) (.int (f k))) (hL : ∀ a n, Ls a = some n → ∃ f, mv_gS G a = some (n, f)) (hL0 : ∀ a, Ls a = none → mv_gS G a = none) : ∀ (n y fb lb : Nat) (A : ab_S) (S : mv_S) (q : ab_Q), ab_gS A S → ab_run G Ls X n y fb lb A = some q → ∃ E, mv_run G n y fb lb S = some E ∧ ab_gQ q E
  | 0, _, _, _, _, _, _, _, h => by cases h
  | n + 1, y, fb, lb, A, S, q, hs, h => by
    have ih := fun y fb lb => ab_run_ok hX hL hL0 n y fb lb
    unfold ab_run at h
    unfold mv_run
    cases hst : ab_step G Ls X y fb lb A with
    | none =>
      rw [hst] at h
      cases h
    | some r =>
      rw [hst] at h
      have hok := ab_step_ok hX hL hL0 hs hst
      obtain ⟨s1, s2, s3, s4, s5, s6⟩ := id hs
      rcases r with A' | ⟨z, as, r⟩ | v | a
      · obtain ⟨S', h1, h2⟩ := hok
        rcases h1 with h1 | ⟨h1, h3⟩
        · rw [h1]
          exact ih y fb lb A' S' q h2 h
        · rw [h1, h3]
          exact ih y fb lb A' S' q h2 h
      · obtain ⟨h1, as', r', h3, h4, h5⟩ := hok
        rw [h1, h3]
        dsimp only at h ⊢
        obtain ⟨b1, h9⟩ := ab_bif h
        simp only [Bool.and_eq_true] at b1
        obtain ⟨⟨c1, c2⟩, c3⟩ := b1
        rw [ab_fn_eq, ab_fn_eq] at h9
        have c1 := Nat.le_of_ble_eq_true c1
        have c2 := Nat.le_of_ble_eq_true c2
        have c3 := Nat.le_of_ble_eq_true c3
        rw [(ab_gs_cats h5).1, if_pos ⟨c1, c2, by rw [(ab_gs_cats h4).2]; exact c3⟩]
        cases hrun : ab_run G Ls X n z (fb - 1) (lb - (r.length + (mv_gL G z + 11))) (0, ab_args 0 as, [], A.2.2.2.1, A.2.2.2.2.1, A.2.2.2.2.2) with
        | none =>
          rw [hrun] at h9
          cases h9
        | some q1 =>
          rw [hrun] at h9
          obtain ⟨E1, e1, e2, e3, e4, e5⟩ := ih z (fb - 1) (lb - (r.length + (mv_gL G z + 11))) (0, ab_args 0 as, [], A.2.2.2.1, A.2.2.2.2.1, A.2.2.2.2.2) (0, lv_args 0 as', [], S.2.2.2.1, S.2.2.2.2.1, S.2.2.2.2.2) q1 ⟨rfl, fun i v hv => ab_args_ok 0 0 h4 i v hv, trivial, s4, s5, s6⟩ hrun
          rw [e1]
          obtain ⟨o1, h1', cb1, sb1⟩ := q1
          obtain ⟨o2, h2', cb2, sb2⟩ := E1
          rcases o1 with a | v
          · rcases o2 with a2 | w
            · have e2 : a = a2 := e2
              subst e2
              exact ab_take_ok (fun A S q => ih y fb lb A S q) (A := (A.1, A.2.1, [], h1', cb1, sb1)) (S := (S.1, S.2.1, [], h2', cb2, sb2)) ⟨s1, s2, trivial, e3, e4, e5⟩ h9
            · exact absurd e2 id
          · rcases o2 with a2 | w
            · exact absurd e2 id
            · dsimp only at h9
              rw [ab_fn_eq] at h9
              exact ih y fb lb (A.1 + 3, A.2.1, v.toList ++ r, h1', cb1, sb1) (S.1 + 3, S.2.1, w.toList ++ r', h2', cb2, sb2) q ⟨by show A.1 + 3 = S.1 + 3; rw [s1], s2, ab_gs_app (ab_toList e2) h5, e3, e4, e5⟩ h9
      · obtain ⟨h1, w, h3, h4⟩ := hok
        rw [h1, h3]
        cases h
        exact ⟨_, rfl, h4, s4, s5, s6⟩
      · obtain ⟨h1, h3⟩ := hok
        rw [h1, h3]
        exact ab_take_ok (fun A S q => ih y fb lb A S q) hs h
end ABS
