/-! boxes: the run with shortcuts: calls whose end is known -/
def ab_runc (G : mv_G) (Ls : Nat → Option Nat) (X : Nat → ab_V) (sc : Nat → List ab_V → ab_H → Nat → Nat → Option ab_Q) : Nat → Nat → Nat → Nat → ab_S → Option ab_Q
  | 0, _, _, _, _ => none
  | n + 1, y, fb, lb, A => match ab_step G Ls X y fb lb A with
    | none => none
    | some (.inl A') => ab_runc G Ls X sc n y fb lb A'
    | some (.inr (.inl (z, as, r))) => bif Nat.ble 1 fb && Nat.ble (r.length + (mv_gL G z + 11)) lb && Nat.ble as.length (mv_gL G z) then
        ab_fn (fb - 1) fun fb' => ab_fn (lb - (r.length + (mv_gL G z + 11))) fun lb' => match (match sc z as A.2.2.2.1 A.2.2.2.2.1 A.2.2.2.2.2 with
          | some q => some q
          | none => ab_runc G Ls X sc n z fb' lb' (0, ab_args 0 as, [], A.2.2.2.1, A.2.2.2.2.1, A.2.2.2.2.2)) with
        | none => none
        | some (.inr v, h, cb, sb) => ab_fn (A.1 + 3) fun pc' => ab_runc G Ls X sc n y fb lb (pc', A.2.1, v.toList ++ r, h, cb, sb)
        | some (.inl a, h, cb, sb) => ab_take G y (ab_runc G Ls X sc n y fb lb) a (A.1, A.2.1, [], h, cb, sb)
      else none
    | some (.inr (.inr (.inl v))) => some (.inr v, A.2.2.2.1, A.2.2.2.2.1, A.2.2.2.2.2)
    | some (.inr (.inr (.inr a))) => ab_take G y (ab_runc G Ls X sc n y fb lb) a A
/-- the shortcuts are right -/
def ab_scok (G : mv_G) (sc : Nat → List ab_V → ab_H → Nat → Nat → Option ab_Q) : Prop := ∀ (z : Nat) (as : List ab_V) (as' : List Value) (h : ab_H) (hp : List va_E) (cb sb : Nat) (q : ab_Q) (fb lb : Nat), sc z as h cb sb = some q → ab_gs as as' → ab_gh h hp → ∃ m E, mv_run G m z fb lb (0, lv_args 0 as', [], hp, cb, sb) = some E ∧ ab_gQ q E
section ABC
variable {G : mv_G} {Ls : Nat → Option Nat} {X : Nat → ab_V} {sc : Nat → List ab_V → ab_H → Nat → Nat → Option ab_Q}
theorem ab_take_okc {y fb lb : Nat} {k : ab_S → Option ab_Q} (hk : ∀ A S q, ab_gS A S → k A = some q → ∃ m E, mv_run G m y fb lb S = some E ∧ ab_gQ q E) {a : Nat} {A : ab_S} {S : mv_S} (hs : ab_gS A S) {q : ab_Q} (h : ab_take G y k a A = some q) : ∃ m E, mv_take G y (mv_run G m y fb lb) a S = some E ∧ ab_gQ q E := by
  obtain ⟨s1, s2, s3, s4, s5, s6⟩ := hs
  unfold ab_take at h
  unfold mv_take
  rw [s1] at h
  split at h
  · rename_i hn
    cases h
    rw [hn]
    exact ⟨0, _, rfl, rfl, s4, s5, s6⟩
  · rename_i hd ct hn
    rw [hn]
    split at h
    · rename_i ci N F ha
      obtain ⟨b1, h9⟩ := ab_bif h
      obtain ⟨e, he, fs, rfl, -⟩ := ab_at_ok s4 ha
      dsimp only
      rw [he]
      dsimp only
      obtain ⟨m, E, h1, h2⟩ := hk (hd, A.2.1, [.inl (.ref a)], A.2.2.2.1, A.2.2.2.2.1, A.2.2.2.2.2) (hd, S.2.1, [.ref a], S.2.2.2.1, S.2.2.2.2.1, S.2.2.2.2.2) _ ⟨rfl, s2, ⟨⟨rfl, rfl⟩, trivial⟩, s4, s5, s6⟩ h9
      refine ⟨m, E, ?_, h2⟩
      rw [if_pos (Nat.eq_of_beq_eq_true b1)]
      exact h1
    · cases h
theorem ab_runc_ok (hX : ∀ a n f, mv_gS G a = some (n, f) → ∀ k, ab_g (X k) (.int (f k))) (hL : ∀ a n, Ls a = some n → ∃ f, mv_gS G a = some (n, f)) (hL0 : ∀ a, Ls a = none → mv_gS G a = none) (hsc : ab_scok G sc) : ∀ (n y fb lb : Nat) (A : ab_S) (S : mv_S) (q : ab_Q), ab_gS A S → ab_runc G Ls X sc n y fb lb A = some q → ∃ m E, mv_run G m y fb lb S = some E ∧ ab_gQ q E
  | 0, _, _, _, _, _, _, _, h => by cases h
  | n + 1, y, fb, lb, A, S, q, hs, h => by
    have ih := fun y fb lb => ab_runc_ok hX hL hL0 hsc n y fb lb
    unfold ab_runc at h
    cases hst : ab_step G Ls X y fb lb A with
    | none =>
      rw [hst] at h
      cases h
    | some r =>
      rw [hst] at h
      have hok := ab_step_ok hX hL hL0 hs hst
      obtain ⟨s1, s2, s3, s4, s5, s6⟩ := id hs
      rcases r with A' | ⟨z, as, r⟩ | v | a
      · obtain ⟨S', h1, h2⟩ := hok
        obtain ⟨m, E, h3, h4⟩ := ih y fb lb A' S' q h2 h
        refine ⟨m + 1, E, ?_, h4⟩
        rw [mv_run]
        rcases h1 with h1 | ⟨h1, h6⟩
        · rw [h1]
          exact h3
        · rw [h1, h6]
          exact h3
      · obtain ⟨h1, as', r', h3, h4, h5⟩ := hok
        dsimp only at h
        obtain ⟨b1, h9⟩ := ab_bif h
        simp only [Bool.and_eq_true] at b1
        obtain ⟨⟨c1, c2⟩, c3⟩ := b1
        rw [ab_fn_eq, ab_fn_eq] at h9
        have c1 := Nat.le_of_ble_eq_true c1
        have c2 := Nat.le_of_ble_eq_true c2
        have c3 := Nat.le_of_ble_eq_true c3
        have hcall : ∀ q1, (match sc z as A.2.2.2.1 A.2.2.2.2.1 A.2.2.2.2.2 with | some q => some q | none => ab_runc G Ls X sc n z (fb - 1) (lb - (r.length + (mv_gL G z + 11))) (0, ab_args 0 as, [], A.2.2.2.1, A.2.2.2.2.1, A.2.2.2.2.2)) = some q1 → ∃ m E, mv_run G m z (fb - 1) (lb - (r.length + (mv_gL G z + 11))) (0, lv_args 0 as', [], S.2.2.2.1, S.2.2.2.2.1, S.2.2.2.2.2) = some E ∧ ab_gQ q1 E := by
          intro q1 hq
          split at hq
          · rename_i q2 hq2
            cases hq
            rw [s5, s6] at hq2
            exact hsc z as as' _ _ _ _ _ _ _ hq2 h4 s4
          · exact ih z _ _ (0, ab_args 0 as, [], A.2.2.2.1, A.2.2.2.2.1, A.2.2.2.2.2) (0, lv_args 0 as', [], S.2.2.2.1, S.2.2.2.2.1, S.2.2.2.2.2) q1 ⟨rfl, fun i v hv => ab_args_ok 0 0 h4 i v hv, trivial, s4, s5, s6⟩ hq
        have hgo : ∀ m, mv_run G (m + 1) y fb lb S = (match mv_run G m z (fb - 1) (lb - (r.length + (mv_gL G z + 11))) (0, lv_args 0 as', [], S.2.2.2.1, S.2.2.2.2.1, S.2.2.2.2.2) with
            | none => none
            | some (.inr v, hp, cb, sb) => mv_run G m y fb lb (S.1 + 3, S.2.1, v.toList ++ r', hp, cb, sb)
            | some (.inl a, hp, cb, sb) => mv_take G y (mv_run G m y fb lb) a (S.1, S.2.1, [], hp, cb, sb)) := by
          intro m
          rw [mv_run, h1, h3]
          dsimp only
          rw [(ab_gs_cats h5).1, if_pos ⟨c1, c2, by rw [(ab_gs_cats h4).2]; exact c3⟩]
          rfl
        generalize hcc : (match sc z as A.2.2.2.1 A.2.2.2.2.1 A.2.2.2.2.2 with | some q => some q | none => ab_runc G Ls X sc n z (fb - 1) (lb - (r.length + (mv_gL G z + 11))) (0, ab_args 0 as, [], A.2.2.2.1, A.2.2.2.2.1, A.2.2.2.2.2)) = cc at h9 hcall
        cases cc with
        | none => cases h9
        | some q1 =>
          obtain ⟨m1, E1, e1, e2, e3, e4, e5⟩ := hcall q1 rfl
          obtain ⟨o1, h1', cb1, sb1⟩ := q1
          obtain ⟨o2, h2', cb2, sb2⟩ := E1
          rcases o1 with a | v
          · rcases o2 with a2 | w
            · have e2 : a = a2 := e2
              subst e2
              obtain ⟨m2, E, h7, h8⟩ := ab_take_okc (fb := fb) (lb := lb) (fun A S q => ih y fb lb A S q) (A := (A.1, A.2.1, [], h1', cb1, sb1)) (S := (S.1, S.2.1, [], h2', cb2, sb2)) ⟨s1, s2, trivial, e3, e4, e5⟩ h9
              refine ⟨max m1 m2 + 1, E, ?_, h8⟩
              rw [hgo, mv_fuel G (Nat.le_max_left m1 m2) e1]
              exact mv_take_mono (fun S E hr => mv_fuel G (Nat.le_max_right m1 m2) hr) h7
            · exact absurd e2 id
          · rcases o2 with a2 | w
            · exact absurd e2 id
            · dsimp only at h9
              rw [ab_fn_eq] at h9
              obtain ⟨m2, E, h7, h8⟩ := ih y fb lb (A.1 + 3, A.2.1, v.toList ++ r, h1', cb1, sb1) (S.1 + 3, S.2.1, w.toList ++ r', h2', cb2, sb2) q ⟨by show A.1 + 3 = S.1 + 3; rw [s1], s2, ab_gs_app (ab_toList e2) h5, e3, e4, e5⟩ h9
              refine ⟨max m1 m2 + 1, E, ?_, h8⟩
              rw [hgo, mv_fuel G (Nat.le_max_left m1 m2) e1]
              exact mv_fuel G (Nat.le_max_right m1 m2) h7
      · obtain ⟨h1, w, h3, h4⟩ := hok
        refine ⟨1, (.inr w, S.2.2.2.1, S.2.2.2.2.1, S.2.2.2.2.2), ?_, ?_⟩
        · rw [mv_run, h1, h3]
        · cases h
          exact ⟨h4, s4, s5, s6⟩
      · obtain ⟨h1, h3⟩ := hok
        obtain ⟨m, E, h7, h8⟩ := ab_take_okc (fb := fb) (lb := lb) (fun A S q => ih y fb lb A S q) hs h
        refine ⟨m + 1, E, ?_, h8⟩
        rw [mv_run, h1, h3]
        exact h7
end ABC
/-! a script as boxes -/
/-- the first int by its last five bits, the next ones by bounds, in order -/
def ab_pt (b : Int × Int) : ab_V := bif decide (b.1 = b.2) then ab_fi (Int32.ofInt b.1) fun w => .inl (.int w) else .inr (.inl b)
theorem ab_pt_ok {b : Int × Int} {x : Int32} (h1 : b.1 ≤ x.toInt) (h2 : x.toInt ≤ b.2) : ab_g (ab_pt b) (.int x) := by
  unfold ab_pt
  cases hb : decide (b.1 = b.2) with
  | true =>
    have he : b.1 = b.2 := of_decide_eq_true hb
    rw [cond_true, ab_fi_eq]
    have hx : b.1 = x.toInt := by omega
    rw [hx, Int32.ofInt_toInt]
    exact ⟨rfl, rfl⟩
  | false => exact ⟨x, rfl, h1, h2⟩
def ab_X (m : Int32) (bs : List (Int × Int)) : Nat → ab_V := fun k => match k with
  | 0 => .inr (.inr m)
  | j + 1 => ab_pt (bs.getD j (-2147483648, 2147483647))
/-- all that lies between the cuts -/
def ab_par (t : Int × Int → Bool) : Int → List Int → Bool
  | lo, [] => t (lo, 2147483647)
  | lo, c :: r => t (lo, c) && ab_par t (c + 1) r
theorem ab_par_ok {t : Int × Int → Bool} {x : Int} (hx : x ≤ 2147483647) : ∀ (cs : List Int) (lo : Int), ab_par t lo cs = true → lo ≤ x → ∃ b : Int × Int, t b = true ∧ b.1 ≤ x ∧ x ≤ b.2
  | [], lo, h, hl => ⟨(lo, 2147483647), h, hl, hx⟩
  | c :: r, lo, h, hl => by
    unfold ab_par at h
    rw [Bool.and_eq_true] at h
    by_cases hc : x ≤ c
    · exact ⟨(lo, c), h.1, hl, hc⟩
    · exact ab_par_ok hx r (c + 1) h.2 (by omega)
def ab_pars (t : List (Int × Int) → Bool) : List (List Int) → List (Int × Int) → Bool
  | [], acc => t acc.reverse
  | cs :: r, acc => ab_par (fun b => ab_pars t r (b :: acc)) (-2147483648) cs
theorem ab_pars_ok {t : List (Int × Int) → Bool} {f : Nat → Int32} : ∀ (css : List (List Int)) (acc : List (Int × Int)), ab_pars t css acc = true → (∀ j b, acc.reverse[j]? = some b → b.1 ≤ (f j).toInt ∧ (f j).toInt ≤ b.2) → ∃ bs, t bs = true ∧ ∀ j b, bs[j]? = some b → b.1 ≤ (f j).toInt ∧ (f j).toInt ≤ b.2
  | [], acc, h, ha => ⟨acc.reverse, h, ha⟩
  | cs :: r, acc, h, ha => by
    unfold ab_pars at h
    obtain ⟨b, h1, h2, h3⟩ := ab_par_ok (Int.le_of_lt_add_one (Int32.toInt_lt (f acc.length))) cs _ h (Int32.le_toInt (f acc.length))
    refine ab_pars_ok r (b :: acc) h1 fun j b' hb => ?_
    rw [List.reverse_cons] at hb
    rcases Nat.lt_or_ge j acc.reverse.length with hj | hj
    · rw [List.getElem?_append_left hj] at hb
      exact ha j b' hb
    · rw [List.getElem?_append_right hj] at hb
      have hj2 : j = acc.length := by
        have := (List.getElem?_eq_some_iff.mp hb).1
        rw [List.length_singleton] at this
        rw [List.length_reverse] at hj this
        omega
      subst hj2
      rw [List.length_reverse, Nat.sub_self] at hb
      cases hb
      exact ⟨h2, h3⟩
theorem ab_X_ok {m : Int32} {bs : List (Int × Int)} {f : Nat → Int32} (h0 : f 0 &&& 31 = m) (hb : ∀ j b, bs[j]? = some b → b.1 ≤ (f (j + 1)).toInt ∧ (f (j + 1)).toInt ≤ b.2) : ∀ k, ab_g (ab_X m bs k) (.int (f k))
  | 0 => ⟨_, rfl, h0⟩
  | j + 1 => by
    have h1 : (bs.getD j (-2147483648, 2147483647)).1 ≤ (f (j + 1)).toInt ∧ (f (j + 1)).toInt ≤ (bs.getD j (-2147483648, 2147483647)).2 := by
      rw [List.getD_eq_getElem?_getD]
      cases hj : bs[j]? with
      | none => exact ⟨Int32.le_toInt _, Int.le_of_lt_add_one (Int32.toInt_lt _)⟩
      | some b => exact hb j b hj
    exact ab_pt_ok h1.1 h1.2
