/-! boxes: fill and tokenAt as shortcuts -/
def ab_allm (W : Nat → ab_V) : Nat → Bool
  | 0 => true
  | k + 1 => (match W k with
    | .inl (.int v) => decide (v = -1)
    | _ => false) && ab_allm W k
theorem ab_allm_ok {W : Nat → ab_V} : ∀ (n k : Nat), ab_allm W n = true → k < n → W k = .inl (.int (-1))
  | 0, k, _, hk => absurd hk (Nat.not_lt_zero k)
  | n + 1, k, h, hk => by
    unfold ab_allm at h
    rw [Bool.and_eq_true] at h
    by_cases e : k = n
    · subst e
      have h1 := h.1
      split at h1
      · rename_i v hv
        rw [hv, of_decide_eq_true h1]
      · cases h1
    · exact ab_allm_ok n k h.2 (by omega)
def ab_sfill (as : List ab_V) (h : ab_H) (cb sb : Nat) : Option ab_Q := match as with
  | [.inl (.ref a), .inl (.int v)] => match ab_at h a with
    | some (.inl (t, n, F)) => bif Nat.beq t 0 && Nat.blt n 2147483648 && !Nat.beq a mv_big then some (.inr none, ab_put h a (.inl (0, n, fun k => bif Nat.blt k n then .inl (.int v) else F k)), cb, sb) else none
    | _ => none
  | _ => none
def ab_stok1 (h : ab_H) (cb sb p N : Nat) (F : Nat → ab_V) (bt : Nat) (W : Nat → ab_V) : Option ab_Q := match F 2 with
  | .inl (.ref tk) => match ab_at h tk with
    | some (.inr (.inr (cj, M, C))) => match C 5 with
      | .inl (.int c) => bif Nat.beq cj 15 && Nat.blt 5 M && decide (c = 0) then some (.inr (some (.inl (.int (-1)))), ab_put (ab_put h bt (.inl (0, 12000, fun k => bif Nat.blt k 12000 then .inl (.int (-1)) else W k))) p (.inr (.inr (14, N, fun j => bif Nat.beq j 57 then .inl (.int 1) else F j))), cb, sb) else none
      | _ => none
    | _ => none
  | _ => none
def ab_stok (as : List ab_V) (h : ab_H) (cb sb : Nat) : Option ab_Q := match as with
  | [.inl (.ref p), x] => match ab_at h p with
    | some (.inr (.inr (ci, N, F))) => match F 57, F 56 with
      | .inl (.int m), .inl (.ref bt) => match ab_at h bt with
        | some (.inl (t, n, W)) => bif ab_int x && Nat.beq ci 14 && Nat.blt 57 N && Nat.beq t 0 && Nat.beq n 12000 && !Nat.beq bt mv_big then (bif decide (m = 0) then ab_stok1 h cb sb p N F bt W else bif decide (m = 1) && ab_allm W 12000 then some (.inr (some (.inl (.int (-1)))), h, cb, sb) else none) else none
        | _ => none
      | _, _ => none
    | _ => none
  | _ => none
def ab_sc (z : Nat) (as : List ab_V) (h : ab_H) (cb sb : Nat) : Option ab_Q := bif Nat.beq z 19 then ab_sfill as h cb sb else bif Nat.beq z 376 then ab_stok as h cb sb else none
theorem ab_noscr {L : Nat} {xs : Nat → Int32} {a : Nat} (h : (!Nat.beq a mv_big) = true) : mv_gS (mt_G L xs) a = none := by
  show (if a = mv_big then some (L, xs) else none) = none
  rw [if_neg (fun e => by rw [e, Nat.beq_refl] at h; cases h)]
theorem ab_pick_fl {F : Nat → ab_V} {f : Nat → Int32} {v : Int32} {n : Nat} (hF : ∀ k, ab_g (F k) (.int (f k))) (k : Nat) : ab_g (bif Nat.blt k n then .inl (.int v) else F k) (.int (fl_f v n f k)) := by
  unfold fl_f
  cases hb : Nat.blt k n with
  | true =>
    rw [if_pos (show k < n from Nat.le_of_ble_eq_true hb)]
    exact ⟨rfl, rfl⟩
  | false =>
    rw [if_neg (show ¬ k < n from fun q => by have : Nat.blt k n = true := Nat.ble_eq_true_of_le q; rw [hb] at this; cases this)]
    exact hF k
theorem ab_sfill_ok {L : Nat} {xs : Nat → Int32} {as : List ab_V} {as' : List Value} {h : ab_H} {hp : List va_E} {cb sb : Nat} {q : ab_Q} {fb lb : Nat} (hq : ab_sfill as h cb sb = some q) (hs : ab_gs as as') (hh : ab_gh h hp) : ∃ m E, mv_run (mt_G L xs) m 19 fb lb (0, lv_args 0 as', [], hp, cb, sb) = some E ∧ ab_gQ q E := by
  unfold ab_sfill at hq
  split at hq
  · rename_i a v
    obtain ⟨w1, t1, rfl, g1, hs1⟩ := ab_gs_cons hs
    obtain ⟨w2, t2, rfl, g2, hs2⟩ := ab_gs_cons hs1
    obtain rfl := ab_gs_nil hs2
    rw [g1.1, g2.1]
    split at hq
    · rename_i t n F ha
      obtain ⟨b1, h9⟩ := ab_bif hq
      cases h9
      simp only [Bool.and_eq_true] at b1
      obtain ⟨⟨c1, c2⟩, c3⟩ := b1
      obtain ⟨e, he, f, rfl, hf⟩ := ab_at_ok hh ha
      have ht : t = 0 := Nat.eq_of_beq_eq_true c1
      subst ht
      obtain ⟨m, hm⟩ := fl_fill (L := L) (xs := xs) (fb := fb) (lb := lb) (cb := cb) (sb := sb) (v := v) (Nat.le_of_ble_eq_true c2) (ab_noscr c3) he
      exact ⟨m, _, hm, trivial, ab_put_ok hh ⟨_, rfl, fun k => ab_pick_fl hf k⟩, rfl, rfl⟩
    · cases hq
  · cases hq
theorem ab_fs {F : Nat → ab_V} {fs : List Value} {v : Value} {k : Nat} (hF : ∀ k v, fs[k]? = some v → ab_g (F k) v) (hk : k < fs.length) (h : F k = .inl v) : fs[k]? = some v := by
  have h1 := hF k fs[k] (List.getElem?_eq_getElem hk)
  rw [h] at h1
  rw [List.getElem?_eq_getElem hk, h1.1]
theorem ab_stok_ok {L : Nat} {xs : Nat → Int32} {as : List ab_V} {as' : List Value} {h : ab_H} {hp : List va_E} {cb sb : Nat} {q : ab_Q} {fb lb : Nat} (hq : ab_stok as h cb sb = some q) (hs : ab_gs as as') (hh : ab_gh h hp) : ∃ m E, mv_run (mt_G L xs) m 376 fb lb (0, lv_args 0 as', [], hp, cb, sb) = some E ∧ ab_gQ q E := by
  unfold ab_stok at hq
  split at hq
  · rename_i p x
    obtain ⟨w1, t1, rfl, g1, hs1⟩ := ab_gs_cons hs
    obtain ⟨w2, t2, rfl, g2, hs2⟩ := ab_gs_cons hs1
    obtain rfl := ab_gs_nil hs2
    rw [g1.1]
    split at hq
    · rename_i ci N F ha
      obtain ⟨e, he, fs, rfl, hN, hF⟩ := ab_at_ok hh ha
      split at hq
      · rename_i m bt h57 h56
        split at hq
        · rename_i t n W hbt
          obtain ⟨b1, h9⟩ := ab_bif hq
          simp only [Bool.and_eq_true] at b1
          obtain ⟨⟨⟨⟨⟨c1, c2⟩, c3⟩, c4⟩, c5⟩, c6⟩ := b1
          obtain ⟨e2, he2, f, rfl, hf⟩ := ab_at_ok hh hbt
          have ht : t = 0 := Nat.eq_of_beq_eq_true c4
          have hn : n = 12000 := Nat.eq_of_beq_eq_true c5
          have hci : ci = 14 := Nat.eq_of_beq_eq_true c2
          have hlen : 57 < fs.length := by rw [hN]; exact Nat.le_of_ble_eq_true c3
          subst ht hn hci
          obtain ⟨x', rfl⟩ := ab_int_at g2 c1
          have f57 := ab_fs hF hlen h57
          have f56 := ab_fs hF (by omega) h56
          have hS := ab_noscr (L := L) (xs := xs) c6
          show ∃ m E, mv_run (mt_G L xs) m 376 fb lb (0, [(0, .ref p), (1, .int x')], [], hp, cb, sb) = some E ∧ ab_gQ q E
          cases hm0 : decide (m = 0) with
          | true =>
            rw [hm0, cond_true] at h9
            have hm : m = 0 := of_decide_eq_true hm0
            subst hm
            unfold ab_stok1 at h9
            split at h9
            · rename_i tk h2
              have f2 := ab_fs hF (by omega) h2
              split at h9
              · rename_i cj M C htk
                obtain ⟨e3, he3, gs, rfl, hM, hC⟩ := ab_at_ok hh htk
                split at h9
                · rename_i c h5
                  obtain ⟨b2, h10⟩ := ab_bif h9
                  simp only [Bool.and_eq_true] at b2
                  obtain ⟨⟨d1, d2⟩, d3⟩ := b2
                  have hcj : cj = 15 := Nat.eq_of_beq_eq_true d1
                  have hc : c = 0 := of_decide_eq_true d3
                  subst hcj hc
                  have g5 := ab_fs hC (by rw [hM]; exact Nat.le_of_ble_eq_true d2) h5
                  obtain ⟨m, hm⟩ := tk_first (L := L) (xs := xs) (fb := fb) (lb := lb) (cb := cb) (sb := sb) (x := x') he f57 f56 f2 he3 g5 hS he2
                  cases h10
                  have hput : ab_ge (.inl (0, 12000, fun k => bif Nat.blt k 12000 then .inl (.int (-1)) else W k)) (.inl (0, 12000, .inl (fl_f (-1) 12000 f))) := ⟨_, rfl, fun k => ab_pick_fl hf k⟩
                  refine ⟨m, _, hm, ⟨rfl, rfl⟩, ab_put_ok (ab_put_ok hh hput) ⟨fs.set 57 (.int 1), rfl, by rw [List.length_set]; exact hN, fun j u hj => ?_⟩, rfl, rfl⟩
                  show ab_g (bif Nat.beq j 57 then .inl (.int 1) else F j) u
                  by_cases hkj : 57 = j
                  · subst hkj
                    rw [List.getElem?_set_self hlen] at hj
                    cases hj
                    exact ⟨rfl, rfl⟩
                  · rw [List.getElem?_set_ne hkj] at hj
                    cases hq2 : Nat.beq j 57 with
                    | true => exact absurd (Nat.eq_of_beq_eq_true hq2).symm hkj
                    | false => exact hF j u hj
                · cases h9
              · cases h9
            · cases h9
          | false =>
            rw [hm0, cond_false] at h9
            obtain ⟨b2, h10⟩ := ab_bif h9
            rw [Bool.and_eq_true] at b2
            have hm : m = 1 := of_decide_eq_true b2.1
            subst hm
            cases h10
            obtain ⟨m, hm⟩ := tk_again (L := L) (xs := xs) (fb := fb) (lb := lb) (cb := cb) (sb := sb) (x := x') he f57 f56 hS he2 (fun k hk => by
              have h1 : ab_g (W k) (.int (f k)) := hf k
              rw [ab_allm_ok 12000 k b2.2 hk] at h1
              exact Value.int.inj h1.1)
            exact ⟨m, _, hm, ⟨rfl, rfl⟩, hh, rfl, rfl⟩
        · cases hq
      · cases hq
    · cases hq
  · cases hq
theorem ab_sc_ok (L : Nat) (xs : Nat → Int32) : ab_scok (mt_G L xs) ab_sc := by
  intro z as as' h hp cb sb q fb lb hq hs hh
  unfold ab_sc at hq
  cases h1 : Nat.beq z 19 with
  | true =>
    rw [h1, cond_true] at hq
    have := Nat.eq_of_beq_eq_true h1
    subst this
    exact ab_sfill_ok hq hs hh
  | false =>
    rw [h1, cond_false] at hq
    cases h2 : Nat.beq z 376 with
    | true =>
      rw [h2, cond_true] at hq
      have := Nat.eq_of_beq_eq_true h2
      subst this
      exact ab_stok_ok hq hs hh
    | false =>
      rw [h2] at hq
      cases hq
/-! the tables without a script are all that the boxes' run asks for -/
theorem ab_step_strip (G : mv_G) (Ls : Nat → Option Nat) (X : Nat → ab_V) (y fb lb : Nat) (A : ab_S) : ab_step (ab_strip G) Ls X y fb lb A = ab_step G Ls X y fb lb A := by
  unfold ab_step
  have hI : mv_gI (ab_strip G) y A.1 = mv_gI G y A.1 := rfl
  rw [hI]
  cases mv_gI G y A.1 with
  | none => rfl
  | some w =>
    obtain ⟨i, n⟩ := w
    cases i <;> rfl
theorem ab_run_strip (G : mv_G) (Ls : Nat → Option Nat) (X : Nat → ab_V) : ∀ (n y fb lb : Nat) (A : ab_S), ab_run (ab_strip G) Ls X n y fb lb A = ab_run G Ls X n y fb lb A
  | 0, _, _, _, _ => rfl
  | n + 1, y, fb, lb, A => by
    have ih : ab_run (ab_strip G) Ls X n = ab_run G Ls X n := by
      funext y fb lb A
      exact ab_run_strip G Ls X n y fb lb A
    unfold ab_run
    rw [ab_step_strip, ih]
    rfl
theorem ab_runc_strip (G : mv_G) (Ls : Nat → Option Nat) (X : Nat → ab_V) (sc : Nat → List ab_V → ab_H → Nat → Nat → Option ab_Q) : ∀ (n y fb lb : Nat) (A : ab_S), ab_runc (ab_strip G) Ls X sc n y fb lb A = ab_runc G Ls X sc n y fb lb A
  | 0, _, _, _, _ => rfl
  | n + 1, y, fb, lb, A => by
    have ih : ab_runc (ab_strip G) Ls X sc n = ab_runc G Ls X sc n := by
      funext y fb lb A
      exact ab_runc_strip G Ls X sc n y fb lb A
    unfold ab_runc
    rw [ab_step_strip, ih]
    rfl
theorem ab_pre_strip (G : mv_G) (Ls : Nat → Option Nat) (X : Nat → ab_V) (n y fb lb : Nat) : ∀ (k : Nat) (A : ab_S), ab_pre (ab_strip G) Ls X n y fb lb k A = ab_pre G Ls X n y fb lb k A
  | 0, _ => rfl
  | k + 1, A => by
    have ih : ab_pre (ab_strip G) Ls X n y fb lb k = ab_pre G Ls X n y fb lb k := by
      funext A
      exact ab_pre_strip G Ls X n y fb lb k A
    have ih2 : ab_run (ab_strip G) Ls X n = ab_run G Ls X n := by
      funext y fb lb A
      exact ab_run_strip G Ls X n y fb lb A
    unfold ab_pre
    rw [ab_step_strip, ih, ih2]
    rfl
theorem ab_run_G (L : Nat) (xs : Nat → Int32) (Ls : Nat → Option Nat) (X : Nat → ab_V) (n y fb lb : Nat) (A : ab_S) : ab_run ft_G Ls X n y fb lb A = ab_run (mt_G L xs) Ls X n y fb lb A := by
  rw [ft_G_eq, ← ab_run_strip ab_G0, ← ab_run_strip (mt_G L xs), ab_G_same]
theorem ab_runc_G (L : Nat) (xs : Nat → Int32) (Ls : Nat → Option Nat) (X : Nat → ab_V) (sc : Nat → List ab_V → ab_H → Nat → Nat → Option ab_Q) (n y fb lb : Nat) (A : ab_S) : ab_runc ft_G Ls X sc n y fb lb A = ab_runc (mt_G L xs) Ls X sc n y fb lb A := by
  rw [ft_G_eq, ← ab_runc_strip ab_G0, ← ab_runc_strip (mt_G L xs), ab_G_same]
theorem ab_pre_G (L : Nat) (xs : Nat → Int32) (Ls : Nat → Option Nat) (X : Nat → ab_V) (n y fb lb k : Nat) (A : ab_S) : ab_pre ft_G Ls X n y fb lb k A = ab_pre (mt_G L xs) Ls X n y fb lb k A := by
  rw [ft_G_eq, ← ab_pre_strip ab_G0, ← ab_pre_strip (mt_G L xs), ab_G_same]
