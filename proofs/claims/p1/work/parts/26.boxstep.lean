/-! boxes: a step of the run, with what has no bytecode, and calls -/
/-- the tables without the script -/
def ab_strip (G : mv_G) : mv_G := (mv_gI G, mv_gF G, mv_gN G, mv_gA G, mv_gC G, mv_gK G, mv_gL G, mv_gH G, mv_gZ G, mv_gD G, mv_gT G, mv_gP G, mv_gQ G, mv_gY G, mv_gE G, mv_gR G, mv_gW G, mv_gX G, mv_gM G, fun _ => none)
theorem ab_ins_strip (G : mv_G) (y pc : Nat) (l : ab_L) (st : List ab_V) (h : ab_H) (cb sb n : Nat) (i : Instr) : ab_ins (ab_strip G) y pc l st h cb sb n i = ab_ins G y pc l st h cb sb n i := by
  cases i <;> rfl
def ab_okN (o : Option ab_S) (r : Option mv_S) : Prop := ∀ A, o = some A → ∃ S, r = some S ∧ ab_gS A S
theorem ab_okN_none {r : Option mv_S} : ab_okN none r := fun _ h => by cases h
theorem ab_okN_mk {pc : Nat} {l : ab_L} {st : List ab_V} {h : ab_H} {cb sb : Nat} {lo : List (Nat × Value)} {ss : List Value} {hp : List va_E} (hl : ab_gl l lo) (hs : ab_gs st ss) (hh : ab_gh h hp) : ab_okN (ab_mk pc l st h cb sb) (some (pc, lo, ss, hp, cb, sb)) := fun A q => by
  rw [ab_mk_eq] at q
  cases q
  exact ⟨_, rfl, rfl, hl, hs, hh, rfl, rfl⟩
section
variable (G : mv_G) (Ls : Nat → Option Nat) (X : Nat → ab_V) (y pc : Nat) (l : ab_L) (st : List ab_V) (h : ab_H) (cb sb fb lb : Nat)
def ab_copy : Option ab_S := match st with
  | .inl (.int n) :: .inl (.int dp) :: .inl (.ref a1) :: .inl (.int sp) :: .inl (.ref a0) :: r => match ab_at h a0, ab_at h a1 with
    | some (.inl (t0, n0, F)), some (.inl (t1, n1, E)) =>
      if (t0 = t1 ∧ t0 < 3) ∧ (¬ sp < 0 ∧ ¬ dp < 0 ∧ ¬ n < 0) ∧ sp.toNatClampNeg + n.toNatClampNeg ≤ n0 ∧ dp.toNatClampNeg + n.toNatClampNeg ≤ n1 ∧ (t0 = 0 ∨ n.toNatClampNeg = 0) ∧ 1 ≤ fb ∧ r.length + (nativeFrameWords "java/lang/System" "arraycopy" 5 + 11) ≤ lb then
        ab_fn sp.toNatClampNeg fun sp' => ab_fn dp.toNatClampNeg fun dp' => ab_fn n.toNatClampNeg fun n' => ab_mk (pc + 3) l r (bif Nat.beq n' 0 then h else ab_put h a1 (.inl (t1, n1, va_cpy F E sp' dp' n'))) cb sb
      else none
    | _, _ => none
  | _ => none
def ab_made : Option ab_S := match mv_gI G y (pc + 3), mv_gI G y (pc + 4), mv_gI G y (pc + 7) with
  | some (.dup, 1), some (.ldc_w i2, 3), some (.invokespecial i3, 3) => match mv_gK G y i2, mv_gC G y i3 with
    | some (.ref _), some (kd, _, _) =>
      if kd = 8 ∧ 1 ≤ cb ∧ 6 ≤ sb ∧ 6 ≤ fb ∧ st.length + 82 ≤ lb then ab_fn (cb - 1) fun cb' => ab_fn (sb - 6) fun sb' => ab_fn h.1 fun q => ab_mk (pc + 10) l (.inl (.ref q) :: st) (ab_app h (.inr (.inr (mv_gX G, 0, fun _ => .inl .null)))) cb' sb' else none
    | _, _ => none
  | _, _, _ => none
def ab_oini : Option ab_S := match st with
  | .inl (.ref _) :: r => if 1 ≤ fb ∧ r.length + 12 ≤ lb then ab_mk (pc + 3) l r h cb sb else none
  | _ => none
def ab_xald : Option ab_S := match st with
  | .inl (.int i) :: .inl (.ref a) :: r => match Ls a with
    | some n => bif !mv_out i n then ab_mk (pc + 1) l (X i.toNatClampNeg :: r) h cb sb else none
    | none => none
  | _ => none
def ab_xlen : Option ab_S := match st with
  | .inl (.ref a) :: r => match Ls a with
    | some n => ab_fi (Int32.ofNat n) fun w => ab_mk (pc + 1) l (.inl (.int w) :: r) h cb sb
    | none => none
  | _ => none
end
section ABN
variable {G : mv_G} {Ls : Nat → Option Nat} {X : Nat → ab_V} {y pc : Nat} {l : ab_L} {st : List ab_V} {h : ab_H} {cb sb fb lb : Nat} {lo : List (Nat × Value)} {ss : List Value} {hp : List va_E}
theorem ab_copy_ok (hl : ab_gl l lo) (hs : ab_gs st ss) (hh : ab_gh h hp) : ab_okN (ab_copy pc l st h cb sb fb lb) (mv_copy pc lo ss hp cb sb fb lb) := by
  unfold ab_copy
  split
  · rename_i n dp a1 sp a0 r
    obtain ⟨w1, r1, rfl, g1, hs1⟩ := ab_gs_cons hs
    obtain ⟨w2, r2, rfl, g2, hs2⟩ := ab_gs_cons hs1
    obtain ⟨w3, r3, rfl, g3, hs3⟩ := ab_gs_cons hs2
    obtain ⟨w4, r4, rfl, g4, hs4⟩ := ab_gs_cons hs3
    obtain ⟨w5, r5, rfl, g5, hs5⟩ := ab_gs_cons hs4
    rw [g1.1, g2.1, g3.1, g4.1, g5.1]
    split
    · rename_i t0 n0 F t1 n1 E h0 h1
      obtain ⟨e0, q0, f, rfl, hf⟩ := ab_at_ok hh h0
      obtain ⟨e1, q1, g, rfl, hg⟩ := ab_at_ok hh h1
      split
      · rename_i hc
        obtain ⟨c1, c2, c3, c4, c5, c6, c7⟩ := hc
        unfold mv_copy
        dsimp only
        rw [q0, q1]
        dsimp only
        have c8 : t0 = 0 ∨ (List.range n.toNatClampNeg).all (fun i => mv_fitT t0 (f (sp.toNatClampNeg + i))) = true := by
          rcases c5 with c5 | c5
          · exact Or.inl c5
          · rw [c5]
            exact Or.inr rfl
        rw [if_pos ⟨c1, c2, c3, c4, c8, c6, by rw [(ab_gs_cats hs5).1]; exact c7⟩]
        rw [ab_fn_eq, ab_fn_eq, ab_fn_eq]
        refine ab_okN_mk hl hs5 ?_
        have hcp : ∀ k, ab_g (va_cpy F E sp.toNatClampNeg dp.toNatClampNeg n.toNatClampNeg k) (.int (va_cpy f g sp.toNatClampNeg dp.toNatClampNeg n.toNatClampNeg k)) := by
          intro k
          unfold va_cpy
          split
          · exact hf _
          · exact hg _
        cases hb : Nat.beq n.toNatClampNeg 0 with
        | false => exact ab_put_ok hh ⟨_, rfl, hcp⟩
        | true =>
          have hz := Nat.eq_of_beq_eq_true hb
          have hfg : va_cpy f g sp.toNatClampNeg dp.toNatClampNeg n.toNatClampNeg = g := by
            funext k
            unfold va_cpy
            rw [if_neg (by omega)]
          rw [hfg]
          have hset : hp.set a1 (.inl (t1, n1, .inl g)) = hp := by
            apply List.ext_getElem?
            intro k
            rw [List.getElem?_set]
            split
            · rename_i hk
              subst hk
              rw [if_pos (List.getElem?_eq_some_iff.mp q1).1]
              exact q1.symm
            · rfl
          show ab_gh h (hp.set a1 (.inl (t1, n1, .inl g)))
          rw [hset]
          exact hh
      · exact ab_okN_none
    · exact ab_okN_none
  · exact ab_okN_none
theorem ab_made_ok (hl : ab_gl l lo) (hs : ab_gs st ss) (hh : ab_gh h hp) : ab_okN (ab_made G y pc l st h cb sb fb lb) (mv_made G y pc lo ss hp cb sb fb lb) := by
  unfold ab_made
  split
  · rename_i i2 i3 e3 e4 e7
    split
    · rename_i a kd z0 n0 hk hc
      split
      · rename_i hq
        have hm : mv_made G y pc lo ss hp cb sb fb lb = (if kd = 8 ∧ 1 ≤ cb ∧ 6 ≤ sb ∧ 6 ≤ fb ∧ (ss.map fun v => v.category).sum + 82 ≤ lb then some (pc + 10, lo, .ref hp.length :: ss, hp ++ [.inr (mv_gX G, [])], cb - 1, sb - 6) else none) := by
          unfold mv_made
          simp only [e3, e4, e7, hk, hc]
        rw [hm, if_pos (by rw [(ab_gs_cats hs).1]; exact hq), ab_fn_eq, ab_fn_eq, ab_fn_eq, ← hh.1]
        refine ab_okN_mk hl ⟨⟨rfl, rfl⟩, hs⟩ (ab_app_ok hh ⟨[], rfl, rfl, fun k v hv => ?_⟩)
        simp at hv
      · exact ab_okN_none
    · exact ab_okN_none
  · exact ab_okN_none
theorem ab_oini_ok (hl : ab_gl l lo) (hs : ab_gs st ss) (hh : ab_gh h hp) : ab_okN (ab_oini pc l st h cb sb fb lb) (mv_oini pc lo ss hp cb sb fb lb) := by
  unfold ab_oini
  split
  · rename_i a r
    obtain ⟨w1, r1, rfl, g1, hs1⟩ := ab_gs_cons hs
    rw [g1.1]
    split
    · rename_i hq
      unfold mv_oini
      dsimp only
      rw [if_pos ⟨hq.1, by rw [(ab_gs_cats hs1).1]; exact hq.2⟩]
      exact ab_okN_mk hl hs1 hh
    · exact ab_okN_none
  · exact ab_okN_none
theorem ab_xald_ok (hX : ∀ a n f, mv_gS G a = some (n, f) → ∀ k, ab_g (X k) (.int (f k))) (hL : ∀ a n, Ls a = some n → ∃ f, mv_gS G a = some (n, f)) (hl : ab_gl l lo) (hs : ab_gs st ss) (hh : ab_gh h hp) : ab_okN (ab_xald Ls X pc l st h cb sb) (mv_xald G pc lo ss hp cb sb) := by
  unfold ab_xald
  split
  · rename_i i a r
    obtain ⟨w1, r1, rfl, g1, hs1⟩ := ab_gs_cons hs
    obtain ⟨w2, r2, rfl, g2, hs2⟩ := ab_gs_cons hs1
    rw [g1.1, g2.1]
    split
    · rename_i n hn
      obtain ⟨f, hf⟩ := hL a n hn
      cases hb : mv_out i n with
      | true => exact ab_okN_none
      | false =>
        unfold mv_xald
        dsimp only
        rw [hf]
        dsimp only
        rw [if_pos hb]
        exact ab_okN_mk hl ⟨hX a n f hf _, hs2⟩ hh
    · exact ab_okN_none
  · exact ab_okN_none
theorem ab_xlen_ok (hL : ∀ a n, Ls a = some n → ∃ f, mv_gS G a = some (n, f)) (hl : ab_gl l lo) (hs : ab_gs st ss) (hh : ab_gh h hp) : ab_okN (ab_xlen Ls pc l st h cb sb) (mv_xlen G pc lo ss hp cb sb) := by
  unfold ab_xlen
  split
  · rename_i a r
    obtain ⟨w1, r1, rfl, g1, hs1⟩ := ab_gs_cons hs
    rw [g1.1]
    split
    · rename_i n hn
      obtain ⟨f, hf⟩ := hL a n hn
      unfold mv_xlen
      dsimp only
      rw [hf, ab_fi_eq]
      exact ab_okN_mk hl ⟨⟨rfl, rfl⟩, hs1⟩ hh
    · exact ab_okN_none
  · exact ab_okN_none
end ABN
