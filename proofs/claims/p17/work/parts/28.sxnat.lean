/-! sx holds: natives, ends, calls -/
section SXN
variable {G : mv_G} {kn : Nat → Nat → Option Int} {pv y d pc len : Nat} {Q : me_Q} {k : Nat → Nat → List (Option me_V) → List me_V → me_M → Prop} {L : List (Option me_V)} {st r : List me_V} {M : me_M} {hp : List va_E}
/-- a native: no change of memory -/
theorem so_nat {pc' : Nat} {st' : List me_V} (hal : me_al M L st → me_al M L st') (h : ∀ (fb lb : Nat) (lo : List (Nat × Value)) (hp : List va_E), d ≤ fb → 60 * d ≤ lb → me_al M L st → me_R G M hp → mv_nat G y fb lb (pc, lo, st.map me_v, hp, M.2.2.2.2.1, M.2.2.2.2.2) = some (pc', lo, st'.map me_v, hp, M.2.2.2.2.1, M.2.2.2.2.2)) (kk : me_W G y d pc' L st' M Q) : me_W G y d pc L st M Q := by
  intro fb lb lo hp g1 g2 g3 g4 g5
  obtain ⟨o, M', hp', k1, k2⟩ := kk fb lb lo hp g1 g2 g3 (hal g4) g5
  exact ⟨o, M', hp', me_na (h fb lb lo hp g1 g2 g4 g5) k1, k2⟩
theorem so_slen {idx j z n : Nat} {tx : List Int32} (hI : mv_gI G y pc = some (.invokevirtual idx, 3)) (hC : mv_gC G y idx = some (10, z, n)) (hx : mv_gX2 G (mv_big + 1 + j) = some tx) (hr : r.length ≤ 8) (hd : 4 ≤ d) (kk : me_W G y d (pc + 3) L (.inl (tx.length : Int) :: r) M Q) : me_W G y d pc L (.inr (.inr j) :: r) M Q := by
  refine so_nat (fun h => me_al_psh (v := .inl (tx.length : Int)) (me_al_pop h) trivial) (fun fb lb lo hp g1 g2 _ _ => ?_) kk
  unfold mv_nat
  simp only [hI, hC]
  show mv_slen G pc lo (.ref (mv_big + 1 + j) :: r.map me_v) hp _ _ fb lb = _
  unfold mv_slen
  simp only [hx]
  rw [if_pos ⟨by omega, by omega, by rw [me_cats]; exact hr⟩]
  rfl
theorem so_schr {idx j z n : Nat} {i : Int} {tx : List Int32} (hI : mv_gI G y pc = some (.invokevirtual idx, 3)) (hC : mv_gC G y idx = some (11, z, n)) (hx : mv_gX2 G (mv_big + 1 + j) = some tx) (hr : r.length ≤ 8) (hd : 4 ≤ d) (h0 : 0 ≤ i) (h1 : i < (tx.length : Int)) (h2 : tx.length ≤ 2147483647) (kk : me_W G y d (pc + 3) L (.inl (st_ch (tx.getD i.toNat 0)).toInt :: r) M Q) : me_W G y d pc L (.inl i :: .inr (.inr j) :: r) M Q := by
  refine so_nat (fun h => me_al_psh (v := .inl (st_ch (tx.getD i.toNat 0)).toInt) (me_al_pop (me_al_pop h)) trivial) (fun fb lb lo hp g1 g2 _ _ => ?_) kk
  obtain ⟨e1, e2⟩ := me_out h0 h1 ⟨by omega, by omega⟩
  unfold mv_nat
  simp only [hI, hC]
  show mv_schr G pc lo (.int (Int32.ofInt i) :: .ref (mv_big + 1 + j) :: r.map me_v) hp _ _ fb lb = _
  unfold mv_schr
  simp only [hx]
  rw [if_pos ⟨e1, by omega, by omega, by rw [me_cats]; exact hr⟩, e2]
  show _ = some (pc + 3, lo, .int (Int32.ofInt (st_ch (tx.getD i.toNat 0)).toInt) :: r.map me_v, hp, _, _)
  rw [me_of]
theorem so_oini {idx z n : Nat} {p : Nat} {q : Nat × Nat} (hI : mv_gI G y pc = some (.invokespecial idx, 3)) (hC : mv_gC G y idx = some (9, z, n)) (hr : r.length + 12 ≤ 60) (hd : 1 ≤ d) (kk : me_W G y d (pc + 3) L r M Q) : me_W G y d pc L (.inr (.inl (some p, q)) :: r) M Q := by
  refine so_nat (fun h => me_al_pop h) (fun fb lb lo hp g1 g2 _ _ => ?_) kk
  unfold mv_nat
  simp only [hI, hC]
  show mv_oini pc lo (.ref p :: r.map me_v) hp _ _ fb lb = _
  unfold mv_oini
  dsimp only
  rw [if_pos ⟨by omega, by rw [me_cats]; omega⟩]
theorem so_cpw : nativeFrameWords "java/lang/System" "arraycopy" 5 + 11 ≤ 40 := by decide +kernel
theorem so_copy {idx z n9 a0 a1 t n0 n1 : Nat} {sp dp n : Int} (hI : mv_gI G y pc = some (.invokestatic idx, 3)) (hC : mv_gC G y idx = some (7, z, n9)) (ht : t < 3) (hr : r.length + 40 ≤ 60) (hd : 1 ≤ d) (h1 : 0 ≤ sp) (h2 : 0 ≤ dp) (h3 : 0 ≤ n) (h4 : sp + n ≤ n0) (h5 : dp + n ≤ n1) (kk : me_W G y d (pc + 3) L r (me_cp M a0 a1 sp.toNat dp.toNat n.toNat) Q) : me_W G y d pc L (.inl n :: .inl dp :: .inr (.inl (some a1, 2 * t, n1)) :: .inl sp :: .inr (.inl (some a0, 2 * t, n0)) :: r) M Q := by
  intro fb lb lo hp g1 g2 g3 g4 g5
  obtain ⟨b1, b2⟩ := me_hd (me_al_pop (me_al_pop g4))
  obtain ⟨c1, c2⟩ := me_hd (me_al_pop (me_al_pop (me_al_pop (me_al_pop g4))))
  have l0 : n0 ≤ 134217728 := by
    have := g5.2.2.2.2.2.1 a0 c1
    rw [c2] at this
    exact this
  have l1 : n1 ≤ 134217728 := by
    have := g5.2.2.2.2.2.1 a1 b1
    rw [b2] at this
    exact this
  have i1 : ∀ x : Int, 0 ≤ x → x ≤ 134217728 → (Int32.ofInt x).toNatClampNeg = x.toNat ∧ ¬ Int32.ofInt x < 0 := by
    intro x hx0 hx1
    have e : (Int32.ofInt x).toInt = x := me_w_eq ⟨by omega, by omega⟩
    refine ⟨by show (Int32.ofInt x).toInt.toNat = _; rw [e], ?_⟩
    rw [Int32.lt_iff_toInt_lt, e]
    have : (0 : Int32).toInt = 0 := rfl
    omega
  obtain ⟨s1, s2⟩ := i1 sp h1 (by omega)
  obtain ⟨d1, d2⟩ := i1 dp h2 (by omega)
  obtain ⟨n2, n3⟩ := i1 n h3 (by omega)
  have hfit : ∀ j, t = 0 ∨ mv_fitT t (M.2.2.1 a0 j) = true := by
    intro j
    have z := g5.2.2.2.2.2.2 a0 c1 j
    rw [c2] at z
    have ht3 : t = 0 ∨ t = 1 ∨ t = 2 := by omega
    rcases ht3 with rfl | rfl | rfl
    · exact Or.inl rfl
    · exact Or.inr (z.1 rfl)
    · exact Or.inr (z.2 rfl)
  have eI : (me_cp M a0 a1 sp.toNat dp.toNat n.toNat).2.2.1 a1 = va_cpy (M.2.2.1 a0) (M.2.2.1 a1) sp.toNat dp.toNat n.toNat := by
    funext j
    exact if_pos rfl
  have hR := me_R_set (M1 := me_cp M a0 a1 sp.toNat dp.toNat n.toNat) g5 b1 rfl rfl (fun b hb => ⟨by funext j; exact if_neg hb, rfl⟩) rfl g5.2.2.2.1 g5.2.2.2.2.1 (fun b hb j => by
    show ((M.2.1 b).1 = 2 → mv_fitT 1 (if b = a1 then va_cpy (M.2.2.1 a0) (M.2.2.1 a1) sp.toNat dp.toNat n.toNat j else M.2.2.1 b j) = true) ∧ ((M.2.1 b).1 = 4 → mv_fitT 2 (if b = a1 then va_cpy (M.2.2.1 a0) (M.2.2.1 a1) sp.toNat dp.toNat n.toNat j else M.2.2.1 b j) = true)
    by_cases e : b = a1
    · subst e
      rw [if_pos rfl, b2]
      unfold va_cpy
      split
      · have z := g5.2.2.2.2.2.2 a0 c1 (sp.toNat + (j - dp.toNat))
        rw [c2] at z
        exact z
      · have z := g5.2.2.2.2.2.2 b b1 j
        rw [b2] at z
        exact z
    · rw [if_neg e]
      exact g5.2.2.2.2.2.2 b hb j)
  have hc : me_c G (M.2.1 a1) ((me_cp M a0 a1 sp.toNat dp.toNat n.toNat).2.2.1 a1) (M.2.2.2.1 a1) = .inl (t, n1, .inl (va_cpy (M.2.2.1 a0) (M.2.2.1 a1) sp.toNat dp.toNat n.toNat)) := by
    rw [eI]
    unfold me_c
    rw [b2, if_neg (by show ¬ 2 * t % 2 = 1; omega), if_pos (by show 2 * t / 2 < 3; omega), show ((2 * t, n1) : Nat × Nat).1 / 2 = t by show 2 * t / 2 = t; omega]
  obtain ⟨o, M', hp', k1, k2⟩ := kk fb lb lo _ g1 g2 g3 (me_al_pop (me_al_pop (me_al_pop (me_al_pop (me_al_pop g4))))) hR
  refine ⟨o, M', hp', me_na (S' := (pc + 3, lo, r.map me_v, _, M.2.2.2.2.1, M.2.2.2.2.2)) ?_ k1, k2⟩
  unfold mv_nat
  simp only [hI, hC]
  show mv_copy pc lo (.int (Int32.ofInt n) :: .int (Int32.ofInt dp) :: .ref a1 :: .int (Int32.ofInt sp) :: .ref a0 :: r.map me_v) hp _ _ fb lb = _
  unfold mv_copy
  dsimp only
  rw [me_cell_i g5 c1 c2 ht, me_cell_i g5 b1 b2 ht]
  dsimp only
  have words := so_cpw
  rw [if_pos ⟨⟨rfl, ht⟩, ⟨s2, d2, n3⟩, by rw [s1, n2]; omega, by rw [d1, n2]; omega, by
    rcases hfit 0 with h | _
    · exact Or.inl h
    · by_cases t0 : t = 0
      · exact Or.inl t0
      · refine Or.inr (List.all_eq_true.mpr fun j _ => ?_)
        rcases hfit ((Int32.ofInt sp).toNatClampNeg + j) with h | h
        · exact absurd h t0
        · exact h, by omega, by rw [me_cats]; omega⟩, s1, d1, n2]
  show some (pc + 3, lo, r.map me_v, hp.set a1 _, _, _) = some (pc + 3, lo, r.map me_v, hp.set a1 (me_c G (M.2.1 a1) _ (M.2.2.2.1 a1)), _, _)
  rw [hc]
/-- it ends here -/
theorem so_ret {i : Instr} {o : me_O} (hI : mv_gI G y pc = some (i, 1)) (hn : ∀ (fb lb : Nat) (lo : List (Nat × Value)) (hp : List va_E) (cb sb : Nat), mv_nat G y fb lb (pc, lo, st.map me_v, hp, cb, sb) = none) (v : Option Value) (ho : me_o o = .inr v) (hx : ∀ (lo : List (Nat × Value)) (hp : List va_E) (cb sb : Nat), mv_exec G y (pc, lo, st.map me_v, hp, cb, sb) = some (.inr (.inr (.inl v)))) (ha : me_al M L st → me_oa G M o) (kk : Q o M) : me_W G y d pc L st M Q := by
  intro fb lb lo hp g1 g2 g3 g4 g5
  refine ⟨o, M, hp, ⟨1, ?_⟩, g5, me_ext.rf _, ha g4, kk⟩
  rw [mv_run, hn]
  dsimp only
  rw [hx, ho]
theorem so_iret {x : Int} {ty : FieldType} (hI : mv_gI G y pc = some (.ireturn, 1)) (hR : mv_gR G y = some ty) (hx : narrow ty (.int (Int32.ofInt x)) = .int (Int32.ofInt x)) (kk : Q (.inr (some (.inl x))) M) : me_W G y d pc L [.inl x] M Q := by
  refine so_ret (o := .inr (some (.inl x))) hI (fun fb lb lo hp cb sb => by unfold mv_nat; simp only [hI]) (some (.int (Int32.ofInt x))) rfl (fun lo hp cb sb => ?_) (fun _ => trivial) kk
  unfold mv_exec
  simp only [hI]
  show mv_g 1 1 (mv_iret G y [.int (Int32.ofInt x)]) = _
  unfold mv_g mv_iret
  rw [if_pos rfl]
  dsimp only
  rw [hR]
  dsimp only
  rw [if_pos hx]
theorem so_aret {q : Option Nat × Nat × Nat} {ty : FieldType} (hI : mv_gI G y pc = some (.areturn, 1)) (hR : mv_gR G y = some ty) (hr : ty.isReference = true) (kk : Q (.inr (some (.inr (.inl q)))) M) : me_W G y d pc L [.inr (.inl q)] M Q := by
  refine so_ret (o := .inr (some (.inr (.inl q)))) hI (fun fb lb lo hp cb sb => by unfold mv_nat; simp only [hI]) (some (va_rf q.1)) rfl (fun lo hp cb sb => ?_) (fun h => me_hd h) kk
  unfold mv_exec
  simp only [hI]
  show mv_g 1 1 (mv_aret G y [va_rf q.1]) = _
  unfold mv_g mv_aret
  rw [if_pos rfl]
  dsimp only
  rw [hR]
  dsimp only
  rw [if_pos ⟨hr, by cases q.1 <;> rfl⟩]
theorem so_vret (hI : mv_gI G y pc = some (.return_, 1)) (hR : mv_gR G y = none) (kk : Q (.inr none) M) : me_W G y d pc L [] M Q := by
  refine so_ret (o := .inr none) hI (fun fb lb lo hp cb sb => by unfold mv_nat; simp only [hI]) none rfl (fun lo hp cb sb => ?_) (fun _ => trivial) kk
  unfold mv_exec
  simp only [hI]
  show mv_g 1 1 (mv_vret G y []) = _
  unfold mv_g mv_vret
  rw [if_pos rfl]
  dsimp only
  rw [hR]
theorem so_throw {a : Nat} (hI : mv_gI G y pc = some (.athrow, 1)) (kk : me_thr G y d pc L a M Q) : me_W G y d pc L (.inr (.inl (some a, 2 * mv_gX G + 1, 0)) :: r) M Q := by
  intro fb lb lo hp g1 g2 g3 g4 g5
  obtain ⟨o, M2, hp2, ⟨n2, hle, j1⟩, j2⟩ := me_take (m := 0) (st9 := (.inr (.inl (some a, 2 * mv_gX G + 1, 0)) :: r : List me_V).map me_v) g1 g2 g3 g4.1 g5 (me_hd g4) kk
  refine ⟨o, M2, hp2, ⟨n2 + 1, ?_⟩, j2⟩
  have hn : mv_nat G y fb lb (pc, lo, (.inr (.inl (some a, 2 * mv_gX G + 1, 0)) :: r : List me_V).map me_v, hp, M.2.2.2.2.1, M.2.2.2.2.2) = none := by
    unfold mv_nat
    simp only [hI]
  have hx : mv_exec G y (pc, lo, (.inr (.inl (some a, 2 * mv_gX G + 1, 0)) :: r : List me_V).map me_v, hp, M.2.2.2.2.1, M.2.2.2.2.2) = some (.inr (.inr (.inr a))) := by
    unfold mv_exec
    simp only [hI]
    rfl
  rw [mv_run, hn]
  dsimp only
  rw [hx]
  exact j1
theorem so_back {z : Nat} (hk : ∀ d pc L st M, k d pc L st M → me_W G y d pc L st M Q) {o : me_O} {M' : me_M} (h : sx_back G Q k y d pc len z L r o M') : me_back G y d pc len L r Q o M' := by
  unfold sx_back at h
  unfold me_back
  rcases o with a | _ | x | ⟨p, q⟩ | j
  · dsimp only at h ⊢
    unfold me_thr
    split at h
    · rename_i e
      rw [e]
      exact h
    · rename_i h9 ct e
      rw [e]
      exact hk _ _ _ _ _ h
  · exact hk _ _ _ _ _ h
  · exact hk _ _ _ _ _ h
  · dsimp only at h ⊢
    obtain ⟨h1, h2⟩ := h
    obtain ⟨q1, q2⟩ := q
    dsimp only at h1
    subst h1
    split at h2
    · obtain ⟨h3, h4⟩ := h2
      dsimp only at h3
      subst h3
      exact hk _ _ _ _ _ h4
    · exact hk _ _ _ _ _ h2
  · exact h.elim
theorem so_call {z : Nat} {as : List me_V} {st9 : List Value} (hk : ∀ d pc L st M, k d pc L st M → me_W G y d pc L st M Q)
    (hn : ∀ (fb lb : Nat) (lo : List (Nat × Value)) (hp : List va_E) (cb sb : Nat), mv_nat G y fb lb (pc, lo, st9, hp, cb, sb) = none)
    (hx : ∀ (lo : List (Nat × Value)) (hp : List va_E) (cb sb : Nat), me_al M L st → me_R G M hp → mv_exec G y (pc, lo, st9, hp, cb, sb) = some (.inr (.inl (z, as.map me_v, r.map me_v, 3))))
    (h9 : st.map me_v = st9) (hal : me_al M L st → me_al M L r ∧ ∀ v ∈ as, me_an M v) (h : sx_call G Q k y d pc 3 z as L r M) : me_W G y d pc L st M Q := by
  obtain ⟨hb, d', rfl, h⟩ := sx_b_eq h
  rw [Bool.and_eq_true] at hb
  intro fb lb lo hp g1 g2 g3 g4 g5
  refine me_call (z := z) (len := 3) (as := as) (r := r) (st9 := st9) (Nat.le_of_ble_eq_true hb.1) (Nat.le_of_ble_eq_true hb.2) hn (fun lo hp cb sb h5 => hx lo hp cb sb g4 h5) h9 hal (h.mono fun o M' _ z => so_back hk z) fb lb lo hp g1 g2 g3 g4 g5
end SXN
