/-! the rules of me_: what is made, calls, ends, natives -/
theorem me_args_at : ∀ (vs : List me_V) (i j k : Nat) (v : me_V), vs[j]? = some v → mv_find (i + j) (lv_args i (vs.map me_v)) k = some (k + j, me_v v)
  | [], _, _, _, _, h => by simp at h
  | w :: r, i, j, k, v, h => by
    rw [List.map_cons, lv_args]
    unfold mv_find
    rcases j with _ | j
    · rw [if_pos (by rfl)]
      simp at h
      rw [h]
      rfl
    · have e : (if (me_v w).category = 2 then i + 2 else i + 1) = i + 1 := by rw [me_v_cat]; rfl
      rw [if_neg (by show ¬ i = i + (j + 1); omega), e, show i + (j + 1) = i + 1 + j by omega, show k + (j + 1) = k + 1 + j by omega]
      exact me_args_at r (i + 1) j (k + 1) v (by simpa using h)
theorem me_args (as : List me_V) (m : Nat) : me_lo (as.map some ++ List.replicate m none) (lv_args 0 (as.map me_v)) := by
  intro i v h
  by_cases hi : i < as.length
  · rw [List.getElem?_append_left (by rw [List.length_map]; exact hi), List.getElem?_map] at h
    rw [Option.map_eq_some_iff] at h
    obtain ⟨w, h1, h2⟩ := h
    cases h2
    have := me_args_at as 0 i 0 v h1
    rw [Nat.zero_add] at this
    exact ⟨_, this⟩
  · rw [List.getElem?_append_right (by rw [List.length_map]; omega), List.getElem?_replicate] at h
    split at h <;> cases h
theorem me_sl (as : List me_V) : (lg_sl (as.map me_v)).length = as.length := by
  induction as with
  | nil => rfl
  | cons v r ih =>
    rw [List.map_cons]
    unfold lg_sl at ih ⊢
    rw [List.flatMap_cons, List.length_append, ih, if_neg (by rw [me_v_cat]; decide)]
    simp
    omega
theorem me_cats (r : List me_V) : ((r.map me_v).map fun v => v.category).sum = r.length := by
  induction r with
  | nil => rfl
  | cons v r ih =>
    rw [List.map_cons, List.map_cons, List.sum_cons, ih, me_v_cat, List.length_cons]
    omega
section MET
variable {G : mv_G} {y d pc : Nat} {L : List (Option me_V)} {st r : List me_V} {M : me_M} {Q : me_Q} {hp : List va_E}
theorem me_nw_ext (M : me_M) (q : Nat × Nat) (s : Nat) : me_ext M (me_nw M q s) := ⟨Nat.le_succ _, fun a ha => if_neg (by omega)⟩
theorem me_nw_R {q : Nat × Nat} {s : Nat} (h : me_R G M hp) (hle : q.2 ≤ 134217728) (hc : 1 ≤ M.2.2.2.2.1) (hq : q.1 % 2 = 1 → (q.1 ≠ 15 → q.2 = 0) ∧ ∀ k, sx_fin (q.1 / 2) q.2 k = none) : me_R G (me_nw M q s) (hp ++ [me_c G q (fun _ => 0) (fun _ => none)]) := by
  have hlen := h.1
  refine ⟨by rw [List.length_append, h.1]; rfl, ?_, fun a ha => ?_, fun a ha => ?_, fun a ha => ?_, fun a ha => ?_, fun a ha i => ?_⟩
  · show M.1 + 1 + (M.2.2.2.2.1 - 1) ≤ 2000000
    have := h.2.1
    omega
  · show (hp ++ [_])[a]? = some (me_c G (if a = M.1 then q else M.2.1 a) (fun j => if a = M.1 then 0 else M.2.2.1 a j) (fun j => if a = M.1 then none else M.2.2.2.1 a j))
    by_cases e : a = M.1
    · subst e
      rw [List.getElem?_append_right (by omega), h.1, Nat.sub_self]
      simp only [if_pos]
      rfl
    · have ha : a < M.1 := by
        have : a < M.1 + 1 := ha
        omega
      rw [List.getElem?_append_left (by omega), h.2.2.1 a ha]
      simp only [if_neg e]
  · show ((if a = M.1 then q else M.2.1 a).1 % 2 = 1 → ((if a = M.1 then q else M.2.1 a).1 ≠ 15 → (if a = M.1 then q else M.2.1 a).2 = 0) ∧ ∀ k b, me_ik G ((if a = M.1 then q else M.2.1 a).1 / 2) k = false → (if a = M.1 then none else M.2.2.2.1 a k) = some b → b < M.1 + 1 ∧ (if b = M.1 then q else M.2.1 b).1 = sx_fk ((if a = M.1 then q else M.2.1 a).1 / 2) k) ∧ ((if a = M.1 then q else M.2.1 a).1 % 2 = 0 → 3 ≤ (if a = M.1 then q else M.2.1 a).1 / 2 → ∀ i b, (if a = M.1 then none else M.2.2.2.1 a i) = some b → b < M.1 + 1 ∧ (if b = M.1 then q else M.2.1 b).1 = sx_ek ((if a = M.1 then q else M.2.1 a).1 / 2))
    by_cases e : a = M.1
    · simp only [if_pos e]
      exact ⟨fun ho => ⟨(hq ho).1, fun k b _ hb => by cases hb⟩, fun _ _ i b hb => by cases hb⟩
    · simp only [if_neg e]
      have ha : a < M.1 := by
        have : a < M.1 + 1 := ha
        omega
      have h1 := h.2.2.2.1 a ha
      refine ⟨fun ho => ⟨(h1.1 ho).1, fun k b hk hb => ?_⟩, fun he h3 i b hb => ?_⟩
      · obtain ⟨z1, z2⟩ := (h1.1 ho).2 k b hk hb
        exact ⟨by omega, by rw [if_neg (by omega)]; exact z2⟩
      · obtain ⟨z1, z2⟩ := h1.2 he h3 i b hb
        exact ⟨by omega, by rw [if_neg (by omega)]; exact z2⟩
  · show (if a = M.1 then q else M.2.1 a).1 % 2 = 1 → ∀ k sg off q', sx_fin ((if a = M.1 then q else M.2.1 a).1 / 2) (if a = M.1 then q else M.2.1 a).2 k = some (sg, off, q') → (if a = M.1 then none else M.2.2.2.1 a k) = some (sx_tg a sg off) ∧ sx_tg a sg off < M.1 + 1 ∧ (if sx_tg a sg off = M.1 then q else M.2.1 (sx_tg a sg off)) = q'
    by_cases e : a = M.1
    · simp only [if_pos e]
      intro ho k sg off q' hf
      rw [(hq ho).2 k] at hf
      cases hf
    · simp only [if_neg e]
      have ha : a < M.1 := by
        have : a < M.1 + 1 := ha
        omega
      intro ho k sg off q' hf
      obtain ⟨z1, z2, z3⟩ := h.2.2.2.2.1 a ha ho k sg off q' hf
      exact ⟨z1, by omega, by rw [if_neg (by omega)]; exact z3⟩
  · show (if a = M.1 then q else M.2.1 a).2 ≤ _
    by_cases e : a = M.1
    · rw [if_pos e]
      exact hle
    · rw [if_neg e]
      have ha : a < M.1 + 1 := ha
      exact h.2.2.2.2.2.1 a (by omega)
  · show ((if a = M.1 then q else M.2.1 a).1 = 2 → mv_fitT 1 (if a = M.1 then 0 else M.2.2.1 a i) = true) ∧ ((if a = M.1 then q else M.2.1 a).1 = 4 → mv_fitT 2 (if a = M.1 then 0 else M.2.2.1 a i) = true)
    by_cases e : a = M.1
    · rw [if_pos e, if_pos e]
      exact ⟨fun _ => by decide, fun _ => by decide⟩
    · rw [if_neg e, if_neg e]
      have ha : a < M.1 + 1 := ha
      exact h.2.2.2.2.2.2 a (by omega) i
theorem me_new {idx ci : Nat} (hI : mv_gI G y pc = some (.new idx, 3)) (hN : mv_gN G y idx = some ci) (hX : ci ≠ mv_gX G) (hD : me_fs G ci (fun _ => 0) (fun _ => none) = mv_gD G ci) (hs : ∀ k, sx_fin ci 0 k = none) (hc : 1 ≤ M.2.2.2.2.1) (hb : mv_gZ G ci ≤ M.2.2.2.2.2) (kk : me_W G y d (pc + 3) L (.inr (.inl (some M.1, 2 * ci + 1, 0)) :: st) (me_nw M (2 * ci + 1, 0) (mv_gZ G ci)) Q) : me_W G y d pc L st M Q := by
  intro fb lb lo hp g1 g2 g3 g4 g5
  have hR := me_nw_R (q := (2 * ci + 1, 0)) (s := mv_gZ G ci) g5 (Nat.zero_le _) hc (fun _ => ⟨fun _ => rfl, fun k => by show sx_fin ((2 * ci + 1) / 2) 0 k = none; rw [show (2 * ci + 1) / 2 = ci by omega]; exact hs k⟩)
  have hal : me_al (me_nw M (2 * ci + 1, 0) (mv_gZ G ci)) L (.inr (.inl (some M.1, 2 * ci + 1, 0)) :: st) := me_al_psh (g4.ext (me_nw_ext _ _ _)) ⟨Nat.lt_succ_self _, if_pos rfl⟩
  obtain ⟨o, M', hp', k1, k2, k3, k4⟩ := kk fb lb lo _ g1 g2 g3 hal hR
  refine ⟨o, M', hp', me_ex (S' := (pc + 3, lo, (.inr (.inl (some M.1, 2 * ci + 1, 0)) :: st).map me_v, _, M.2.2.2.2.1 - 1, M.2.2.2.2.2 - mv_gZ G ci)) ?_ ?_ k1, k2, (me_nw_ext _ _ _).tr k3, k4⟩
  · unfold mv_nat
    simp only [hI, hN]
    rw [if_neg hX]
  · unfold mv_exec
    simp only [hI]
    show mv_og (mv_g 3 3 (mv_new G y pc lo (st.map me_v) hp _ _ idx)) = _
    unfold mv_g mv_new
    rw [if_pos rfl, hN]
    dsimp only
    rw [if_pos ⟨hc, hb⟩, g5.1]
    have e : me_c G (2 * ci + 1, 0) (fun _ => 0) (fun _ => none) = .inr (ci, mv_gD G ci) := by
      unfold me_c
      rw [if_pos (by show (2 * ci + 1) % 2 = 1; omega), show ((2 * ci + 1, 0) : Nat × Nat).1 / 2 = ci by show (2 * ci + 1) / 2 = ci; omega, hD]
    rw [e]
    rfl
theorem me_newa {at_ : ArrayType} {t : Nat} {n : Int} (hI : mv_gI G y pc = some (.newarray at_, 2)) (hp9 : mv_prim at_ = some t) (ht : t < 3) (h0 : 0 ≤ n) (h1 : n ≤ 134217728) (hc : 1 ≤ M.2.2.2.2.1) (hb : n.toNat ≤ M.2.2.2.2.2) (kk : me_W G y d (pc + 2) L (.inr (.inl (some M.1, 2 * t, n.toNat)) :: r) (me_nw M (2 * t, n.toNat) n.toNat) Q) : me_W G y d pc L (.inl n :: r) M Q := by
  have hR0 : me_r n := ⟨by omega, by omega⟩
  have e1 : (Int32.ofInt n).toInt = n := me_w_eq hR0
  have e2 : (Int32.ofInt n).toNatClampNeg = n.toNat := by
    show (Int32.ofInt n).toInt.toNat = _
    rw [e1]
  refine me_sm (pc' := pc + 2) (M1 := me_nw M (2 * t, n.toNat) n.toNat) (st' := .inr (.inl (some M.1, 2 * t, n.toNat)) :: r) hI rfl (fun lo hp g4 g5 => ?_) ?_
  · refine ⟨_, ?_, me_nw_R (q := (2 * t, n.toNat)) (s := n.toNat) g5 (by show n.toNat ≤ _; omega) hc (fun z => by have z : 2 * t % 2 = 1 := z; omega), me_nw_ext _ _ _, me_al_psh ((me_al_pop g4).ext (me_nw_ext _ _ _)) ⟨Nat.lt_succ_self _, if_pos rfl⟩⟩
    show mv_g 2 2 (mv_newa pc lo (.int (Int32.ofInt n) :: r.map me_v) hp _ _ at_) = _
    unfold mv_g mv_newa
    rw [if_pos rfl]
    dsimp only
    rw [hp9]
    dsimp only
    rw [e2, if_pos ⟨by rw [Int32.lt_iff_toInt_lt, e1]; have : (0 : Int32).toInt = 0 := rfl; omega, by omega, hc, hb⟩, g5.1]
    have e : me_c G (2 * t, n.toNat) (fun _ => 0) (fun _ => none) = .inl (t, n.toNat, .inl (fun _ => 0)) := by
      unfold me_c
      rw [if_neg (by show ¬ 2 * t % 2 = 1; omega), if_pos (by show 2 * t / 2 < 3; omega), show ((2 * t, n.toNat) : Nat × Nat).1 / 2 = t by show 2 * t / 2 = t; omega]
    rw [e]
    rfl
  · exact kk
/-- where what is thrown goes -/
def me_thr (G : mv_G) (y d pc : Nat) (L : List (Option me_V)) (a : Nat) (M : me_M) (Q : me_Q) : Prop := match mv_hand (mv_gH G y) pc with
  | none => Q (.inl a) M
  | some (h, _) => me_W G y d h L [.inr (.inl (some a, 2 * mv_gX G + 1, 0))] M Q
/-- what a call's end leads to -/
def me_back (G : mv_G) (y d pc len : Nat) (L : List (Option me_V)) (r : List me_V) (Q : me_Q) : me_Q := fun o M => match o with
  | .inr (some v) => me_W G y d (pc + len) L (v :: r) M Q
  | .inr none => me_W G y d (pc + len) L r M Q
  | .inl a => me_thr G y d pc L a M Q
theorem me_take {fb lb : Nat} {lo : List (Nat × Value)} {st9 : List Value} {a m : Nat} (h1 : d ≤ fb) (h2 : 60 * d ≤ lb) (h3 : me_lo L lo) (h4 : ∀ v, some v ∈ L → me_an M v) (h5 : me_R G M hp) (ha : a < M.1 ∧ M.2.1 a = (2 * mv_gX G + 1, 0)) (k : me_thr G y d pc L a M Q) : ∃ (o : me_O) (M' : me_M) (hp' : List va_E), (∃ n, m ≤ n ∧ mv_take G y (mv_run G n y fb lb) a (pc, lo, st9, hp, M.2.2.2.2.1, M.2.2.2.2.2) = some (me_o o, hp', M'.2.2.2.2.1, M'.2.2.2.2.2)) ∧ me_R G M' hp' ∧ me_ext M M' ∧ me_oa G M' o ∧ Q o M' := by
  unfold me_thr at k
  unfold mv_take
  cases hh : mv_hand (mv_gH G y) pc with
  | none =>
    rw [hh] at k
    exact ⟨.inl a, M, hp, ⟨m, Nat.le_refl _, rfl⟩, h5, me_ext.rf _, ha, k⟩
  | some q =>
    obtain ⟨h, ct⟩ := q
    rw [hh] at k
    obtain ⟨o, M', hp', ⟨n, k1⟩, k2⟩ := k fb lb lo hp h1 h2 h3 ⟨h4, fun v hv => by
      rcases List.mem_singleton.mp hv with rfl
      exact ha⟩ h5
    refine ⟨o, M', hp', ⟨m + n, Nat.le_add_right _ _, ?_⟩, k2⟩
    dsimp only
    rw [me_cell_ob (ci := mv_gX G) h5 ha.1 ha.2 rfl]
    dsimp only
    rw [if_pos rfl]
    exact mv_fuel G (Nat.le_add_left _ _) k1
/-- a call of method z -/
theorem me_call {z len : Nat} {as : List me_V} {st9 : List Value} (hL : as.length ≤ mv_gL G z) (hb : r.length + (mv_gL G z + 11) ≤ 60)
    (hn : ∀ (fb lb : Nat) (lo : List (Nat × Value)) (hp : List va_E) (cb sb : Nat), mv_nat G y fb lb (pc, lo, st9, hp, cb, sb) = none)
    (hx : ∀ (lo : List (Nat × Value)) (hp : List va_E) (cb sb : Nat), me_R G M hp → mv_exec G y (pc, lo, st9, hp, cb, sb) = some (.inr (.inl (z, as.map me_v, r.map me_v, len))))
    (h9 : st.map me_v = st9) (hal : me_al M L st → me_al M L r ∧ ∀ v ∈ as, me_an M v)
    (kk : me_W G z d 0 (as.map some ++ List.replicate (mv_gL G z - as.length) none) [] M (me_back G y (d + 1) pc len L r Q)) : me_W G y (d + 1) pc L st M Q := by
  intro fb lb lo hp g1 g2 g3 g4 g5
  obtain ⟨a1, a2⟩ := hal g4
  obtain ⟨o, M', hp', ⟨n, k1⟩, k2, k3, k4, k5⟩ := kk (fb - 1) (lb - (((r.map me_v).map fun v => v.category).sum + (mv_gL G z + 11))) (lv_args 0 (as.map me_v)) hp (by omega) (by rw [me_cats]; omega) (me_args as _) ⟨fun v hv => by
    rcases List.mem_append.mp hv with hv | hv
    · obtain ⟨w, hw, e⟩ := List.mem_map.mp hv
      cases e
      exact a2 v hw
    · exact absurd (List.eq_of_mem_replicate hv) (by simp), fun v hv => by cases hv⟩ g5
  rw [h9]
  have room : 1 ≤ fb ∧ ((r.map me_v).map fun v => v.category).sum + (mv_gL G z + 11) ≤ lb ∧ (lg_sl (as.map me_v)).length ≤ mv_gL G z := ⟨by omega, by rw [me_cats]; omega, by rw [me_sl]; exact hL⟩
  have run : ∀ n', mv_run G (n' + 1) y fb lb (pc, lo, st9, hp, M.2.2.2.2.1, M.2.2.2.2.2) = match mv_run G n' z (fb - 1) (lb - (((r.map me_v).map fun v => v.category).sum + (mv_gL G z + 11))) (0, lv_args 0 (as.map me_v), [], hp, M.2.2.2.2.1, M.2.2.2.2.2) with
        | none => none
        | some (.inr v, hp, cb, sb) => mv_run G n' y fb lb (pc + len, lo, v.toList ++ r.map me_v, hp, cb, sb)
        | some (.inl a, hp, cb, sb) => mv_take G y (mv_run G n' y fb lb) a (pc, lo, [], hp, cb, sb) := by
    intro n'
    rw [mv_run, hn]
    dsimp only
    rw [hx lo hp _ _ g5]
    dsimp only
    rw [if_pos room]
    rfl
  rw [List.map_nil] at k1
  have a1 := a1.ext k3
  rcases o with a | _ | v
  · obtain ⟨o, M2, hp2, ⟨n2, hle, j1⟩, j2, j3, j4⟩ := me_take (m := n) (st9 := []) (d := d + 1) (fb := fb) (lb := lb) g1 g2 g3 a1.1 k2 k4 k5
    refine ⟨o, M2, hp2, ⟨n2 + 1, ?_⟩, j2, k3.tr j3, j4⟩
    rw [run, mv_fuel G hle k1]
    exact j1
  · obtain ⟨o, M2, hp2, ⟨n2, j1⟩, j2, j3, j4⟩ := k5 fb lb lo hp' g1 g2 g3 a1 k2
    refine ⟨o, M2, hp2, ⟨n + n2 + 1, ?_⟩, j2, k3.tr j3, j4⟩
    rw [run, mv_fuel G (Nat.le_add_right _ _) k1]
    exact mv_fuel G (Nat.le_add_left _ _) j1
  · obtain ⟨o, M2, hp2, ⟨n2, j1⟩, j2, j3, j4⟩ := k5 fb lb lo hp' g1 g2 g3 (me_al_psh a1 k4) k2
    refine ⟨o, M2, hp2, ⟨n + n2 + 1, ?_⟩, j2, k3.tr j3, j4⟩
    rw [run, mv_fuel G (Nat.le_add_right _ _) k1]
    exact mv_fuel G (Nat.le_add_left _ _) j1
end MET
