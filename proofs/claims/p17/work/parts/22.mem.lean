/-! memory as functions, and what a run from a place comes to (me_): a tree of words over it, for Lean to reason in -/
def mv_ends (G : mv_G) (y fb lb : Nat) (S : mv_S) (E : mv_E) : Prop := ∃ m, mv_run G m y fb lb S = some E
def en_ok : Instr → Bool
  | .invokestatic _ => false
  | .invokespecial _ => false
  | .invokevirtual _ => false
  | .new _ => false
  | .iaload => false
  | .aastore => false
  | .arraylength => false
  | .ireturn => false
  | .areturn => false
  | .return_ => false
  | .athrow => false
  | _ => true
theorem en_nat_none {G : mv_G} {y fb lb n : Nat} {S : mv_S} {i : Instr} (hI : mv_gI G y S.1 = some (i, n)) (hi : en_ok i = true) : mv_nat G y fb lb S = none := by
  unfold mv_nat
  rw [hI]
  cases i <;> first | rfl | cases hi
def en_has (lo : List (Nat × Value)) (i : Nat) (v : Value) : Prop := ∃ j, mv_find i lo 0 = some (j, v)
theorem en_find_keep {i a : Nat} (hne : i ≠ a) : ∀ (l : List (Nat × Value)) (k k' j : Nat) (q : Value), q.category = 1 → mv_find i l k = some (j, q) → ∃ j', mv_find i (mv_keep a l) k' = some (j', q)
  | [], _, _, _, _, _, h => by cases h
  | p :: r, k, k', j, q, hc, h => by
    unfold mv_find at h
    unfold mv_keep
    rw [List.filter_cons]
    split at h
    · rename_i e
      cases h
      have e1 : (!(p.1 == a) && !(p.1 + 1 == a && p.2.category == 2)) = true := by
        rw [e]
        simp [hne, hc]
      rw [if_pos e1]
      unfold mv_find
      rw [if_pos e]
      exact ⟨_, rfl⟩
    · rename_i e
      split
      · unfold mv_find
        rw [if_neg e]
        exact en_find_keep hne r (k + 1) (k' + 1) j q hc h
      · exact en_find_keep hne r (k + 1) k' j q hc h
theorem en_has_keep {lo : List (Nat × Value)} {i j : Nat} {v w : Value} (h : en_has lo j v) (hne : j ≠ i) (hc : v.category = 1) : en_has ((i, w) :: mv_keep i lo) j v := by
  obtain ⟨k, hk⟩ := h
  unfold en_has mv_find
  rw [if_neg (Ne.symm hne)]
  exact en_find_keep hne lo 0 1 k v hc hk
theorem en_has_new {lo : List (Nat × Value)} {i : Nat} {w : Value} : en_has ((i, w) :: mv_keep i lo) i w := by
  unfold en_has mv_find
  rw [if_pos rfl]
  exact ⟨_, rfl⟩
theorem en_ins {G : mv_G} {y fb lb pc : Nat} {lo : List (Nat × Value)} {st : List Value} {hp : List va_E} {cb sb : Nat} {E : mv_E} {n : Nat} {i : Instr} {S' : mv_S} (hI : mv_gI G y pc = some (i, n)) (hs : en_ok i = true) (h : mv_ins G y pc lo st hp cb sb n i = some (.inl S')) (k : mv_ends G y fb lb S' E) : mv_ends G y fb lb (pc, lo, st, hp, cb, sb) E := by
  obtain ⟨m, k⟩ := k
  refine ⟨m + 1, ?_⟩
  have hex : mv_exec G y (pc, lo, st, hp, cb, sb) = some (.inl S') := by
    unfold mv_exec
    simp only [hI]
    cases i <;> first | exact congrArg mv_og h | cases hs
  rw [mv_run, en_nat_none (S := (pc, lo, st, hp, cb, sb)) hI hs]
  dsimp only
  rw [hex]
  exact k
theorem mv_take_mono {G : mv_G} {y : Nat} {k k' : mv_S → Option mv_E} (hk : ∀ S E, k S = some E → k' S = some E) {a : Nat} {S : mv_S} {E : mv_E} (h : mv_take G y k a S = some E) : mv_take G y k' a S = some E := by
  unfold mv_take at h ⊢
  cases hn : mv_hand (mv_gH G y) S.1 with
  | none =>
    rw [hn] at h
    exact h
  | some q =>
    obtain ⟨hd, ct⟩ := q
    rw [hn] at h
    dsimp only at h ⊢
    cases ho : S.2.2.2.1[a]? with
    | none =>
      rw [ho] at h
      cases h
    | some e =>
      rw [ho] at h
      rcases e with e | ⟨ci, fs⟩
      · cases h
      · dsimp only at h ⊢
        by_cases hc : ci = mv_gX G
        · rw [if_pos hc] at h ⊢
          exact hk _ _ h
        · rw [if_neg hc] at h
          cases h
theorem mv_fuel1 (G : mv_G) : ∀ (n y fb lb : Nat) (S : mv_S) (E : mv_E), mv_run G n y fb lb S = some E → mv_run G (n + 1) y fb lb S = some E
  | 0, _, _, _, _, _, h => by cases h
  | n + 1, y, fb, lb, S, E, h => by
    have ih := fun y fb lb S E => mv_fuel1 G n y fb lb S E
    rw [mv_run] at h ⊢
    cases hnat : mv_nat G y fb lb S with
    | some S' =>
      rw [hnat] at h
      exact ih _ _ _ _ _ h
    | none =>
      rw [hnat] at h
      dsimp only at h ⊢
      cases hex : mv_exec G y S with
      | none =>
        rw [hex] at h
        cases h
      | some r =>
        rw [hex] at h
        rcases r with S' | ⟨z, as, r, len⟩ | v | a
        · exact ih _ _ _ _ _ h
        · dsimp only at h ⊢
          split at h
          · rename_i hc
            rw [if_pos hc]
            split at h
            · cases h
            · rename_i v hp cb sb hrun
              rw [ih _ _ _ _ _ hrun]
              exact ih _ _ _ _ _ h
            · rename_i a hp cb sb hrun
              rw [ih _ _ _ _ _ hrun]
              exact mv_take_mono (fun S E => ih _ _ _ S E) h
          · cases h
        · exact h
        · exact mv_take_mono (fun S E => ih _ _ _ S E) h
theorem mv_fuel (G : mv_G) {n m y fb lb : Nat} {S : mv_S} {E : mv_E} (hle : n ≤ m) (h : mv_run G n y fb lb S = some E) : mv_run G m y fb lb S = some E := by
  obtain ⟨k, rfl⟩ := Nat.le.dest hle
  clear hle
  induction k with
  | zero => exact h
  | succ k ih => exact mv_fuel1 G (n + k) y fb lb S E ih
/-- an int; or a pointer or null, with what a pointer's cell is: twice the type of an array and its length; twice an object's class and 1, and 0 or its sort; or the number of a text -/
abbrev me_V : Type := Int ⊕ ((Option Nat × Nat × Nat) ⊕ Nat)
def me_v : me_V → Value
  | .inl x => .int (Int32.ofInt x)
  | .inr (.inl q) => va_rf q.1
  | .inr (.inr j) => .ref (mv_big + 1 + j)
theorem me_v_cat (v : me_V) : (me_v v).category = 1 := by
  rcases v with x | ⟨_ | a, q⟩ | j <;> rfl
/-- how many cells; their kinds; ints; pointers; what may still be made -/
abbrev me_M : Type := Nat × (Nat → Nat × Nat) × (Nat → Nat → Int32) × (Nat → Nat → Option Nat) × Nat × Nat
abbrev me_O : Type := Nat ⊕ Option me_V
abbrev me_Q : Type := me_O → me_M → Prop
def me_an (M : me_M) : me_V → Prop
  | .inr (.inl (some a, q)) => a < M.1 ∧ M.2.1 a = q
  | _ => True
def me_al (M : me_M) (L : List (Option me_V)) (st : List me_V) : Prop := (∀ v, some v ∈ L → me_an M v) ∧ ∀ v, v ∈ st → me_an M v
def me_ext (M M' : me_M) : Prop := M.1 ≤ M'.1 ∧ ∀ a, a < M.1 → M'.2.1 a = M.2.1 a
theorem me_ext.rf (M : me_M) : me_ext M M := ⟨Nat.le_refl _, fun _ _ => rfl⟩
theorem me_ext.tr {M M1 M2 : me_M} (h : me_ext M M1) (h' : me_ext M1 M2) : me_ext M M2 := ⟨Nat.le_trans h.1 h'.1, fun a ha => (h'.2 a (Nat.lt_of_lt_of_le ha h.1)).trans (h.2 a ha)⟩
theorem me_an.ext {M M' : me_M} {v : me_V} (h : me_an M v) (e : me_ext M M') : me_an M' v := by
  rcases v with x | ⟨_ | a, q⟩ | j
  · trivial
  · trivial
  · exact ⟨Nat.lt_of_lt_of_le h.1 e.1, (e.2 a h.1).trans h.2⟩
  · trivial
theorem me_al.ext {M M' : me_M} {L : List (Option me_V)} {st : List me_V} (h : me_al M L st) (e : me_ext M M') : me_al M' L st := ⟨fun v hv => (h.1 v hv).ext e, fun v hv => (h.2 v hv).ext e⟩
def me_ik (G : mv_G) (ci k : Nat) : Bool := match mv_gT G ci k with
  | some .int => true
  | some .boolean => true
  | some .byte => true
  | _ => false
def me_fs (G : mv_G) (ci : Nat) (I : Nat → Int32) (P : Nat → Option Nat) : List Value := (List.range (mv_gD G ci).length).map fun k => if me_ik G ci k = true then .int (I k) else va_rf (P k)
def me_c (G : mv_G) (q : Nat × Nat) (I : Nat → Int32) (P : Nat → Option Nat) : va_E := if q.1 % 2 = 1 then .inr (q.1 / 2, me_fs G (q.1 / 2) I P) else if q.1 / 2 < 3 then .inl (q.1 / 2, q.2, .inl I) else .inl (q.1 / 2, q.2, .inr (.inr (.inr (.inr P))))
/-- pointers point to what their places are for -/
def me_ty (G : mv_G) (M : me_M) : Prop := ∀ a, a < M.1 → ((M.2.1 a).1 % 2 = 1 → ((M.2.1 a).1 ≠ 15 → (M.2.1 a).2 = 0) ∧ ∀ k b, me_ik G ((M.2.1 a).1 / 2) k = false → M.2.2.2.1 a k = some b → b < M.1 ∧ (M.2.1 b).1 = sx_fk ((M.2.1 a).1 / 2) k) ∧ ((M.2.1 a).1 % 2 = 0 → 3 ≤ (M.2.1 a).1 / 2 → ∀ i b, M.2.2.2.1 a i = some b → b < M.1 ∧ (M.2.1 b).1 = sx_ek ((M.2.1 a).1 / 2))
/-- what final fields of the first objects point to -/
def me_sh (M : me_M) : Prop := ∀ a, a < M.1 → (M.2.1 a).1 % 2 = 1 → ∀ k sg off q, sx_fin ((M.2.1 a).1 / 2) (M.2.1 a).2 k = some (sg, off, q) → M.2.2.2.1 a k = some (sx_tg a sg off) ∧ sx_tg a sg off < M.1 ∧ M.2.1 (sx_tg a sg off) = q
def me_ln (M : me_M) : Prop := ∀ a, a < M.1 → (M.2.1 a).2 ≤ 134217728
/-- bytes and booleans are such -/
def me_by (M : me_M) : Prop := ∀ a, a < M.1 → ∀ i, ((M.2.1 a).1 = 2 → mv_fitT 1 (M.2.2.1 a i) = true) ∧ ((M.2.1 a).1 = 4 → mv_fitT 2 (M.2.2.1 a i) = true)
def me_R (G : mv_G) (M : me_M) (hp : List va_E) : Prop := hp.length = M.1 ∧ M.1 + M.2.2.2.2.1 ≤ 2000000 ∧ (∀ a, a < M.1 → hp[a]? = some (me_c G (M.2.1 a) (M.2.2.1 a) (M.2.2.2.1 a))) ∧ me_ty G M ∧ me_sh M ∧ me_ln M ∧ me_by M
/-- what does not speak of the heap itself -/
def me_R' (G : mv_G) (M : me_M) : Prop := me_ty G M ∧ me_sh M
def me_lo (L : List (Option me_V)) (lo : List (Nat × Value)) : Prop := ∀ (i : Nat) (v : me_V), L[i]? = some (some v) → en_has lo i (me_v v)
def me_o : me_O → Nat ⊕ Option Value
  | .inl a => .inl a
  | .inr v => .inr (v.map me_v)
def me_oa (G : mv_G) (M : me_M) : me_O → Prop
  | .inl a => a < M.1 ∧ M.2.1 a = (2 * mv_gX G + 1, 0)
  | .inr (some v) => me_an M v
  | .inr none => True
/-- from a place in method y, with depth d left, the run ends, and Q holds of its end -/
def me_W (G : mv_G) (y d pc : Nat) (L : List (Option me_V)) (st : List me_V) (M : me_M) (Q : me_Q) : Prop :=
  ∀ (fb lb : Nat) (lo : List (Nat × Value)) (hp : List va_E), d ≤ fb → 60 * d ≤ lb → me_lo L lo → me_al M L st → me_R G M hp → ∃ (o : me_O) (M' : me_M) (hp' : List va_E), mv_ends G y fb lb (pc, lo, st.map me_v, hp, M.2.2.2.2.1, M.2.2.2.2.2) (me_o o, hp', M'.2.2.2.2.1, M'.2.2.2.2.2) ∧ me_R G M' hp' ∧ me_ext M M' ∧ me_oa G M' o ∧ Q o M'
theorem me_W.mono {G : mv_G} {y d pc : Nat} {L : List (Option me_V)} {st : List me_V} {M : me_M} {Q Q' : me_Q} (h : me_W G y d pc L st M Q) (hq : ∀ o M', me_ext M M' → Q o M' → Q' o M') : me_W G y d pc L st M Q' := by
  intro fb lb lo hp h1 h2 h3 h4 h5
  obtain ⟨o, M', hp', g1, g2, g3, g4, g5⟩ := h fb lb lo hp h1 h2 h3 h4 h5
  exact ⟨o, M', hp', g1, g2, g3, g4, hq _ _ g3 g5⟩
theorem me_W.less {G : mv_G} {y d d' pc : Nat} {L : List (Option me_V)} {st : List me_V} {M : me_M} {Q : me_Q} (h : me_W G y d pc L st M Q) (hd : d ≤ d') : me_W G y d' pc L st M Q :=
  fun fb lb lo hp h1 h2 h3 h4 h5 => h fb lb lo hp (Nat.le_trans hd h1) (by omega) h3 h4 h5
/-- locals that are known may be forgotten -/
theorem me_W.forget {G : mv_G} {y d pc : Nat} {L L' : List (Option me_V)} {st : List me_V} {M : me_M} {Q : me_Q} (h : me_W G y d pc L st M Q) (hl : ∀ (i : Nat) (v : me_V), L[i]? = some (some v) → L'[i]? = some (some v)) : me_W G y d pc L' st M Q :=
  fun fb lb lo hp h1 h2 h3 h4 h5 => h fb lb lo hp h1 h2 (fun i v hv => h3 i v (hl i v hv)) ⟨fun v hv => by
    obtain ⟨i, hi⟩ := List.mem_iff_getElem?.mp hv
    exact h4.1 v (List.mem_of_getElem? (hl i v hi)), h4.2⟩ h5
section MEW
variable {G : mv_G} {y d pc : Nat} {L : List (Option me_V)} {st : List me_V} {M : me_M} {Q : me_Q}
/-- a step that changes no memory -/
theorem me_st {i : Instr} {n pc' : Nat} {L' : List (Option me_V)} {st' : List me_V} (hI : mv_gI G y pc = some (i, n)) (hs : en_ok i = true) (ha : me_R' G M → me_al M L st → me_al M L' st')
    (h : ∀ (lo : List (Nat × Value)) (hp : List va_E), me_lo L lo → me_al M L st → me_R G M hp → ∃ lo', mv_ins G y pc lo (st.map me_v) hp M.2.2.2.2.1 M.2.2.2.2.2 n i = some (.inl (pc', lo', st'.map me_v, hp, M.2.2.2.2.1, M.2.2.2.2.2)) ∧ me_lo L' lo')
    (k : me_W G y d pc' L' st' M Q) : me_W G y d pc L st M Q := by
  intro fb lb lo hp h1 h2 h3 h4 h5
  obtain ⟨lo', g1, g2⟩ := h lo hp h3 h4 h5
  obtain ⟨o, M', hp', k1, k2⟩ := k fb lb lo' hp h1 h2 g2 (ha ⟨h5.2.2.2.1, h5.2.2.2.2.1⟩ h4) h5
  exact ⟨o, M', hp', en_ins hI hs g1 k1, k2⟩
/-- a step that changes memory -/
theorem me_sm {i : Instr} {n pc' : Nat} {st' : List me_V} {M1 : me_M} (hI : mv_gI G y pc = some (i, n)) (hs : en_ok i = true)
    (h : ∀ (lo : List (Nat × Value)) (hp : List va_E), me_al M L st → me_R G M hp → ∃ hp', mv_ins G y pc lo (st.map me_v) hp M.2.2.2.2.1 M.2.2.2.2.2 n i = some (.inl (pc', lo, st'.map me_v, hp', M1.2.2.2.2.1, M1.2.2.2.2.2)) ∧ me_R G M1 hp' ∧ me_ext M M1 ∧ me_al M1 L st')
    (k : me_W G y d pc' L st' M1 Q) : me_W G y d pc L st M Q := by
  intro fb lb lo hp h1 h2 h3 h4 h5
  obtain ⟨hp1, g1, g2, g3, g4⟩ := h lo hp h4 h5
  obtain ⟨o, M', hp', k1, k2, k3, k4⟩ := k fb lb lo hp1 h1 h2 h3 g4 g2
  exact ⟨o, M', hp', en_ins hI hs g1 k1, k2, g3.tr k3, k4⟩
theorem me_lo_set {lo : List (Nat × Value)} {i : Nat} {v : me_V} (h : me_lo L lo) : me_lo (L.set i (some v)) ((i, me_v v) :: mv_keep i lo) := by
  intro j w hj
  rw [List.getElem?_set] at hj
  split at hj
  · rename_i e
    subst e
    split at hj
    · have := Option.some.inj (Option.some.inj hj)
      subst this
      exact en_has_new
    · cases hj
  · rename_i e
    exact en_has_keep (h j w hj) (fun e' => e e'.symm) (me_v_cat w)
theorem me_al_set {i : Nat} {v : me_V} (h : me_al M L (v :: st)) : me_al M (L.set i (some v)) st := by
  refine ⟨fun w hw => ?_, fun w hw => h.2 w (List.mem_cons_of_mem _ hw)⟩
  rcases List.mem_or_eq_of_mem_set hw with hw | hw
  · exact h.1 w hw
  · cases hw
    exact h.2 v List.mem_cons_self
theorem me_al_psh {v : me_V} (h : me_al M L st) (hv : me_an M v) : me_al M L (v :: st) := ⟨h.1, fun w hw => by
  rcases List.mem_cons.mp hw with rfl | hw
  · exact hv
  · exact h.2 w hw⟩
theorem me_al_pop {v : me_V} (h : me_al M L (v :: st)) : me_al M L st := ⟨h.1, fun w hw => h.2 w (List.mem_cons_of_mem _ hw)⟩
theorem me_load {q n : Nat} {b : Value → Bool} {v : me_V} {lo : List (Nat × Value)} {hp : List va_E} (hl : me_lo L lo) (hv : L[q]? = some (some v)) (hb : b (me_v v) = true) {cb sb : Nat} : mv_load pc lo (st.map me_v) hp cb sb q n b = some (.inl (pc + n, lo, (v :: st).map me_v, hp, cb, sb)) := by
  obtain ⟨j, hj⟩ := hl q v hv
  unfold mv_load
  rw [hj]
  dsimp only
  rw [if_pos hb]
  rfl
theorem me_store {q n : Nat} {b : Value → Bool} {v : me_V} {lo : List (Nat × Value)} {hp : List va_E} (hb : b (me_v v) = true) (hq : q < mv_gL G y) {cb sb : Nat} : mv_store G y pc lo ((v :: st).map me_v) hp cb sb q n b = some (.inl (pc + n, (q, me_v v) :: mv_keep q lo, st.map me_v, hp, cb, sb)) := by
  unfold mv_store
  rw [List.map_cons]
  dsimp only
  rw [if_pos ⟨hb, hq⟩]
end MEW
/-! ints -/
def me_r (x : Int) : Prop := -2147483648 ≤ x ∧ x < 2147483648
def me_w (x : Int) : Int := (Int32.ofInt x).toInt
theorem me_w_eq {x : Int} (h : me_r x) : me_w x = x := Int32.toInt_ofInt_of_le h.1 h.2
theorem me_w_r (x : Int) : me_r (me_w x) := ⟨Int32.le_toInt _, Int32.toInt_lt _⟩
theorem me_of (x : Int32) : Int32.ofInt x.toInt = x := Int32.ofInt_toInt x
theorem me_lt {x y : Int} (hx : me_r x) (hy : me_r y) : Int32.ofInt x < Int32.ofInt y ↔ x < y := by
  rw [Int32.lt_iff_toInt_lt]
  show me_w x < me_w y ↔ _
  rw [me_w_eq hx, me_w_eq hy]
theorem me_le {x y : Int} (hx : me_r x) (hy : me_r y) : Int32.ofInt x ≤ Int32.ofInt y ↔ x ≤ y := by
  rw [Int32.le_iff_toInt_le]
  show me_w x ≤ me_w y ↔ _
  rw [me_w_eq hx, me_w_eq hy]
theorem me_eq {x y : Int} (hx : me_r x) (hy : me_r y) : Int32.ofInt x = Int32.ofInt y ↔ x = y := by
  constructor
  · intro h
    have := congrArg Int32.toInt h
    rwa [show (Int32.ofInt x).toInt = x from me_w_eq hx, show (Int32.ofInt y).toInt = y from me_w_eq hy] at this
  · intro h
    rw [h]
theorem me_out {i : Int} {n : Nat} (h0 : 0 ≤ i) (h1 : i < n) (h2 : me_r i) : mv_out (Int32.ofInt i) n = false ∧ (Int32.ofInt i).toNatClampNeg = i.toNat := by
  have h3 : (Int32.ofInt i).toInt = i := me_w_eq h2
  have h4 : (Int32.ofInt i).toNatClampNeg = i.toNat := by
    show (Int32.ofInt i).toInt.toNat = _
    rw [h3]
  refine ⟨?_, h4⟩
  unfold mv_out
  rw [decide_eq_false_iff_not]
  rintro (h5 | h5)
  · rw [Int32.lt_iff_toInt_lt, h3] at h5
    have : (0 : Int32).toInt = 0 := rfl
    omega
  · rw [h4] at h5
    omega
def me_cond : Jvm.ClassFile.Cond → Int → Int → Prop
  | .eq, a, b => a = b
  | .ne, a, b => ¬ a = b
  | .lt, a, b => a < b
  | .ge, a, b => b ≤ a
  | .gt, a, b => b < a
  | .le, a, b => a ≤ b
theorem me_cond_iff {c : Jvm.ClassFile.Cond} {x y : Int} (hx : me_r x) (hy : me_r y) : mv_cond c (Int32.ofInt x) (Int32.ofInt y) = true ↔ me_cond c x y := by
  cases c <;> unfold mv_cond me_cond <;> rw [decide_eq_true_iff]
  · exact me_eq hx hy
  · exact not_congr (me_eq hx hy)
  · exact me_lt hx hy
  · exact me_le hy hx
  · exact me_lt hy hx
  · exact me_le hx hy
