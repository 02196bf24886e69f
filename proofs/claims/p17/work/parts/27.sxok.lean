/-! sx holds: where its words hold, the run ends so -/
theorem sx_ld_eq {L : List (Option me_V)} {q : Nat} {int : Bool} {K : me_V → Prop} (h : sx_ld L q int K) : ∃ v, L[q]? = some (some v) ∧ K v ∧ (int = true → mv_int (me_v v) = true) ∧ (int = false → mv_rfv (me_v v) = true) := by
  unfold sx_ld at h
  split at h
  · rename_i x e
    obtain ⟨h1, h2⟩ := sx_b_eq h
    exact ⟨_, e, h2, fun _ => rfl, fun z => by rw [h1] at z; cases z⟩
  · rename_i p e
    obtain ⟨h1, h2⟩ := sx_b_eq h
    refine ⟨_, e, h2, (fun z => by rw [z] at h1; cases h1), fun _ => ?_⟩
    rcases p with ⟨_ | a, q⟩ | j <;> rfl
  · exact h.elim
theorem me_dr_eq {p : Option Nat} {K : Nat → Prop} (h : me_dr p K) : ∃ a, p = some a ∧ K a := by
  cases p with
  | none => exact h.elim
  | some a => exact ⟨a, rfl, h⟩
theorem sx_8 {v : Int} (h1 : -128 ≤ v) (h2 : v ≤ 127) : (Int8.ofInt v).toInt32 = Int32.ofInt v := by
  apply Int32.toInt_inj.mp
  rw [Int8.toInt_toInt32, Int8.toInt_ofInt_of_le h1 (by omega), Int32.toInt_ofInt_of_le (by omega) (by omega)]
theorem sx_16 {v : Int} (h1 : -32768 ≤ v) (h2 : v ≤ 32767) : (Int16.ofInt v).toInt32 = Int32.ofInt v := by
  apply Int32.toInt_inj.mp
  rw [Int16.toInt_toInt32, Int16.toInt_ofInt_of_le h1 (by omega), Int32.toInt_ofInt_of_le (by omega) (by omega)]
theorem sx_div {a b : Int} (ha : me_r a) (hb : me_r b) : Int32.ofInt (a.tdiv b) = Int32.ofInt a / Int32.ofInt b := by
  apply Int32.toInt_inj.mp
  rw [Int32.toInt_div, show (Int32.ofInt a).toInt = a from me_w_eq ha, show (Int32.ofInt b).toInt = b from me_w_eq hb, Int32.toInt_ofInt]
def me_ac : ACond → Option Nat → Option Nat → Prop
  | .eq, a, b => a = b
  | .ne, a, b => ¬ a = b
def me_acb : ACond → Option Nat → Option Nat → Bool
  | .eq, a, b => decide (a = b)
  | .ne, a, b => decide (¬ a = b)
section SXO
variable {G : mv_G} {kn : Nat → Nat → Option Int} {pv y d pc len : Nat} {Q : me_Q} {k : Nat → Nat → List (Option me_V) → List me_V → me_M → Prop} {L : List (Option me_V)} {st r : List me_V} {M : me_M}
theorem so_psh {i : Instr} {n : Nat} {v : me_V} (hI : mv_gI G y pc = some (i, n)) (hs : en_ok i = true) (hv : me_an M v) (h : ∀ (lo : List (Nat × Value)) (hp : List va_E) (cb sb : Nat), mv_ins G y pc lo (st.map me_v) hp cb sb n i = some (.inl (pc + n, lo, me_v v :: st.map me_v, hp, cb, sb))) (kk : me_W G y d (pc + n) L (v :: st) M Q) : me_W G y d pc L st M Q :=
  me_st hI hs (fun _ h => me_al_psh h hv) (fun lo hp h3 _ _ => ⟨lo, h lo hp _ _, h3⟩) kk
theorem so_ld {i : Instr} {n q : Nat} {b : Value → Bool} {v : me_V} (hI : mv_gI G y pc = some (i, n)) (hs : en_ok i = true) (hv : L[q]? = some (some v)) (hb : b (me_v v) = true) (h : ∀ (lo : List (Nat × Value)) (hp : List va_E) (cb sb : Nat), mv_ins G y pc lo (st.map me_v) hp cb sb n i = mv_load pc lo (st.map me_v) hp cb sb q n b) (kk : me_W G y d (pc + n) L (v :: st) M Q) : me_W G y d pc L st M Q :=
  me_st hI hs (fun _ h => me_al_psh h (h.1 v (List.mem_of_getElem? hv))) (fun lo hp h3 _ _ => ⟨lo, (h lo hp _ _).trans (me_load h3 hv hb), h3⟩) kk
theorem so_sto {i : Instr} {n q : Nat} {b : Value → Bool} {v : me_V} (hI : mv_gI G y pc = some (i, n)) (hs : en_ok i = true) (hq : Nat.blt q (mv_gL G y) = true) (hb : b (me_v v) = true) (h : ∀ (lo : List (Nat × Value)) (hp : List va_E) (cb sb : Nat), mv_ins G y pc lo ((v :: r).map me_v) hp cb sb n i = mv_store G y pc lo ((v :: r).map me_v) hp cb sb q n b) (kk : me_W G y d (pc + n) (L.set q (some v)) r M Q) : me_W G y d pc L (v :: r) M Q :=
  me_st hI hs (fun _ h => me_al_set h) (fun lo hp h3 _ _ => ⟨_, (h lo hp _ _).trans (me_store hb (Nat.le_of_ble_eq_true hq)), me_lo_set h3⟩) kk
/-- two ints to one -/
theorem so_bin {i : Instr} {a b c : Int} {f : Int32 → Int32 → Int32} (hI : mv_gI G y pc = some (i, 1)) (hs : en_ok i = true) (hf : f (Int32.ofInt a) (Int32.ofInt b) = Int32.ofInt c) (h : ∀ (lo : List (Nat × Value)) (st : List Value) (hp : List va_E) (cb sb : Nat), mv_ins G y pc lo (.int (Int32.ofInt b) :: .int (Int32.ofInt a) :: st) hp cb sb 1 i = some (.inl (pc + 1, lo, .int (f (Int32.ofInt a) (Int32.ofInt b)) :: st, hp, cb, sb))) (kk : me_W G y d (pc + 1) L (.inl c :: r) M Q) : me_W G y d pc L (.inl b :: .inl a :: r) M Q :=
  me_st hI hs (fun _ h => me_al_psh (v := .inl c) (me_al_pop (me_al_pop h)) trivial) (fun lo hp h3 _ _ => ⟨lo, by
    show mv_ins G y pc lo (.int (Int32.ofInt b) :: .int (Int32.ofInt a) :: r.map me_v) hp _ _ 1 i = _
    rw [h, hf]
    rfl, h3⟩) kk
theorem so_un {i : Instr} {a c : Int} {f : Int32 → Int32} (hI : mv_gI G y pc = some (i, 1)) (hs : en_ok i = true) (hf : f (Int32.ofInt a) = Int32.ofInt c) (h : ∀ (lo : List (Nat × Value)) (st : List Value) (hp : List va_E) (cb sb : Nat), mv_ins G y pc lo (.int (Int32.ofInt a) :: st) hp cb sb 1 i = some (.inl (pc + 1, lo, .int (f (Int32.ofInt a)) :: st, hp, cb, sb))) (kk : me_W G y d (pc + 1) L (.inl c :: r) M Q) : me_W G y d pc L (.inl a :: r) M Q :=
  me_st hI hs (fun _ h => me_al_psh (v := .inl c) (me_al_pop h) trivial) (fun lo hp h3 _ _ => ⟨lo, by
    show mv_ins G y pc lo (.int (Int32.ofInt a) :: r.map me_v) hp _ _ 1 i = _
    rw [h, hf]
    rfl, h3⟩) kk
/-- to another place -/
theorem so_jmp {i : Instr} {n t : Nat} {st' : List me_V} (hI : mv_gI G y pc = some (i, n)) (hs : en_ok i = true) (ha : ∀ v, v ∈ st' → v ∈ st) (h : ∀ (lo : List (Nat × Value)) (hp : List va_E) (cb sb : Nat), me_al M L st → me_R G M hp → mv_ins G y pc lo (st.map me_v) hp cb sb n i = some (.inl (t, lo, st'.map me_v, hp, cb, sb))) (kk : me_W G y d t L st' M Q) : me_W G y d pc L st M Q :=
  me_st hI hs (fun _ h => ⟨h.1, fun v hv => h.2 v (ha v hv)⟩) (fun lo hp h3 h4 h5 => ⟨lo, h lo hp _ _ h4 h5, h3⟩) kk
theorem so_cond {c : Jvm.ClassFile.Cond} {off : Int} {t : Nat} {x : Int} (hI : mv_gI G y pc = some (.ifCond c off, 3)) (ht : mv_tgt pc off = some t) (hx : me_r x) (h1 : me_cond c x 0 → me_W G y d t L r M Q) (h2 : ¬ me_cond c x 0 → me_W G y d (pc + 3) L r M Q) : me_W G y d pc L (.inl x :: r) M Q := by
  have e0 : (0 : Int32) = Int32.ofInt 0 := rfl
  by_cases hc : me_cond c x 0
  · refine so_jmp (t := t) (st' := r) hI rfl (fun v hv => List.mem_cons_of_mem _ hv) (fun lo hp cb sb _ _ => ?_) (h1 hc)
    show mv_g 3 3 (mv_if pc lo (.int (Int32.ofInt x) :: r.map me_v) hp cb sb c off) = _
    unfold mv_g mv_if mv_jump
    rw [if_pos rfl]
    dsimp only
    rw [ht, e0]
    dsimp only
    rw [if_pos ((me_cond_iff hx ⟨by decide, by decide⟩).mpr hc)]
  · refine so_jmp (t := pc + 3) (st' := r) hI rfl (fun v hv => List.mem_cons_of_mem _ hv) (fun lo hp cb sb _ _ => ?_) (h2 hc)
    show mv_g 3 3 (mv_if pc lo (.int (Int32.ofInt x) :: r.map me_v) hp cb sb c off) = _
    unfold mv_g mv_if mv_jump
    rw [if_pos rfl]
    dsimp only
    rw [ht, e0]
    dsimp only
    rw [if_neg (fun z => hc ((me_cond_iff hx ⟨by decide, by decide⟩).mp z))]
theorem so_icmp {c : Jvm.ClassFile.Cond} {off : Int} {t : Nat} {a b : Int} (hI : mv_gI G y pc = some (.if_icmp c off, 3)) (ht : mv_tgt pc off = some t) (ha : me_r a) (hb : me_r b) (h1 : me_cond c a b → me_W G y d t L r M Q) (h2 : ¬ me_cond c a b → me_W G y d (pc + 3) L r M Q) : me_W G y d pc L (.inl b :: .inl a :: r) M Q := by
  by_cases hc : me_cond c a b
  · refine so_jmp (t := t) (st' := r) hI rfl (fun v hv => List.mem_cons_of_mem _ (List.mem_cons_of_mem _ hv)) (fun lo hp cb sb _ _ => ?_) (h1 hc)
    show mv_g 3 3 (mv_icmp pc lo (.int (Int32.ofInt b) :: .int (Int32.ofInt a) :: r.map me_v) hp cb sb c off) = _
    unfold mv_g mv_icmp mv_jump
    rw [if_pos rfl]
    dsimp only
    rw [ht]
    dsimp only
    rw [if_pos ((me_cond_iff ha hb).mpr hc)]
  · refine so_jmp (t := pc + 3) (st' := r) hI rfl (fun v hv => List.mem_cons_of_mem _ (List.mem_cons_of_mem _ hv)) (fun lo hp cb sb _ _ => ?_) (h2 hc)
    show mv_g 3 3 (mv_icmp pc lo (.int (Int32.ofInt b) :: .int (Int32.ofInt a) :: r.map me_v) hp cb sb c off) = _
    unfold mv_g mv_icmp mv_jump
    rw [if_pos rfl]
    dsimp only
    rw [ht]
    dsimp only
    rw [if_neg (fun z => hc ((me_cond_iff ha hb).mp z))]
theorem so_ptr {p : Option Nat} {q : Nat × Nat} {hp : List va_E} (h : me_an M (.inr (.inl (p, q)))) (h5 : me_R G M hp) : mv_ptr (va_rf p) = some p := by
  cases p with
  | none => rfl
  | some a =>
    show (if a < mv_big then some (some a) else none) = _
    rw [if_pos (me_ad h5 h.1)]
theorem so_acmp {c : ACond} {off : Int} {t : Nat} {p1 p2 : Option Nat} {w1 w2 : Nat × Nat} (hI : mv_gI G y pc = some (.if_acmp c off, 3)) (ht : mv_tgt pc off = some t) (h1 : me_ac c p2 p1 → me_W G y d t L r M Q) (h2 : ¬ me_ac c p2 p1 → me_W G y d (pc + 3) L r M Q) : me_W G y d pc L (.inr (.inl (p1, w1)) :: .inr (.inl (p2, w2)) :: r) M Q := by
  have go : ∀ (lo : List (Nat × Value)) (hp : List va_E) (cb sb : Nat), me_al M L (.inr (.inl (p1, w1)) :: .inr (.inl (p2, w2)) :: r) → me_R G M hp → mv_ins G y pc lo ((.inr (.inl (p1, w1)) :: .inr (.inl (p2, w2)) :: r : List me_V).map me_v) hp cb sb 3 (.if_acmp c off) = some (.inl (if me_acb c p2 p1 = true then t else pc + 3, lo, r.map me_v, hp, cb, sb)) := by
    intro lo hp cb sb h4 h5
    show mv_g 3 3 (mv_acmp pc lo (va_rf p1 :: va_rf p2 :: r.map me_v) hp cb sb c off) = _
    unfold mv_g mv_acmp mv_jump
    rw [if_pos rfl]
    dsimp only
    rw [so_ptr (me_hd (me_al_pop h4)) h5, so_ptr (me_hd h4) h5]
    dsimp only
    rw [ht]
    cases c <;> rfl
  by_cases hc : me_ac c p2 p1
  · refine so_jmp (t := t) (st' := r) hI rfl (fun v hv => List.mem_cons_of_mem _ (List.mem_cons_of_mem _ hv)) (fun lo hp cb sb h4 h5 => ?_) (h1 hc)
    rw [go lo hp cb sb h4 h5, if_pos (by cases c <;> exact decide_eq_true hc)]
  · refine so_jmp (t := pc + 3) (st' := r) hI rfl (fun v hv => List.mem_cons_of_mem _ (List.mem_cons_of_mem _ hv)) (fun lo hp cb sb h4 h5 => ?_) (h2 hc)
    rw [go lo hp cb sb h4 h5, if_neg (fun z => hc (by
      cases c
      · exact (of_decide_eq_true z : p2 = p1)
      · exact (of_decide_eq_true z : ¬ p2 = p1)))]
theorem so_null {b : Bool} {i : Instr} {off : Int} {t : Nat} {p : Option Nat} {w : Nat × Nat} (hI : mv_gI G y pc = some (i, 3)) (hs : en_ok i = true) (hi : ∀ (lo : List (Nat × Value)) (s : List Value) (hp : List va_E) (cb sb : Nat), mv_ins G y pc lo s hp cb sb 3 i = mv_g 3 3 (mv_ifn pc lo s hp cb sb b off)) (ht : mv_tgt pc off = some t) (h1 : (b = true ↔ p = none) → me_W G y d t L r M Q) (h2 : ¬ (b = true ↔ p = none) → me_W G y d (pc + 3) L r M Q) : me_W G y d pc L (.inr (.inl (p, w)) :: r) M Q := by
  have go : ∀ (lo : List (Nat × Value)) (hp : List va_E) (cb sb : Nat), mv_ins G y pc lo ((.inr (.inl (p, w)) :: r : List me_V).map me_v) hp cb sb 3 i = some (.inl (if b = p.isNone then t else pc + 3, lo, r.map me_v, hp, cb, sb)) := by
    intro lo hp cb sb
    rw [hi]
    show mv_g 3 3 (mv_ifn pc lo (va_rf p :: r.map me_v) hp cb sb b off) = _
    unfold mv_g mv_ifn mv_jump
    rw [if_pos rfl]
    cases p <;> cases b <;> (show (match mv_tgt pc off with | some t => _ | none => none) = _; rw [ht]; rfl)
  by_cases hc : b = p.isNone
  · refine so_jmp (t := t) (st' := r) hI hs (fun v hv => List.mem_cons_of_mem _ hv) (fun lo hp cb sb h4 h5 => ?_) (h1 (by rw [hc]; simp))
    rw [go, if_pos hc]
  · refine so_jmp (t := pc + 3) (st' := r) hI hs (fun v hv => List.mem_cons_of_mem _ hv) (fun lo hp cb sb h4 h5 => ?_) (h2 (by cases b <;> cases p <;> simp_all))
    rw [go, if_neg hc]
end SXO
