/-! the rules of me_: arrays, calls, ends -/
def me_sh0 (ci : Nat) : Prop := ∀ k, sx_fin ci 0 k = none
section MES
variable {G : mv_G} {y d pc : Nat} {L : List (Option me_V)} {st r : List me_V} {M : me_M} {Q : me_Q} {hp : List va_E}
/-- an instruction that the small machine's own step does, where a native of that opcode does not apply -/
theorem me_ex {fb lb : Nat} {lo : List (Nat × Value)} {s : List Value} {cb sb : Nat} {E : mv_E} {S' : mv_S} (hn : mv_nat G y fb lb (pc, lo, s, hp, cb, sb) = none) (hx : mv_exec G y (pc, lo, s, hp, cb, sb) = some (.inl S')) (k : mv_ends G y fb lb S' E) : mv_ends G y fb lb (pc, lo, s, hp, cb, sb) E := by
  obtain ⟨m, k⟩ := k
  refine ⟨m + 1, ?_⟩
  rw [mv_run, hn]
  dsimp only
  rw [hx]
  exact k
theorem me_na {fb lb : Nat} {lo : List (Nat × Value)} {s : List Value} {cb sb : Nat} {E : mv_E} {S' : mv_S} (hn : mv_nat G y fb lb (pc, lo, s, hp, cb, sb) = some S') (k : mv_ends G y fb lb S' E) : mv_ends G y fb lb (pc, lo, s, hp, cb, sb) E := by
  obtain ⟨m, k⟩ := k
  refine ⟨m + 1, ?_⟩
  rw [mv_run, hn]
  exact k
theorem me_ad (h : me_R G M hp) {a : Nat} (ha : a < M.1) : a < mv_big := by
  have := h.2.1
  unfold mv_big
  omega
theorem me_iald {a n : Nat} {i : Int} (hI : mv_gI G y pc = some (.iaload, 1)) (hG : me_hG G) (h0 : 0 ≤ i) (h1 : i < n) (h2 : me_r i) (kk : me_W G y d (pc + 1) L (.inl (me_i M a i.toNat) :: r) M Q) : me_W G y d pc L (.inl i :: .inr (.inl (some a, 0, n)) :: r) M Q := by
  intro fb lb lo hp g1 g2 g3 g4 g5
  obtain ⟨ha, ht⟩ := me_hd (me_al_pop g4)
  obtain ⟨o, M', hp', k1, k2⟩ := kk fb lb lo hp g1 g2 g3 (me_al_psh (v := .inl (me_i M a i.toNat)) (me_al_pop (me_al_pop g4)) trivial) g5
  refine ⟨o, M', hp', me_ex (S' := (pc + 1, lo, (.inl (me_i M a i.toNat) :: r).map me_v, hp, M.2.2.2.2.1, M.2.2.2.2.2)) ?_ ?_ k1, k2⟩
  · unfold mv_nat
    simp only [hI]
    show mv_xald G pc lo (.int _ :: .ref a :: r.map me_v) hp _ _ = none
    unfold mv_xald
    simp only [hG.1 a (me_ad g5 ha)]
  · obtain ⟨e1, e2⟩ := me_out h0 h1 h2
    unfold mv_exec
    simp only [hI]
    show mv_og (mv_g 1 1 (mv_iald pc lo (.int (Int32.ofInt i) :: .ref a :: r.map me_v) hp _ _)) = _
    unfold mv_g mv_iald
    rw [if_pos rfl]
    dsimp only
    rw [me_cell_i g5 ha (t := 0) ht (by decide)]
    show mv_og (if mv_out (Int32.ofInt i) n = true then none else _) = _
    rw [if_neg (by rw [e1]; decide), e2, ← me_of (M.2.2.1 a i.toNat)]
    rfl
theorem me_alen {a t n : Nat} {ty : FieldType} (hI : mv_gI G y pc = some (.arraylength, 1)) (hG : me_hG G) (hY : mv_gY G t = some ty) (kk : me_W G y d (pc + 1) L (.inl (n : Int) :: r) M Q) : me_W G y d pc L (.inr (.inl (some a, 2 * t, n)) :: r) M Q := by
  intro fb lb lo hp g1 g2 g3 g4 g5
  obtain ⟨ha, ht⟩ := me_hd g4
  obtain ⟨o, M', hp', k1, k2⟩ := kk fb lb lo hp g1 g2 g3 (me_al_psh (v := .inl (n : Int)) (me_al_pop g4) trivial) g5
  refine ⟨o, M', hp', me_ex (S' := (pc + 1, lo, (.inl (n : Int) :: r).map me_v, hp, M.2.2.2.2.1, M.2.2.2.2.2)) ?_ ?_ k1, k2⟩
  · unfold mv_nat
    simp only [hI]
    show mv_xlen G pc lo (.ref a :: r.map me_v) hp _ _ = none
    unfold mv_xlen
    simp only [hG.1 a (me_ad g5 ha)]
  · unfold mv_exec
    simp only [hI]
    show mv_og (mv_g 1 1 (mv_alen G pc lo (.ref a :: r.map me_v) hp _ _)) = _
    unfold mv_g mv_alen
    rw [if_pos rfl]
    dsimp only
    by_cases h3 : t < 3
    · rw [me_cell_i g5 ha ht h3]
      dsimp only
      rw [hY]
      rfl
    · rw [me_cell_p g5 ha ht h3]
      dsimp only
      rw [hY]
      rfl
theorem me_bald {a t n : Nat} {i : Int} (hI : mv_gI G y pc = some (.baload, 1)) (h3 : t = 1 ∨ t = 2) (h0 : 0 ≤ i) (h1 : i < n) (h2 : me_r i) (kk : me_W G y d (pc + 1) L (.inl (me_i M a i.toNat) :: r) M Q) : me_W G y d pc L (.inl i :: .inr (.inl (some a, 2 * t, n)) :: r) M Q := by
  refine me_st hI rfl (fun _ h => me_al_psh (v := .inl (me_i M a i.toNat)) (me_al_pop (me_al_pop h)) trivial) (fun lo hp g3 g4 g5 => ⟨lo, ?_, g3⟩) kk
  obtain ⟨ha, ht⟩ := me_hd (me_al_pop g4)
  obtain ⟨e1, e2⟩ := me_out h0 h1 h2
  show mv_g 1 1 (mv_bald pc lo (.int (Int32.ofInt i) :: .ref a :: r.map me_v) hp _ _) = _
  unfold mv_g mv_bald
  rw [if_pos rfl]
  dsimp only
  rw [me_cell_i g5 ha ht (by omega)]
  dsimp only
  rw [if_pos ⟨h3, e1⟩, e2, ← me_of (M.2.2.1 a i.toNat)]
  rfl
theorem me_aald {a t n : Nat} {i : Int} {ty : FieldType} (hI : mv_gI G y pc = some (.aaload, 1)) (h3 : ¬ t < 3) (hY : mv_gY G t = some ty) (hr : ty.isReference = true) (h0 : 0 ≤ i) (h1 : i < n) (h2 : me_r i) (kk : ∀ m, (∀ b, me_p M a i.toNat = some b → M.2.1 b = (sx_ek t, m)) → me_W G y d (pc + 1) L (.inr (.inl (me_p M a i.toNat, sx_ek t, m)) :: r) M Q) : me_W G y d pc L (.inl i :: .inr (.inl (some a, 2 * t, n)) :: r) M Q := by
  intro fb lb lo hp g1 g2 g3 g4 g5
  obtain ⟨ha, ht⟩ := me_hd (me_al_pop g4)
  have hty : ∀ b, me_p M a i.toNat = some b → b < M.1 ∧ (M.2.1 b).1 = sx_ek t := by
    intro b hb
    have h6 := (g5.2.2.2.1 a ha).2 (by rw [ht]; show 2 * t % 2 = 0; omega) (by rw [ht]; show 3 ≤ 2 * t / 2; omega) i.toNat b hb
    rw [ht, show (2 * t, n).1 / 2 = t by show 2 * t / 2 = t; omega] at h6
    exact h6
  obtain ⟨m, hm⟩ : ∃ m, ∀ b, me_p M a i.toNat = some b → M.2.1 b = (sx_ek t, m) := by
    cases hp9 : me_p M a i.toNat with
    | none => exact ⟨0, fun b hb => by cases hb⟩
    | some c => exact ⟨(M.2.1 c).2, fun b hb => by cases hb; rw [← (hty c hp9).2]⟩
  obtain ⟨e1, e2⟩ := me_out h0 h1 h2
  refine me_st (L' := L) (st' := .inr (.inl (me_p M a i.toNat, sx_ek t, m)) :: r) hI rfl (fun _ h => me_al_psh (me_al_pop (me_al_pop h)) ?_) (fun lo hp g3 g4 g5 => ⟨lo, ?_, g3⟩) (kk m hm) fb lb lo hp g1 g2 g3 g4 g5
  · cases hp9 : me_p M a i.toNat with
    | none => trivial
    | some c => exact ⟨(hty c hp9).1, hm c hp9⟩
  · show mv_g 1 1 (mv_aald G pc lo (.int (Int32.ofInt i) :: .ref a :: r.map me_v) hp _ _) = _
    unfold mv_g mv_aald
    rw [if_pos rfl]
    dsimp only
    rw [me_cell_p g5 ha ht h3]
    dsimp only
    rw [hY]
    dsimp only
    rw [if_pos ⟨hr, e1⟩, e2]
    rfl
theorem me_aald0 {a t n : Nat} {i : Int} {ty : FieldType} (hI : mv_gI G y pc = some (.aaload, 1)) (h3 : ¬ t < 3) (hY : mv_gY G t = some ty) (hr : ty.isReference = true) (h0 : 0 ≤ i) (h1 : i < n) (h2 : me_r i) (hk : sx_ek t % 2 = 1) (h15 : sx_ek t ≠ 15) (kk : me_W G y d (pc + 1) L (.inr (.inl (me_p M a i.toNat, sx_ek t, 0)) :: r) M Q) : me_W G y d pc L (.inl i :: .inr (.inl (some a, 2 * t, n)) :: r) M Q := by
  intro fb lb lo hp g1 g2 g3 g4 g5
  obtain ⟨ha, ht⟩ := me_hd (me_al_pop g4)
  refine me_aald hI h3 hY hr h0 h1 h2 (fun m hm => ?_) fb lb lo hp g1 g2 g3 g4 g5
  have hty : ∀ b, me_p M a i.toNat = some b → b < M.1 ∧ (M.2.1 b).1 = sx_ek t := by
    intro b hb
    have h6 := (g5.2.2.2.1 a ha).2 (by rw [ht]; show 2 * t % 2 = 0; omega) (by rw [ht]; show 3 ≤ 2 * t / 2; omega) i.toNat b hb
    rw [ht, show (2 * t, n).1 / 2 = t by show 2 * t / 2 = t; omega] at h6
    exact h6
  cases hp9 : me_p M a i.toNat with
  | none =>
    rw [hp9] at kk
    intro fb lb lo hp g1 g2 g3 g4 g5
    exact kk fb lb lo hp g1 g2 g3 ⟨g4.1, fun w hw => by
      rcases List.mem_cons.mp hw with rfl | hw
      · trivial
      · exact g4.2 w (List.mem_cons_of_mem _ hw)⟩ g5
  | some c =>
    have e : m = 0 := by
      obtain ⟨z1, z2⟩ := hty c hp9
      have z3 := ((g5.2.2.2.1 c z1).1 (by rw [z2]; exact hk)).1 (by rw [z2]; exact h15)
      have z4 := hm c hp9
      rw [z4] at z3
      exact z3
    subst e
    rw [hp9] at kk
    exact kk
theorem me_iast {a n : Nat} {i x : Int} (hI : mv_gI G y pc = some (.iastore, 1)) (h0 : 0 ≤ i) (h1 : i < n) (h2 : me_r i) (kk : me_W G y d (pc + 1) L r (me_sI M a i.toNat (Int32.ofInt x)) Q) : me_W G y d pc L (.inl x :: .inl i :: .inr (.inl (some a, 0, n)) :: r) M Q := by
  refine me_sm hI rfl (fun lo hp h4 h5 => ?_) kk
  obtain ⟨ha, ht⟩ := me_hd (me_al_pop (me_al_pop h4))
  obtain ⟨e1, e2⟩ := me_out h0 h1 h2
  refine ⟨_, ?_, me_sI_R h5 ha ⟨(fun z => by rw [ht] at z; cases z), (fun z => by rw [ht] at z; cases z)⟩, me_ext.rf _, me_al_pop (me_al_pop (me_al_pop h4))⟩
  show mv_g 1 1 (mv_iast pc lo (.int (Int32.ofInt x) :: .int (Int32.ofInt i) :: .ref a :: r.map me_v) hp _ _) = _
  unfold mv_g mv_iast
  rw [if_pos rfl]
  dsimp only
  rw [me_cell_i h5 ha (t := 0) ht (by decide)]
  show (if mv_out (Int32.ofInt i) n = true then none else _) = _
  have hc : me_c G (M.2.1 a) (fun j => if j = i.toNat then Int32.ofInt x else M.2.2.1 a j) (M.2.2.2.1 a) = .inl (0, n, .inl (upd (M.2.2.1 a) i.toNat (Int32.ofInt x))) := by
    unfold me_c
    rw [ht, if_neg (show ¬ (0 : Nat) % 2 = 1 by decide), if_pos (show (0 : Nat) / 2 < 3 by decide), show ((0, n) : Nat × Nat).1 / 2 = 0 by show (0 : Nat) / 2 = 0; decide]
    rfl
  rw [if_neg (by rw [e1]; decide), e2, hc]
  rfl
/-- what an array of bytes (1) or booleans (2) keeps of an int -/
def me_nar (t : Nat) (x : Int) : Int32 := if t = 1 then vp_nar .byte (Int32.ofInt x) else vp_nar .boolean (Int32.ofInt x)
theorem me_nar1 (x : Int) : mv_fitT 1 (me_nar 1 x) = true := by
  have h : ∀ z : Int8, (decide ((-128 : Int32) ≤ z.toInt32) && decide (z.toInt32 ≤ 127)) = true := by
    intro z
    rw [Bool.and_eq_true, decide_eq_true_iff, decide_eq_true_iff, Int32.le_iff_toInt_le, Int32.le_iff_toInt_le, Int8.toInt_toInt32]
    exact ⟨Int8.le_toInt z, Int8.toInt_le z⟩
  exact h (Int32.ofInt x).toInt8
theorem me_nar2 (x : Int) : mv_fitT 2 (me_nar 2 x) = true := by
  have h : ∀ z : Int32, ((z &&& 1) == 0 || (z &&& 1) == 1) = true := by
    intro z
    have h1 : z &&& 1 = 0 ∨ z &&& 1 = 1 := by
      have h2 : (z &&& 1).toBitVec = z.toBitVec &&& 1#32 := rfl
      rcases (by
        have := BitVec.and_one_eq_setWidth_ofBool_getLsbD (x := z.toBitVec)
        rw [this]
        cases z.toBitVec.getLsbD 0
        · exact Or.inl rfl
        · exact Or.inr rfl : z.toBitVec &&& 1#32 = 0#32 ∨ z.toBitVec &&& 1#32 = 1#32) with e | e
      · exact Or.inl (Int32.toBitVec_inj.mp (h2.trans e))
      · exact Or.inr (Int32.toBitVec_inj.mp (h2.trans e))
    rcases h1 with e | e <;> rw [e] <;> rfl
  exact h (Int32.ofInt x)
theorem me_bast {a t n : Nat} {i x : Int} (hI : mv_gI G y pc = some (.bastore, 1)) (h3 : t = 1 ∨ t = 2) (h0 : 0 ≤ i) (h1 : i < n) (h2 : me_r i) (kk : me_W G y d (pc + 1) L r (me_sI M a i.toNat (me_nar t x)) Q) : me_W G y d pc L (.inl x :: .inl i :: .inr (.inl (some a, 2 * t, n)) :: r) M Q := by
  refine me_sm hI rfl (fun lo hp h4 h5 => ?_) kk
  obtain ⟨ha, ht⟩ := me_hd (me_al_pop (me_al_pop h4))
  obtain ⟨e1, e2⟩ := me_out h0 h1 h2
  refine ⟨_, ?_, me_sI_R h5 ha ⟨fun z => by rw [ht] at z; have z : 2 * t = 2 := z; rw [show t = 1 by omega]; exact me_nar1 x, fun z => by rw [ht] at z; have z : 2 * t = 4 := z; rw [show t = 2 by omega]; exact me_nar2 x⟩, me_ext.rf _, me_al_pop (me_al_pop (me_al_pop h4))⟩
  show mv_g 1 1 (mv_bast pc lo (.int (Int32.ofInt x) :: .int (Int32.ofInt i) :: .ref a :: r.map me_v) hp _ _) = _
  unfold mv_g mv_bast
  rw [if_pos rfl]
  dsimp only
  rw [me_cell_i h5 ha ht (by omega)]
  dsimp only
  rw [if_pos e1, e2]
  have hc : me_c G (M.2.1 a) (fun j => if j = i.toNat then me_nar t x else M.2.2.1 a j) (M.2.2.2.1 a) = .inl (t, n, .inl (upd (M.2.2.1 a) i.toNat (me_nar t x))) := by
    unfold me_c
    rw [ht, if_neg (by show ¬ 2 * t % 2 = 1; omega), if_pos (by show 2 * t / 2 < 3; omega), show (2 * t, n).1 / 2 = t by show 2 * t / 2 = t; omega]
    rfl
  rw [hc]
  rcases h3 with rfl | rfl
  · rw [if_pos rfl]
    rfl
  · rw [if_neg (by decide), if_pos rfl]
    rfl
/-- an object, or null, into an array of objects -/
theorem me_aast {a t n ce : Nat} {i : Int} {p : Option Nat} {q' : Nat × Nat} (hI : mv_gI G y pc = some (.aastore, 1)) (h3 : ¬ t < 3) (hE : mv_gE G t = some ce) (hk : sx_ek t = 2 * ce + 1) (hq : p = none ∨ q'.1 = sx_ek t) (h0 : 0 ≤ i) (h1 : i < n) (h2 : me_r i) (kk : me_W G y d (pc + 1) L r (me_sP M a i.toNat p) Q) : me_W G y d pc L (.inr (.inl (p, q')) :: .inl i :: .inr (.inl (some a, 2 * t, n)) :: r) M Q := by
  intro fb lb lo hp g1 g2 g3 g4 g5
  obtain ⟨ha, ht⟩ := me_hd (me_al_pop (me_al_pop g4))
  have hv := me_hd g4
  have hb : ∀ b, p = some b → b < M.1 ∧ (M.2.1 b).1 = sx_ek t := by
    intro b hb
    subst hb
    rcases hq with e | e
    · cases e
    · exact ⟨hv.1, by rw [hv.2]; exact e⟩
  obtain ⟨e1, e2⟩ := me_out h0 h1 h2
  have e5 : (M.2.1 a).1 / 2 = t := by rw [ht]; show 2 * t / 2 = t; omega
  have e6 : ¬ (M.2.1 a).1 % 2 = 1 := by rw [ht]; show ¬ 2 * t % 2 = 1; omega
  have hR := me_sP_R (k := i.toNat) (p := p) g5 ha (fun z => absurd z e6) (fun _ => by rw [e5]; exact hb) (fun z => absurd z e6)
  have hc : me_c G (M.2.1 a) (M.2.2.1 a) (fun j => if j = i.toNat then p else M.2.2.2.1 a j) = .inl (t, n, .inr (.inr (.inr (.inr (va_up (M.2.2.2.1 a) i.toNat p))))) := by
    unfold me_c
    rw [if_neg e6, e5, if_neg h3, ht]
    rfl
  rw [hc] at hR
  obtain ⟨o, M', hp', k1, k2, k3, k4⟩ := kk fb lb lo _ g1 g2 g3 (me_al_pop (me_al_pop (me_al_pop g4))) hR
  refine ⟨o, M', hp', me_ex (S' := (pc + 1, lo, r.map me_v, _, M.2.2.2.2.1, M.2.2.2.2.2)) ?_ ?_ k1, k2, k3, k4⟩
  · unfold mv_nat
    simp only [hI]
    cases p with
    | none => rfl
    | some b =>
      show mv_aasA G pc lo (.ref b :: .int _ :: .ref a :: r.map me_v) hp _ _ = none
      unfold mv_aasA
      obtain ⟨z1, z2⟩ := hb b rfl
      have z3 := me_cell_ob (ci := ce) g5 z1 rfl (by rw [z2, hk])
      simp only [me_cell_p g5 ha ht h3, z3]
  · unfold mv_exec
    simp only [hI]
    show mv_og (mv_g 1 1 (mv_aast G pc lo (va_rf p :: .int (Int32.ofInt i) :: .ref a :: r.map me_v) hp _ _)) = _
    unfold mv_g mv_aast
    rw [if_pos rfl]
    dsimp only
    rw [me_cell_p g5 ha ht h3]
    dsimp only
    rw [hE]
    dsimp only
    rw [if_pos e1, e2]
    cases p with
    | none => rfl
    | some b =>
      obtain ⟨z1, z2⟩ := hb b rfl
      have z3 := me_cell_ob (ci := ce) g5 z1 rfl (by rw [z2, hk])
      show mv_og (match hp[b]? with
        | some (.inr (cj, _)) => if cj = ce then _ else none
        | _ => none) = _
      rw [z3]
      dsimp only
      rw [if_pos rfl]
      rfl
/-- an array into an array of such -/
theorem me_aasA {a b t t2 n n2 : Nat} {i : Int} (hI : mv_gI G y pc = some (.aastore, 1)) (h3 : ¬ t < 3) (hB : mv_gB G t = some t2) (hk : sx_ek t = 2 * t2) (h0 : 0 ≤ i) (h1 : i < n) (h2 : me_r i) (kk : me_W G y d (pc + 1) L r (me_sP M a i.toNat (some b)) Q) : me_W G y d pc L (.inr (.inl (some b, 2 * t2, n2)) :: .inl i :: .inr (.inl (some a, 2 * t, n)) :: r) M Q := by
  intro fb lb lo hp g1 g2 g3 g4 g5
  obtain ⟨ha, ht⟩ := me_hd (me_al_pop (me_al_pop g4))
  obtain ⟨hb1, hb2⟩ := me_hd g4
  obtain ⟨e1, e2⟩ := me_out h0 h1 h2
  have e5 : (M.2.1 a).1 / 2 = t := by rw [ht]; show 2 * t / 2 = t; omega
  have e6 : ¬ (M.2.1 a).1 % 2 = 1 := by rw [ht]; show ¬ 2 * t % 2 = 1; omega
  have hR := me_sP_R (k := i.toNat) (p := some b) g5 ha (fun z => absurd z e6) (fun _ c hc => by cases hc; exact ⟨hb1, by rw [hb2, e5, hk]⟩) (fun z => absurd z e6)
  have hc : me_c G (M.2.1 a) (M.2.2.1 a) (fun j => if j = i.toNat then some b else M.2.2.2.1 a j) = .inl (t, n, .inr (.inr (.inr (.inr (va_up (M.2.2.2.1 a) i.toNat (some b)))))) := by
    unfold me_c
    rw [if_neg e6, e5, if_neg h3, ht]
    rfl
  rw [hc] at hR
  obtain ⟨o, M', hp', k1, k2, k3, k4⟩ := kk fb lb lo _ g1 g2 g3 (me_al_pop (me_al_pop (me_al_pop g4))) hR
  refine ⟨o, M', hp', me_na (S' := (pc + 1, lo, r.map me_v, _, M.2.2.2.2.1, M.2.2.2.2.2)) ?_ k1, k2, k3, k4⟩
  unfold mv_nat
  simp only [hI]
  show mv_aasA G pc lo (.ref b :: .int (Int32.ofInt i) :: .ref a :: r.map me_v) hp _ _ = _
  unfold mv_aasA
  have hcb : ∃ z, hp[b]? = some (.inl (t2, z)) := by
    by_cases h9 : t2 < 3
    · exact ⟨_, me_cell_i g5 hb1 hb2 h9⟩
    · exact ⟨_, me_cell_p g5 hb1 hb2 h9⟩
  obtain ⟨z, hz⟩ := hcb
  simp only [me_cell_p g5 ha ht h3, hz]
  rw [if_pos ⟨hB, e1⟩, e2]
end MES
