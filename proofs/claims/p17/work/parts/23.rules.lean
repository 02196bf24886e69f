/-! the rules of me_: an instruction each -/
def me_i (M : me_M) (a k : Nat) : Int := (M.2.2.1 a k).toInt
def me_p (M : me_M) (a k : Nat) : Option Nat := M.2.2.2.1 a k
def me_sI (M : me_M) (a k : Nat) (x : Int32) : me_M := (M.1, M.2.1, fun b j => if b = a ∧ j = k then x else M.2.2.1 b j, M.2.2.2)
def me_sP (M : me_M) (a k : Nat) (p : Option Nat) : me_M := (M.1, M.2.1, M.2.2.1, fun b j => if b = a ∧ j = k then p else M.2.2.2.1 b j, M.2.2.2.2)
def me_nw (M : me_M) (q : Nat × Nat) (s : Nat) : me_M := (M.1 + 1, fun b => if b = M.1 then q else M.2.1 b, fun b j => if b = M.1 then 0 else M.2.2.1 b j, fun b j => if b = M.1 then none else M.2.2.2.1 b j, M.2.2.2.2.1 - 1, M.2.2.2.2.2 - s)
/-- what holds of the tables -/
def me_hG (G : mv_G) : Prop := (∀ a, a < mv_big → mv_gS G a = none) ∧ (∀ ci, ci < sx_fkT.length → me_fs G ci (fun _ => 0) (fun _ => none) = mv_gD G ci) ∧ (∀ a, a < mv_big → mv_gX2 G a = none)
theorem me_i_r (M : me_M) (a k : Nat) : me_r (me_i M a k) := ⟨Int32.le_toInt _, Int32.toInt_lt _⟩
section MER
variable {G : mv_G} {y d pc : Nat} {L : List (Option me_V)} {st r : List me_V} {M : me_M} {Q : me_Q} {hp : List va_E}
theorem me_cell_ob (h : me_R G M hp) {a ci : Nat} {q : Nat × Nat} (ha : a < M.1) (ht : M.2.1 a = q) (hq : q.1 = 2 * ci + 1) : hp[a]? = some (.inr (ci, me_fs G ci (M.2.2.1 a) (M.2.2.2.1 a))) := by
  rw [h.2.2.1 a ha, ht]
  unfold me_c
  rw [if_pos (by omega), show q.1 / 2 = ci by omega]
theorem me_cell_i (h : me_R G M hp) {a t n : Nat} (ha : a < M.1) (ht : M.2.1 a = (2 * t, n)) (h3 : t < 3) : hp[a]? = some (.inl (t, n, .inl (M.2.2.1 a))) := by
  rw [h.2.2.1 a ha, ht]
  unfold me_c
  rw [if_neg (by show ¬ 2 * t % 2 = 1; omega), if_pos (by show 2 * t / 2 < 3; omega), show 2 * t / 2 = t by omega]
theorem me_cell_p (h : me_R G M hp) {a t n : Nat} (ha : a < M.1) (ht : M.2.1 a = (2 * t, n)) (h3 : ¬ t < 3) : hp[a]? = some (.inl (t, n, .inr (.inr (.inr (.inr (M.2.2.2.1 a)))))) := by
  rw [h.2.2.1 a ha, ht]
  unfold me_c
  rw [if_neg (by show ¬ 2 * t % 2 = 1; omega), if_neg (by show ¬ 2 * t / 2 < 3; omega), show 2 * t / 2 = t by omega]
theorem me_fs_at {ci k : Nat} {I : Nat → Int32} {P : Nat → Option Nat} (hk : k < (mv_gD G ci).length) : (me_fs G ci I P)[k]? = some (if me_ik G ci k = true then .int (I k) else va_rf (P k)) := by
  unfold me_fs
  rw [List.getElem?_map, List.getElem?_range hk]
  rfl
theorem me_fs_len (ci : Nat) (I : Nat → Int32) (P : Nat → Option Nat) : (me_fs G ci I P).length = (mv_gD G ci).length := by
  unfold me_fs
  rw [List.length_map, List.length_range]
theorem me_fs_setI {ci k : Nat} {I : Nat → Int32} {P : Nat → Option Nat} {x : Int32} (hi : me_ik G ci k = true) : (me_fs G ci I P).set k (.int x) = me_fs G ci (fun j => if j = k then x else I j) P := by
  apply List.ext_getElem?
  intro j
  rw [List.getElem?_set]
  by_cases hj : j < (mv_gD G ci).length
  · by_cases e : k = j
    · subst e
      rw [if_pos rfl, if_pos (by rw [me_fs_len]; exact hj), me_fs_at hj, if_pos hi, if_pos rfl]
    · rw [if_neg e, me_fs_at hj, me_fs_at hj, if_neg (Ne.symm e)]
  · have h1 : (me_fs G ci I P)[j]? = none := List.getElem?_eq_none (by rw [me_fs_len]; omega)
    have h2 : (me_fs G ci (fun j => if j = k then x else I j) P)[j]? = none := List.getElem?_eq_none (by rw [me_fs_len]; omega)
    rw [h1, h2]
    split
    · rw [if_neg (by rw [me_fs_len]; omega)]
    · rfl
theorem me_fs_setP {ci k : Nat} {I : Nat → Int32} {P : Nat → Option Nat} {p : Option Nat} (hi : me_ik G ci k = false) : (me_fs G ci I P).set k (va_rf p) = me_fs G ci I (fun j => if j = k then p else P j) := by
  apply List.ext_getElem?
  intro j
  rw [List.getElem?_set]
  by_cases hj : j < (mv_gD G ci).length
  · by_cases e : k = j
    · subst e
      rw [if_pos rfl, if_pos (by rw [me_fs_len]; exact hj), me_fs_at hj, if_neg (by rw [hi]; decide), if_pos rfl]
    · rw [if_neg e, me_fs_at hj, me_fs_at hj, if_neg (Ne.symm e)]
  · have h1 : (me_fs G ci I P)[j]? = none := List.getElem?_eq_none (by rw [me_fs_len]; omega)
    have h2 : (me_fs G ci I (fun j => if j = k then p else P j))[j]? = none := List.getElem?_eq_none (by rw [me_fs_len]; omega)
    rw [h1, h2]
    split
    · rw [if_neg (by rw [me_fs_len]; omega)]
    · rfl
theorem me_hd {v : me_V} (h : me_al M L (v :: st)) : me_an M v := h.2 v List.mem_cons_self
/-- a cell's new contents -/
theorem me_R_set {M1 : me_M} {a : Nat} (h : me_R G M hp) (ha : a < M.1) (h1 : M1.1 = M.1) (h2 : M1.2.1 = M.2.1) (h3 : ∀ b, b ≠ a → M1.2.2.1 b = M.2.2.1 b ∧ M1.2.2.2.1 b = M.2.2.2.1 b) (h4 : M1.2.2.2.2 = M.2.2.2.2) (h5 : me_ty G M1) (h6 : me_sh M1) (h7 : me_by M1) : me_R G M1 (hp.set a (me_c G (M1.2.1 a) (M1.2.2.1 a) (M1.2.2.2.1 a))) := by
  refine ⟨by rw [List.length_set, h1]; exact h.1, by rw [h1, h4]; exact h.2.1, fun b hb => ?_, h5, h6, fun b hb => by rw [h2]; exact h.2.2.2.2.2.1 b (by rw [← h1]; exact hb), h7⟩
  rw [h1] at hb
  rw [List.getElem?_set]
  split
  · rename_i e
    subst e
    rw [if_pos (by rw [h.1]; exact ha)]
  · rename_i e
    rw [h.2.2.1 b hb, h2, (h3 b (Ne.symm e)).1, (h3 b (Ne.symm e)).2]
theorem me_sI_R {a k : Nat} {x : Int32} (h : me_R G M hp) (ha : a < M.1) (hx : ((M.2.1 a).1 = 2 → mv_fitT 1 x = true) ∧ ((M.2.1 a).1 = 4 → mv_fitT 2 x = true)) : me_R G (me_sI M a k x) (hp.set a (me_c G (M.2.1 a) (fun j => if j = k then x else M.2.2.1 a j) (M.2.2.2.1 a))) := by
  have := me_R_set (M1 := me_sI M a k x) h ha rfl rfl (fun b hb => ⟨by funext j; exact if_neg fun e => hb e.1, rfl⟩) rfl h.2.2.2.1 h.2.2.2.2.1 (fun b hb j => by
    show ((M.2.1 b).1 = 2 → mv_fitT 1 (if b = a ∧ j = k then x else M.2.2.1 b j) = true) ∧ ((M.2.1 b).1 = 4 → mv_fitT 2 (if b = a ∧ j = k then x else M.2.2.1 b j) = true)
    by_cases e : b = a ∧ j = k
    · rw [if_pos e, e.1]
      exact hx
    · rw [if_neg e]
      exact h.2.2.2.2.2.2 b hb j)
  have e : (me_sI M a k x).2.2.1 a = fun j => if j = k then x else M.2.2.1 a j := by
    funext j
    show (if a = a ∧ j = k then x else M.2.2.1 a j) = _
    by_cases hj : j = k
    · rw [if_pos ⟨rfl, hj⟩, if_pos hj]
    · rw [if_neg fun z => hj z.2, if_neg hj]
  rw [e] at this
  exact this
theorem me_sI_al {a k : Nat} {x : Int32} (h : me_al M L st) : me_al (me_sI M a k x) L st := h
theorem me_sP_R {a k : Nat} {p : Option Nat} (h : me_R G M hp) (ha : a < M.1) (h1 : (M.2.1 a).1 % 2 = 1 → me_ik G ((M.2.1 a).1 / 2) k = false → sx_fin ((M.2.1 a).1 / 2) (M.2.1 a).2 k = none ∧ ∀ b, p = some b → b < M.1 ∧ (M.2.1 b).1 = sx_fk ((M.2.1 a).1 / 2) k) (h2 : (M.2.1 a).1 % 2 = 0 → ∀ b, p = some b → b < M.1 ∧ (M.2.1 b).1 = sx_ek ((M.2.1 a).1 / 2)) (h0 : (M.2.1 a).1 % 2 = 1 → sx_fin ((M.2.1 a).1 / 2) (M.2.1 a).2 k = none) :
    me_R G (me_sP M a k p) (hp.set a (me_c G (M.2.1 a) (M.2.2.1 a) (fun j => if j = k then p else M.2.2.2.1 a j))) := by
  have hty : me_ty G (me_sP M a k p) := by
    intro b hb
    refine ⟨fun ho => ⟨(h.2.2.2.1 b hb).1 ho |>.1, fun j c hj hc => ?_⟩, fun he h3 i c hc => ?_⟩
    · have hc2 : (if b = a ∧ j = k then p else M.2.2.2.1 b j) = some c := hc
      clear hc
      by_cases e : b = a ∧ j = k
      · rw [if_pos e] at hc2
        obtain ⟨rfl, rfl⟩ := e
        exact (h1 ho hj).2 c hc2
      · rw [if_neg e] at hc2
        exact ((h.2.2.2.1 b hb).1 ho).2 j c hj hc2
    · have hc2 : (if b = a ∧ i = k then p else M.2.2.2.1 b i) = some c := hc
      clear hc
      by_cases e : b = a ∧ i = k
      · rw [if_pos e] at hc2
        obtain ⟨rfl, rfl⟩ := e
        exact h2 he c hc2
      · rw [if_neg e] at hc2
        exact (h.2.2.2.1 b hb).2 he h3 i c hc2
  have hsh : me_sh (me_sP M a k p) := by
    intro b hb ho j sg off q hf
    refine ⟨?_, (h.2.2.2.2.1 b hb ho j sg off q hf).2⟩
    show (if b = a ∧ j = k then p else M.2.2.2.1 b j) = _
    split
    · rename_i e
      obtain ⟨rfl, rfl⟩ := e
      have z := h0 ho
      have hf : sx_fin ((M.2.1 b).1 / 2) (M.2.1 b).2 j = some (sg, off, q) := hf
      rw [z] at hf
      cases hf
    · exact (h.2.2.2.2.1 b hb ho j sg off q hf).1
  have := me_R_set (M1 := me_sP M a k p) h ha rfl rfl (fun b hb => ⟨rfl, by funext j; exact if_neg fun e => hb e.1⟩) rfl hty hsh h.2.2.2.2.2.2
  have e : (me_sP M a k p).2.2.2.1 a = fun j => if j = k then p else M.2.2.2.1 a j := by
    funext j
    show (if a = a ∧ j = k then p else M.2.2.2.1 a j) = _
    by_cases hj : j = k
    · rw [if_pos ⟨rfl, hj⟩, if_pos hj]
    · rw [if_neg fun z => hj z.2, if_neg hj]
  rw [e] at this
  exact this
theorem me_geti {idx ci k a : Nat} {q : Nat × Nat} (hI : mv_gI G y pc = some (.getfield idx, 3)) (hF : mv_gF G y idx = some (ci, k)) (hk : k < (mv_gD G ci).length) (hi : me_ik G ci k = true) (hq : q.1 = 2 * ci + 1) (kk : me_W G y d (pc + 3) L (.inl (me_i M a k) :: r) M Q) : me_W G y d pc L (.inr (.inl (some a, q)) :: r) M Q := by
  refine me_st hI rfl (fun _ h => me_al_psh (v := .inl (me_i M a k)) (me_al_pop h) trivial) (fun lo hp h3 h4 h5 => ⟨lo, ?_, h3⟩) kk
  obtain ⟨ha, ht⟩ := me_hd h4
  show mv_g 3 3 (mv_get G y pc lo (.ref a :: r.map me_v) hp _ _ idx) = _
  unfold mv_g mv_get
  rw [if_pos rfl]
  dsimp only
  rw [me_cell_ob h5 ha ht hq, hF]
  dsimp only
  rw [if_pos rfl, me_fs_at hk]
  dsimp only
  rw [if_pos hi, ← me_of (M.2.2.1 a k)]
  rfl
theorem me_getp {idx ci k a : Nat} {q : Nat × Nat} (hI : mv_gI G y pc = some (.getfield idx, 3)) (hF : mv_gF G y idx = some (ci, k)) (hk : k < (mv_gD G ci).length) (hi : me_ik G ci k = false) (hq : q.1 = 2 * ci + 1) (kk : ∀ n, (∀ b, me_p M a k = some b → M.2.1 b = (sx_fk ci k, n)) → me_W G y d (pc + 3) L (.inr (.inl (me_p M a k, sx_fk ci k, n)) :: r) M Q) : me_W G y d pc L (.inr (.inl (some a, q)) :: r) M Q := by
  intro fb lb lo hp h1 h2 h3 h4 h5
  obtain ⟨ha, ht⟩ := me_hd h4
  have hty : ∀ b, me_p M a k = some b → b < M.1 ∧ (M.2.1 b).1 = sx_fk ci k := by
    intro b hb
    have h6 := ((h5.2.2.2.1 a ha).1 (by rw [ht]; omega)).2 k b
    rw [ht, show q.1 / 2 = ci by omega] at h6
    exact h6 hi hb
  obtain ⟨n, hn⟩ : ∃ n, ∀ b, me_p M a k = some b → M.2.1 b = (sx_fk ci k, n) := by
    cases hp9 : me_p M a k with
    | none => exact ⟨0, fun b hb => by cases hb⟩
    | some c => exact ⟨(M.2.1 c).2, fun b hb => by cases hb; rw [← (hty c hp9).2]⟩
  refine me_st (L' := L) (st' := .inr (.inl (me_p M a k, sx_fk ci k, n)) :: r) hI rfl (fun _ h => me_al_psh (me_al_pop h) ?_) (fun lo hp h3 h4 h5 => ⟨lo, ?_, h3⟩) (kk n hn) fb lb lo hp h1 h2 h3 h4 h5
  · cases hp9 : me_p M a k with
    | none => trivial
    | some c => exact ⟨(hty c hp9).1, hn c hp9⟩
  · show mv_g 3 3 (mv_get G y pc lo (.ref a :: r.map me_v) hp _ _ idx) = _
    unfold mv_g mv_get
    rw [if_pos rfl]
    dsimp only
    rw [me_cell_ob h5 ha ht hq, hF]
    dsimp only
    rw [if_pos rfl, me_fs_at hk]
    dsimp only
    rw [if_neg (by rw [hi]; decide)]
    rfl
/-- the kind is the object's class alone -/
theorem me_getp0 {idx ci k a : Nat} {q : Nat × Nat} (hI : mv_gI G y pc = some (.getfield idx, 3)) (hF : mv_gF G y idx = some (ci, k)) (hk : k < (mv_gD G ci).length) (hi : me_ik G ci k = false) (hq : q.1 = 2 * ci + 1) (h0 : sx_fk ci k % 2 = 1) (h15 : sx_fk ci k ≠ 15) (kk : me_W G y d (pc + 3) L (.inr (.inl (me_p M a k, sx_fk ci k, 0)) :: r) M Q) : me_W G y d pc L (.inr (.inl (some a, q)) :: r) M Q := by
  intro fb lb lo hp h1 h2 h3 h4 h5
  obtain ⟨ha, ht⟩ := me_hd h4
  refine me_getp hI hF hk hi hq (fun n hn => ?_) fb lb lo hp h1 h2 h3 h4 h5
  have hty : ∀ b, me_p M a k = some b → b < M.1 ∧ (M.2.1 b).1 = sx_fk ci k := by
    intro b hb
    have h6 := ((h5.2.2.2.1 a ha).1 (by rw [ht]; omega)).2 k b
    rw [ht, show q.1 / 2 = ci by omega] at h6
    exact h6 hi hb
  cases hp9 : me_p M a k with
  | none =>
    rw [hp9] at kk
    intro fb lb lo hp g1 g2 g3 g4 g5
    exact kk fb lb lo hp g1 g2 g3 ⟨g4.1, fun w hw => by
      rcases List.mem_cons.mp hw with rfl | hw
      · trivial
      · exact g4.2 w (List.mem_cons_of_mem _ hw)⟩ g5
  | some c =>
    have e : n = 0 := by
      obtain ⟨z1, z2⟩ := hty c hp9
      have z3 := ((h5.2.2.2.1 c z1).1 (by rw [z2]; exact h0)).1 (by rw [z2]; exact h15)
      have z4 := hn c hp9
      rw [z4] at z3
      exact z3
    subst e
    rw [hp9] at kk
    exact kk
/-- a final field of the first objects -/
theorem me_getf {idx ci k a sg off : Nat} {q q' : Nat × Nat} (hI : mv_gI G y pc = some (.getfield idx, 3)) (hF : mv_gF G y idx = some (ci, k)) (hk : k < (mv_gD G ci).length) (hi : me_ik G ci k = false) (hq : q.1 = 2 * ci + 1) (hf : sx_fin ci q.2 k = some (sg, off, q')) (kk : me_W G y d (pc + 3) L (.inr (.inl (some (sx_tg a sg off), q')) :: r) M Q) : me_W G y d pc L (.inr (.inl (some a, q)) :: r) M Q := by
  intro fb lb lo hp h1 h2 h3 h4 h5
  obtain ⟨ha, ht⟩ := me_hd h4
  have h6 := h5.2.2.2.2.1 a ha (by rw [ht]; omega) k sg off q' (by rw [ht, show q.1 / 2 = ci by omega]; exact hf)
  refine me_st (L' := L) (st' := .inr (.inl (some (sx_tg a sg off), q')) :: r) hI rfl (fun _ h => me_al_psh (me_al_pop h) h6.2) (fun lo hp h3 h4 h5 => ⟨lo, ?_, h3⟩) kk fb lb lo hp h1 h2 h3 h4 h5
  show mv_g 3 3 (mv_get G y pc lo (.ref a :: r.map me_v) hp _ _ idx) = _
  unfold mv_g mv_get
  rw [if_pos rfl]
  dsimp only
  rw [me_cell_ob h5 ha ht hq, hF]
  dsimp only
  rw [if_pos rfl, me_fs_at hk]
  dsimp only
  rw [if_neg (by rw [hi]; decide), h6.1]
  rfl
theorem me_puti {idx ci k a : Nat} {q : Nat × Nat} {x : Int} {ty : FieldType} (hI : mv_gI G y pc = some (.putfield idx, 3)) (hF : mv_gF G y idx = some (ci, k)) (hk : k < (mv_gD G ci).length) (hi : me_ik G ci k = true) (hq : q.1 = 2 * ci + 1) (hT : mv_gT G ci k = some ty) (hP : mv_gP G ci k = false) (hx : ty = .int ∨ ty = .boolean ∧ (x = 0 ∨ x = 1)) (kk : me_W G y d (pc + 3) L r (me_sI M a k (Int32.ofInt x)) Q) : me_W G y d pc L (.inl x :: .inr (.inl (some a, q)) :: r) M Q := by
  refine me_sm hI rfl (fun lo hp h4 h5 => ?_) kk
  obtain ⟨ha, ht⟩ := me_hd (me_al_pop h4)
  refine ⟨_, ?_, me_sI_R h5 ha ⟨fun z => by rw [ht] at z; omega, fun z => by rw [ht] at z; omega⟩, me_ext.rf _, me_al_pop (me_al_pop h4)⟩
  have hfit : narrow ty (.int (Int32.ofInt x)) = .int (Int32.ofInt x) ∧ fits ty (.int (Int32.ofInt x)) = true := by
    rcases hx with rfl | ⟨rfl, rfl | rfl⟩ <;> exact ⟨rfl, rfl⟩
  show mv_g 3 3 (mv_put G y pc lo (.int (Int32.ofInt x) :: .ref a :: r.map me_v) hp _ _ idx) = _
  unfold mv_g mv_put
  rw [if_pos rfl]
  dsimp only
  rw [me_cell_ob h5 ha ht hq, hF]
  dsimp only
  rw [hT]
  dsimp only
  rw [if_pos ⟨rfl, hfit.1, hfit.2, by rw [me_fs_len]; exact hk, fun e => by rw [hP] at e; cases e⟩, me_fs_setI hi]
  congr 6
  unfold me_c
  rw [ht, if_pos (by omega), show q.1 / 2 = ci by omega]
theorem me_putp {idx ci k a : Nat} {q q' : Nat × Nat} {p : Option Nat} {ty : FieldType} (hI : mv_gI G y pc = some (.putfield idx, 3)) (hF : mv_gF G y idx = some (ci, k)) (hk : k < (mv_gD G ci).length) (hi : me_ik G ci k = false) (hq : q.1 = 2 * ci + 1) (hT : mv_gT G ci k = some ty) (hR : ty.isReference = true) (hP : mv_gP G ci k = false) (hq' : p = none ∨ q'.1 = sx_fk ci k) (hfin : sx_fin ci q.2 k = none) (kk : me_W G y d (pc + 3) L r (me_sP M a k p) Q) : me_W G y d pc L (.inr (.inl (p, q')) :: .inr (.inl (some a, q)) :: r) M Q := by
  refine me_sm hI rfl (fun lo hp h4 h5 => ?_) kk
  obtain ⟨ha, ht⟩ := me_hd (me_al_pop h4)
  have hv := me_hd h4
  have hb : ∀ b, p = some b → b < M.1 ∧ (M.2.1 b).1 = sx_fk ci k := by
    intro b hb
    subst hb
    rcases hq' with e | e
    · cases e
    · exact ⟨hv.1, by rw [hv.2]; exact e⟩
  have e1 : (M.2.1 a).1 / 2 = ci := by rw [ht]; omega
  refine ⟨_, ?_, me_sP_R h5 ha (fun _ _ => ⟨by rw [e1, ht]; exact hfin, by rw [e1]; exact hb⟩) (fun he => by rw [ht] at he; omega) (fun _ => by rw [e1, ht]; exact hfin), me_ext.rf _, me_al_pop (me_al_pop h4)⟩
  have hfit : fits ty (va_rf p) = true ∧ narrow ty (va_rf p) = va_rf p := by
    cases ty <;> first | (cases hR; done) | (cases p <;> exact ⟨rfl, rfl⟩)
  show mv_g 3 3 (mv_put G y pc lo (va_rf p :: .ref a :: r.map me_v) hp _ _ idx) = _
  unfold mv_g mv_put
  rw [if_pos rfl]
  dsimp only
  rw [me_cell_ob h5 ha ht hq, hF]
  dsimp only
  rw [hT]
  dsimp only
  rw [if_pos ⟨rfl, hfit.2, hfit.1, by rw [me_fs_len]; exact hk, fun e => by rw [hP] at e; cases e⟩, me_fs_setP hi]
  congr 6
  unfold me_c
  rw [ht, if_pos (by omega), show q.1 / 2 = ci by omega]
/-- the kind is known otherwise -/
theorem me_getpv {idx ci k a s : Nat} {q : Nat × Nat} (hI : mv_gI G y pc = some (.getfield idx, 3)) (hF : mv_gF G y idx = some (ci, k)) (hk : k < (mv_gD G ci).length) (hi : me_ik G ci k = false) (hq : q.1 = 2 * ci + 1) (hv : ∀ b, me_p M a k = some b → M.2.1 b = (sx_fk ci k, s)) (kk : me_W G y d (pc + 3) L (.inr (.inl (me_p M a k, sx_fk ci k, s)) :: r) M Q) : me_W G y d pc L (.inr (.inl (some a, q)) :: r) M Q := by
  refine me_getp hI hF hk hi hq fun n hn => ?_
  cases hp9 : me_p M a k with
  | none =>
    rw [hp9] at kk
    intro fb lb lo hp g1 g2 g3 g4 g5
    exact kk fb lb lo hp g1 g2 g3 ⟨g4.1, fun w hw => by
      rcases List.mem_cons.mp hw with rfl | hw
      · trivial
      · exact g4.2 w (List.mem_cons_of_mem _ hw)⟩ g5
  | some c =>
    have e : n = s := by
      have z4 := hn c hp9
      rw [hv c hp9] at z4
      exact (Prod.mk.inj z4).2.symm
    subst e
    rw [hp9] at kk
    exact kk
end MER
