/-! rows of the small machine: numbers, the stack, jumps -/
section MVN
variable {base : Nat} {ad dA : Nat → Nat} {D : va_G} {cl : List vw_C} {nL : Nat} {p : Program} {l : Launch} {e : Env} {R : Room} {s : State} {m : MethodId} {args : Array Value} {below : List Frame} {meth : Method} {c : Code} {Q : State → Prop} {cc : ByteArray} {G : mv_G} {y pc : Nat} {lo : List (Nat × Value)} {st : List Value} {hp : List va_E} {cb sb : Nat} {S : mv_S}
theorem mr_iadd (hx : p.tables.exec = Jvm.exec) (hb : c.code = cc) (hdg : decode cc pc = .ok (.iadd, 1)) (h : mv_bin pc lo st hp cb sb mv_f_iadd = some (.inl S)) (k : mv_K base ad dA D cl nL p l e R s m args below meth c Q S) : mv_K base ad dA D cl nL p l e R s m args below meth c Q (pc, lo, st, hp, cb, sb) := by
  intro H ls locs cells slots I
  unfold mv_bin at h
  split at h
  · cases h
    exact lv_iadd hx hb hdg (k H ls locs cells slots I)
  · cases h
theorem mr_isub (hx : p.tables.exec = Jvm.exec) (hb : c.code = cc) (hdg : decode cc pc = .ok (.isub, 1)) (h : mv_bin pc lo st hp cb sb mv_f_isub = some (.inl S)) (k : mv_K base ad dA D cl nL p l e R s m args below meth c Q S) : mv_K base ad dA D cl nL p l e R s m args below meth c Q (pc, lo, st, hp, cb, sb) := by
  intro H ls locs cells slots I
  unfold mv_bin at h
  split at h
  · cases h
    exact lv_isub hx hb hdg (k H ls locs cells slots I)
  · cases h
theorem mr_imul (hx : p.tables.exec = Jvm.exec) (hb : c.code = cc) (hdg : decode cc pc = .ok (.imul, 1)) (h : mv_bin pc lo st hp cb sb mv_f_imul = some (.inl S)) (k : mv_K base ad dA D cl nL p l e R s m args below meth c Q S) : mv_K base ad dA D cl nL p l e R s m args below meth c Q (pc, lo, st, hp, cb, sb) := by
  intro H ls locs cells slots I
  unfold mv_bin at h
  split at h
  · cases h
    exact lv_imul hx hb hdg (k H ls locs cells slots I)
  · cases h
theorem mr_iand (hx : p.tables.exec = Jvm.exec) (hb : c.code = cc) (hdg : decode cc pc = .ok (.iand, 1)) (h : mv_bin pc lo st hp cb sb mv_f_iand = some (.inl S)) (k : mv_K base ad dA D cl nL p l e R s m args below meth c Q S) : mv_K base ad dA D cl nL p l e R s m args below meth c Q (pc, lo, st, hp, cb, sb) := by
  intro H ls locs cells slots I
  unfold mv_bin at h
  split at h
  · cases h
    exact lv_iand hx hb hdg (k H ls locs cells slots I)
  · cases h
theorem mr_ior (hx : p.tables.exec = Jvm.exec) (hb : c.code = cc) (hdg : decode cc pc = .ok (.ior, 1)) (h : mv_bin pc lo st hp cb sb mv_f_ior = some (.inl S)) (k : mv_K base ad dA D cl nL p l e R s m args below meth c Q S) : mv_K base ad dA D cl nL p l e R s m args below meth c Q (pc, lo, st, hp, cb, sb) := by
  intro H ls locs cells slots I
  unfold mv_bin at h
  split at h
  · cases h
    exact lv_ior hx hb hdg (k H ls locs cells slots I)
  · cases h
theorem mr_ixor (hx : p.tables.exec = Jvm.exec) (hb : c.code = cc) (hdg : decode cc pc = .ok (.ixor, 1)) (h : mv_bin pc lo st hp cb sb mv_f_ixor = some (.inl S)) (k : mv_K base ad dA D cl nL p l e R s m args below meth c Q S) : mv_K base ad dA D cl nL p l e R s m args below meth c Q (pc, lo, st, hp, cb, sb) := by
  intro H ls locs cells slots I
  unfold mv_bin at h
  split at h
  · cases h
    exact lv_ixor hx hb hdg (k H ls locs cells slots I)
  · cases h
theorem mr_ishl (hx : p.tables.exec = Jvm.exec) (hb : c.code = cc) (hdg : decode cc pc = .ok (.ishl, 1)) (h : mv_bin pc lo st hp cb sb mv_f_ishl = some (.inl S)) (k : mv_K base ad dA D cl nL p l e R s m args below meth c Q S) : mv_K base ad dA D cl nL p l e R s m args below meth c Q (pc, lo, st, hp, cb, sb) := by
  intro H ls locs cells slots I
  unfold mv_bin at h
  split at h
  · cases h
    exact lv_ishl hx hb hdg (k H ls locs cells slots I)
  · cases h
theorem mr_ishr (hx : p.tables.exec = Jvm.exec) (hb : c.code = cc) (hdg : decode cc pc = .ok (.ishr, 1)) (h : mv_bin pc lo st hp cb sb mv_f_ishr = some (.inl S)) (k : mv_K base ad dA D cl nL p l e R s m args below meth c Q S) : mv_K base ad dA D cl nL p l e R s m args below meth c Q (pc, lo, st, hp, cb, sb) := by
  intro H ls locs cells slots I
  unfold mv_bin at h
  split at h
  · cases h
    exact lv_ishr hx hb hdg (k H ls locs cells slots I)
  · cases h
theorem mr_iushr (hx : p.tables.exec = Jvm.exec) (hb : c.code = cc) (hdg : decode cc pc = .ok (.iushr, 1)) (h : mv_bin pc lo st hp cb sb mv_f_iushr = some (.inl S)) (k : mv_K base ad dA D cl nL p l e R s m args below meth c Q S) : mv_K base ad dA D cl nL p l e R s m args below meth c Q (pc, lo, st, hp, cb, sb) := by
  intro H ls locs cells slots I
  unfold mv_bin at h
  split at h
  · cases h
    exact lv_iushr hx hb hdg rfl (k H ls locs cells slots I)
  · cases h
theorem mr_idiv (hx : p.tables.exec = Jvm.exec) (hb : c.code = cc) (hdg : decode cc pc = .ok (.idiv, 1)) (h : mv_dvd pc lo st hp cb sb mv_f_idiv = some (.inl S)) (k : mv_K base ad dA D cl nL p l e R s m args below meth c Q S) : mv_K base ad dA D cl nL p l e R s m args below meth c Q (pc, lo, st, hp, cb, sb) := by
  intro H ls locs cells slots I
  unfold mv_dvd at h
  split at h
  · split at h
    · cases h
    · rename_i hne
      cases h
      exact lv_idiv hx hb hdg hne (k H ls locs cells slots I)
  · cases h
theorem mr_irem (hx : p.tables.exec = Jvm.exec) (hb : c.code = cc) (hdg : decode cc pc = .ok (.irem, 1)) (h : mv_dvd pc lo st hp cb sb mv_f_irem = some (.inl S)) (k : mv_K base ad dA D cl nL p l e R s m args below meth c Q S) : mv_K base ad dA D cl nL p l e R s m args below meth c Q (pc, lo, st, hp, cb, sb) := by
  intro H ls locs cells slots I
  unfold mv_dvd at h
  split at h
  · split at h
    · cases h
    · rename_i hne
      cases h
      exact lv_irem hx hb hdg hne (k H ls locs cells slots I)
  · cases h
theorem mr_ineg (hx : p.tables.exec = Jvm.exec) (hb : c.code = cc) (hdg : decode cc pc = .ok (.ineg, 1)) (h : mv_un pc lo st hp cb sb mv_f_ineg = some (.inl S)) (k : mv_K base ad dA D cl nL p l e R s m args below meth c Q S) : mv_K base ad dA D cl nL p l e R s m args below meth c Q (pc, lo, st, hp, cb, sb) := by
  intro H ls locs cells slots I
  unfold mv_un at h
  split at h
  · cases h
    exact lv_ineg hx hb hdg (k H ls locs cells slots I)
  · cases h
theorem mr_i2b (hx : p.tables.exec = Jvm.exec) (hb : c.code = cc) (hdg : decode cc pc = .ok (.i2b, 1)) (h : mv_un pc lo st hp cb sb mv_f_i2b = some (.inl S)) (k : mv_K base ad dA D cl nL p l e R s m args below meth c Q S) : mv_K base ad dA D cl nL p l e R s m args below meth c Q (pc, lo, st, hp, cb, sb) := by
  intro H ls locs cells slots I
  unfold mv_un at h
  split at h
  · cases h
    exact lv_i2b hx hb hdg rfl (k H ls locs cells slots I)
  · cases h
theorem mr_i2c (hx : p.tables.exec = Jvm.exec) (hb : c.code = cc) (hdg : decode cc pc = .ok (.i2c, 1)) (h : mv_un pc lo st hp cb sb mv_f_i2c = some (.inl S)) (k : mv_K base ad dA D cl nL p l e R s m args below meth c Q S) : mv_K base ad dA D cl nL p l e R s m args below meth c Q (pc, lo, st, hp, cb, sb) := by
  intro H ls locs cells slots I
  unfold mv_un at h
  split at h
  · cases h
    exact lv_i2c hx hb hdg rfl (k H ls locs cells slots I)
  · cases h
theorem mr_iconst (hx : p.tables.exec = Jvm.exec) (hb : c.code = cc) {n : Int} (hdg : decode cc pc = .ok (.iconst n, 1)) (h : mv_push pc lo st hp cb sb 1 (.int (Int32.ofInt n)) = some (.inl S)) (k : mv_K base ad dA D cl nL p l e R s m args below meth c Q S) : mv_K base ad dA D cl nL p l e R s m args below meth c Q (pc, lo, st, hp, cb, sb) := by
  intro H ls locs cells slots I
  cases h
  exact lv_iconst hx hb hdg rfl (k H ls locs cells slots I)
theorem mr_bipush (hx : p.tables.exec = Jvm.exec) (hb : c.code = cc) {n : Int} (hdg : decode cc pc = .ok (.bipush n, 2)) (h : mv_push pc lo st hp cb sb 2 (.int ((Int8.ofInt n).toInt32)) = some (.inl S)) (k : mv_K base ad dA D cl nL p l e R s m args below meth c Q S) : mv_K base ad dA D cl nL p l e R s m args below meth c Q (pc, lo, st, hp, cb, sb) := by
  intro H ls locs cells slots I
  cases h
  exact lv_bipush hx hb hdg rfl (k H ls locs cells slots I)
theorem mr_sipush (hx : p.tables.exec = Jvm.exec) (hb : c.code = cc) {n : Int} (hdg : decode cc pc = .ok (.sipush n, 3)) (h : mv_push pc lo st hp cb sb 3 (.int ((Int16.ofInt n).toInt32)) = some (.inl S)) (k : mv_K base ad dA D cl nL p l e R s m args below meth c Q S) : mv_K base ad dA D cl nL p l e R s m args below meth c Q (pc, lo, st, hp, cb, sb) := by
  intro H ls locs cells slots I
  cases h
  exact lv_sipush hx hb hdg rfl (k H ls locs cells slots I)
theorem mr_null (hx : p.tables.exec = Jvm.exec) (hb : c.code = cc) (hdg : decode cc pc = .ok (.aconst_null, 1)) (h : mv_push pc lo st hp cb sb 1 .null = some (.inl S)) (k : mv_K base ad dA D cl nL p l e R s m args below meth c Q S) : mv_K base ad dA D cl nL p l e R s m args below meth c Q (pc, lo, st, hp, cb, sb) := by
  intro H ls locs cells slots I
  cases h
  exact lv_null hx hb hdg (k H ls locs cells slots I)
theorem mr_dup (hx : p.tables.exec = Jvm.exec) (hb : c.code = cc) (hdg : decode cc pc = .ok (.dup, 1)) (h : mv_dup pc lo st hp cb sb = some (.inl S)) (k : mv_K base ad dA D cl nL p l e R s m args below meth c Q S) : mv_K base ad dA D cl nL p l e R s m args below meth c Q (pc, lo, st, hp, cb, sb) := by
  intro H ls locs cells slots I
  unfold mv_dup at h
  split at h
  · split at h
    · rename_i hv
      cases h
      exact lv_dup hx hb hdg (by rw [mv_v_cat]; exact hv) (k H ls locs cells slots I)
    · cases h
  · cases h
theorem mr_pop (hx : p.tables.exec = Jvm.exec) (hb : c.code = cc) (hdg : decode cc pc = .ok (.pop, 1)) (h : mv_pop pc lo st hp cb sb = some (.inl S)) (k : mv_K base ad dA D cl nL p l e R s m args below meth c Q S) : mv_K base ad dA D cl nL p l e R s m args below meth c Q (pc, lo, st, hp, cb, sb) := by
  intro H ls locs cells slots I
  unfold mv_pop at h
  split at h
  · split at h
    · rename_i hv
      cases h
      exact lv_pop hx hb hdg (by rw [mv_v_cat]; exact hv) (k H ls locs cells slots I)
    · cases h
  · cases h
theorem mr_dup_x1 (hx : p.tables.exec = Jvm.exec) (hb : c.code = cc) (hdg : decode cc pc = .ok (.dup_x1, 1)) (h : mv_dupx pc lo st hp cb sb = some (.inl S)) (k : mv_K base ad dA D cl nL p l e R s m args below meth c Q S) : mv_K base ad dA D cl nL p l e R s m args below meth c Q (pc, lo, st, hp, cb, sb) := by
  intro H ls locs cells slots I
  unfold mv_dupx at h
  split at h
  · split at h
    · rename_i hv
      cases h
      exact lv_dup_x1 hx hb hdg (by rw [mv_v_cat]; exact hv.1) (by rw [mv_v_cat]; exact hv.2) (k H ls locs cells slots I)
    · cases h
  · cases h
theorem mr_dup2 (hx : p.tables.exec = Jvm.exec) (hb : c.code = cc) (hdg : decode cc pc = .ok (.dup2, 1)) (h : mv_dup2 pc lo st hp cb sb = some (.inl S)) (k : mv_K base ad dA D cl nL p l e R s m args below meth c Q S) : mv_K base ad dA D cl nL p l e R s m args below meth c Q (pc, lo, st, hp, cb, sb) := by
  intro H ls locs cells slots I
  unfold mv_dup2 at h
  split at h
  · split at h
    · rename_i hv
      cases h
      exact lv_dup2_11 hx hb hdg (by rw [mv_v_cat]; exact hv.1) (by rw [mv_v_cat]; exact hv.2) (k H ls locs cells slots I)
    · cases h
  · cases h
theorem mv_jump_s {off : Int} {r : List Value} {b : Bool} (h : mv_jump pc lo hp cb sb off b r = some (.inl S)) : ∃ t : Nat, (pc : Int) + off = (t : Int) ∧ (b = true → S = (t, lo, r, hp, cb, sb)) ∧ (b = false → S = (pc + 3, lo, r, hp, cb, sb)) := by
  unfold mv_jump at h
  split at h
  · rename_i t ht
    cases h
    exact ⟨t, mv_tgt_eq ht, fun e => by rw [e]; rfl, fun e => by rw [e]; rfl⟩
  · cases h
theorem mr_goto (hx : p.tables.exec = Jvm.exec) (hb : c.code = cc) {off : Int} (hdg : decode cc pc = .ok (.goto off, 3)) (h : mv_jump pc lo hp cb sb off true st = some (.inl S)) (k : mv_K base ad dA D cl nL p l e R s m args below meth c Q S) : mv_K base ad dA D cl nL p l e R s m args below meth c Q (pc, lo, st, hp, cb, sb) := by
  intro H ls locs cells slots I
  obtain ⟨t, ht, h1, -⟩ := mv_jump_s h
  obtain rfl := h1 rfl
  exact lv_goto hx hb hdg ht (k H ls locs cells slots I)
theorem mr_if_eq (hx : p.tables.exec = Jvm.exec) (hb : c.code = cc) {off : Int} (hdg : decode cc pc = .ok (.ifCond .eq off, 3)) (h : mv_if pc lo st hp cb sb .eq off = some (.inl S)) (k : mv_K base ad dA D cl nL p l e R s m args below meth c Q S) : mv_K base ad dA D cl nL p l e R s m args below meth c Q (pc, lo, st, hp, cb, sb) := by
  intro H ls locs cells slots I
  unfold mv_if at h
  split at h
  · rename_i a r
    obtain ⟨t, ht, h1, h2⟩ := mv_jump_s h
    exact lv_if_eq hx hb hdg ht (fun hP => by obtain rfl := h1 (by simp [mv_cond, hP]); exact k H ls locs cells slots I) (fun hP => by obtain rfl := h2 (by simp [mv_cond, hP]); exact k H ls locs cells slots I)
  · cases h
theorem mr_icmp_eq (hx : p.tables.exec = Jvm.exec) (hb : c.code = cc) {off : Int} (hdg : decode cc pc = .ok (.if_icmp .eq off, 3)) (h : mv_icmp pc lo st hp cb sb .eq off = some (.inl S)) (k : mv_K base ad dA D cl nL p l e R s m args below meth c Q S) : mv_K base ad dA D cl nL p l e R s m args below meth c Q (pc, lo, st, hp, cb, sb) := by
  intro H ls locs cells slots I
  unfold mv_icmp at h
  split at h
  · rename_i b a r
    obtain ⟨t, ht, h1, h2⟩ := mv_jump_s h
    exact lv_icmp_eq hx hb hdg ht (fun hP => by obtain rfl := h1 (by simp [mv_cond, hP]); exact k H ls locs cells slots I) (fun hP => by obtain rfl := h2 (by simp [mv_cond, hP]); exact k H ls locs cells slots I)
  · cases h
theorem mr_if_ne (hx : p.tables.exec = Jvm.exec) (hb : c.code = cc) {off : Int} (hdg : decode cc pc = .ok (.ifCond .ne off, 3)) (h : mv_if pc lo st hp cb sb .ne off = some (.inl S)) (k : mv_K base ad dA D cl nL p l e R s m args below meth c Q S) : mv_K base ad dA D cl nL p l e R s m args below meth c Q (pc, lo, st, hp, cb, sb) := by
  intro H ls locs cells slots I
  unfold mv_if at h
  split at h
  · rename_i a r
    obtain ⟨t, ht, h1, h2⟩ := mv_jump_s h
    exact lv_if_ne hx hb hdg ht (fun hP => by obtain rfl := h1 (by simp [mv_cond, hP]); exact k H ls locs cells slots I) (fun hP => by obtain rfl := h2 (by simp [mv_cond, hP]); exact k H ls locs cells slots I)
  · cases h
theorem mr_icmp_ne (hx : p.tables.exec = Jvm.exec) (hb : c.code = cc) {off : Int} (hdg : decode cc pc = .ok (.if_icmp .ne off, 3)) (h : mv_icmp pc lo st hp cb sb .ne off = some (.inl S)) (k : mv_K base ad dA D cl nL p l e R s m args below meth c Q S) : mv_K base ad dA D cl nL p l e R s m args below meth c Q (pc, lo, st, hp, cb, sb) := by
  intro H ls locs cells slots I
  unfold mv_icmp at h
  split at h
  · rename_i b a r
    obtain ⟨t, ht, h1, h2⟩ := mv_jump_s h
    exact lv_icmp_ne hx hb hdg ht (fun hP => by obtain rfl := h1 (by simp [mv_cond, hP]); exact k H ls locs cells slots I) (fun hP => by obtain rfl := h2 (by simp [mv_cond, hP]); exact k H ls locs cells slots I)
  · cases h
theorem mr_if_lt (hx : p.tables.exec = Jvm.exec) (hb : c.code = cc) {off : Int} (hdg : decode cc pc = .ok (.ifCond .lt off, 3)) (h : mv_if pc lo st hp cb sb .lt off = some (.inl S)) (k : mv_K base ad dA D cl nL p l e R s m args below meth c Q S) : mv_K base ad dA D cl nL p l e R s m args below meth c Q (pc, lo, st, hp, cb, sb) := by
  intro H ls locs cells slots I
  unfold mv_if at h
  split at h
  · rename_i a r
    obtain ⟨t, ht, h1, h2⟩ := mv_jump_s h
    exact lv_if_lt hx hb hdg ht (fun hP => by obtain rfl := h1 (by simp [mv_cond, hP]); exact k H ls locs cells slots I) (fun hP => by obtain rfl := h2 (by simp [mv_cond, hP]); exact k H ls locs cells slots I)
  · cases h
theorem mr_icmp_lt (hx : p.tables.exec = Jvm.exec) (hb : c.code = cc) {off : Int} (hdg : decode cc pc = .ok (.if_icmp .lt off, 3)) (h : mv_icmp pc lo st hp cb sb .lt off = some (.inl S)) (k : mv_K base ad dA D cl nL p l e R s m args below meth c Q S) : mv_K base ad dA D cl nL p l e R s m args below meth c Q (pc, lo, st, hp, cb, sb) := by
  intro H ls locs cells slots I
  unfold mv_icmp at h
  split at h
  · rename_i b a r
    obtain ⟨t, ht, h1, h2⟩ := mv_jump_s h
    exact lv_icmp_lt hx hb hdg ht (fun hP => by obtain rfl := h1 (by simp [mv_cond, hP]); exact k H ls locs cells slots I) (fun hP => by obtain rfl := h2 (by simp [mv_cond, hP]); exact k H ls locs cells slots I)
  · cases h
theorem mr_if_ge (hx : p.tables.exec = Jvm.exec) (hb : c.code = cc) {off : Int} (hdg : decode cc pc = .ok (.ifCond .ge off, 3)) (h : mv_if pc lo st hp cb sb .ge off = some (.inl S)) (k : mv_K base ad dA D cl nL p l e R s m args below meth c Q S) : mv_K base ad dA D cl nL p l e R s m args below meth c Q (pc, lo, st, hp, cb, sb) := by
  intro H ls locs cells slots I
  unfold mv_if at h
  split at h
  · rename_i a r
    obtain ⟨t, ht, h1, h2⟩ := mv_jump_s h
    exact lv_if_ge hx hb hdg ht (fun hP => by obtain rfl := h1 (by simp [mv_cond, hP]); exact k H ls locs cells slots I) (fun hP => by obtain rfl := h2 (by simp [mv_cond, hP]); exact k H ls locs cells slots I)
  · cases h
theorem mr_icmp_ge (hx : p.tables.exec = Jvm.exec) (hb : c.code = cc) {off : Int} (hdg : decode cc pc = .ok (.if_icmp .ge off, 3)) (h : mv_icmp pc lo st hp cb sb .ge off = some (.inl S)) (k : mv_K base ad dA D cl nL p l e R s m args below meth c Q S) : mv_K base ad dA D cl nL p l e R s m args below meth c Q (pc, lo, st, hp, cb, sb) := by
  intro H ls locs cells slots I
  unfold mv_icmp at h
  split at h
  · rename_i b a r
    obtain ⟨t, ht, h1, h2⟩ := mv_jump_s h
    exact lv_icmp_ge hx hb hdg ht (fun hP => by obtain rfl := h1 (by simp [mv_cond, hP]); exact k H ls locs cells slots I) (fun hP => by obtain rfl := h2 (by simp [mv_cond, hP]); exact k H ls locs cells slots I)
  · cases h
theorem mr_if_gt (hx : p.tables.exec = Jvm.exec) (hb : c.code = cc) {off : Int} (hdg : decode cc pc = .ok (.ifCond .gt off, 3)) (h : mv_if pc lo st hp cb sb .gt off = some (.inl S)) (k : mv_K base ad dA D cl nL p l e R s m args below meth c Q S) : mv_K base ad dA D cl nL p l e R s m args below meth c Q (pc, lo, st, hp, cb, sb) := by
  intro H ls locs cells slots I
  unfold mv_if at h
  split at h
  · rename_i a r
    obtain ⟨t, ht, h1, h2⟩ := mv_jump_s h
    exact lv_if_gt hx hb hdg ht (fun hP => by obtain rfl := h1 (by simp [mv_cond, hP]); exact k H ls locs cells slots I) (fun hP => by obtain rfl := h2 (by simp [mv_cond, hP]); exact k H ls locs cells slots I)
  · cases h
theorem mr_icmp_gt (hx : p.tables.exec = Jvm.exec) (hb : c.code = cc) {off : Int} (hdg : decode cc pc = .ok (.if_icmp .gt off, 3)) (h : mv_icmp pc lo st hp cb sb .gt off = some (.inl S)) (k : mv_K base ad dA D cl nL p l e R s m args below meth c Q S) : mv_K base ad dA D cl nL p l e R s m args below meth c Q (pc, lo, st, hp, cb, sb) := by
  intro H ls locs cells slots I
  unfold mv_icmp at h
  split at h
  · rename_i b a r
    obtain ⟨t, ht, h1, h2⟩ := mv_jump_s h
    exact lv_icmp_gt hx hb hdg ht (fun hP => by obtain rfl := h1 (by simp [mv_cond, hP]); exact k H ls locs cells slots I) (fun hP => by obtain rfl := h2 (by simp [mv_cond, hP]); exact k H ls locs cells slots I)
  · cases h
theorem mr_if_le (hx : p.tables.exec = Jvm.exec) (hb : c.code = cc) {off : Int} (hdg : decode cc pc = .ok (.ifCond .le off, 3)) (h : mv_if pc lo st hp cb sb .le off = some (.inl S)) (k : mv_K base ad dA D cl nL p l e R s m args below meth c Q S) : mv_K base ad dA D cl nL p l e R s m args below meth c Q (pc, lo, st, hp, cb, sb) := by
  intro H ls locs cells slots I
  unfold mv_if at h
  split at h
  · rename_i a r
    obtain ⟨t, ht, h1, h2⟩ := mv_jump_s h
    exact lv_if_le hx hb hdg ht (fun hP => by obtain rfl := h1 (by simp [mv_cond, hP]); exact k H ls locs cells slots I) (fun hP => by obtain rfl := h2 (by simp [mv_cond, hP]); exact k H ls locs cells slots I)
  · cases h
theorem mr_icmp_le (hx : p.tables.exec = Jvm.exec) (hb : c.code = cc) {off : Int} (hdg : decode cc pc = .ok (.if_icmp .le off, 3)) (h : mv_icmp pc lo st hp cb sb .le off = some (.inl S)) (k : mv_K base ad dA D cl nL p l e R s m args below meth c Q S) : mv_K base ad dA D cl nL p l e R s m args below meth c Q (pc, lo, st, hp, cb, sb) := by
  intro H ls locs cells slots I
  unfold mv_icmp at h
  split at h
  · rename_i b a r
    obtain ⟨t, ht, h1, h2⟩ := mv_jump_s h
    exact lv_icmp_le hx hb hdg ht (fun hP => by obtain rfl := h1 (by simp [mv_cond, hP]); exact k H ls locs cells slots I) (fun hP => by obtain rfl := h2 (by simp [mv_cond, hP]); exact k H ls locs cells slots I)
  · cases h
theorem mv_ptr_rf {v : Value} {o : Option Nat} (h : mv_ptr v = some o) : mv_v ad v = va_rf (o.map ad) ∧ ∀ a, o = some a → a < mv_big := by
  unfold mv_ptr at h
  split at h
  · cases h
    exact ⟨rfl, fun a q => by cases q⟩
  · split at h
    · rename_i hlt
      cases h
      exact ⟨rfl, fun a q => by cases q; exact hlt⟩
    · cases h
  · cases h
theorem mv_ptr_eq {x z : Option Nat} (hi : ∀ i j, i < mv_big → j < mv_big → ad i = ad j → i = j) (h1 : ∀ a, x = some a → a < mv_big) (h2 : ∀ a, z = some a → a < mv_big) : x.map ad = z.map ad ↔ x = z := by
  constructor
  · intro q
    cases x with
    | none => cases z with
      | none => rfl
      | some b => cases q
    | some a => cases z with
      | none => cases q
      | some b =>
        have := hi a b (h1 a rfl) (h2 b rfl) (Option.some.inj q)
        rw [this]
  · intro q
    rw [q]
theorem mr_acmp_eq (hx : p.tables.exec = Jvm.exec) (hb : c.code = cc) (hi : ∀ i j, i < mv_big → j < mv_big → ad i = ad j → i = j) {off : Int} (hdg : decode cc pc = .ok (.if_acmp .eq off, 3)) (h : mv_acmp pc lo st hp cb sb .eq off = some (.inl S)) (k : mv_K base ad dA D cl nL p l e R s m args below meth c Q S) : mv_K base ad dA D cl nL p l e R s m args below meth c Q (pc, lo, st, hp, cb, sb) := by
  intro H ls locs cells slots I
  unfold mv_acmp at h
  split at h
  · rename_i b a r
    split at h
    · rename_i x z e1 e2
      obtain ⟨t, ht, h1, h2⟩ := mv_jump_s h
      obtain ⟨f1, g1⟩ := mv_ptr_rf (ad := ad) e1
      obtain ⟨f2, g2⟩ := mv_ptr_rf (ad := ad) e2
      have hq := mv_ptr_eq hi g1 g2
      show W p l e R s m args below meth c H locs cells slots Q (F0 m pc ls (mv_v ad b :: mv_v ad a :: r.map (mv_v ad)))
      rw [f1, f2]
      exact lv_acmp_eq hx hb hdg ht (fun hP => by rw [hq] at hP; obtain rfl := h1 (by simp [hP]); exact k H ls locs cells slots I) (fun hP => by rw [hq] at hP; obtain rfl := h2 (by simp [hP]); exact k H ls locs cells slots I)
    · cases h
  · cases h
theorem mr_acmp_ne (hx : p.tables.exec = Jvm.exec) (hb : c.code = cc) (hi : ∀ i j, i < mv_big → j < mv_big → ad i = ad j → i = j) {off : Int} (hdg : decode cc pc = .ok (.if_acmp .ne off, 3)) (h : mv_acmp pc lo st hp cb sb .ne off = some (.inl S)) (k : mv_K base ad dA D cl nL p l e R s m args below meth c Q S) : mv_K base ad dA D cl nL p l e R s m args below meth c Q (pc, lo, st, hp, cb, sb) := by
  intro H ls locs cells slots I
  unfold mv_acmp at h
  split at h
  · rename_i b a r
    split at h
    · rename_i x z e1 e2
      obtain ⟨t, ht, h1, h2⟩ := mv_jump_s h
      obtain ⟨f1, g1⟩ := mv_ptr_rf (ad := ad) e1
      obtain ⟨f2, g2⟩ := mv_ptr_rf (ad := ad) e2
      have hq := mv_ptr_eq hi g1 g2
      show W p l e R s m args below meth c H locs cells slots Q (F0 m pc ls (mv_v ad b :: mv_v ad a :: r.map (mv_v ad)))
      rw [f1, f2]
      exact lv_acmp_ne hx hb hdg ht (fun hP => by rw [hq] at hP; obtain rfl := h1 (by simp [hP]); exact k H ls locs cells slots I) (fun hP => by rw [hq] at hP; obtain rfl := h2 (by simp [hP]); exact k H ls locs cells slots I)
    · cases h
  · cases h
theorem mr_ifnull (hx : p.tables.exec = Jvm.exec) (hb : c.code = cc) {off : Int} (hdg : decode cc pc = .ok (.ifnull off, 3)) (h : mv_ifn pc lo st hp cb sb true off = some (.inl S)) (k : mv_K base ad dA D cl nL p l e R s m args below meth c Q S) : mv_K base ad dA D cl nL p l e R s m args below meth c Q (pc, lo, st, hp, cb, sb) := by
  intro H ls locs cells slots I
  unfold mv_ifn at h
  split at h
  · obtain ⟨t, ht, h1, -⟩ := mv_jump_s h
    obtain rfl := h1 rfl
    exact lv_ifnullN hx hb hdg ht (k H ls locs cells slots I)
  · obtain ⟨t, ht, -, h2⟩ := mv_jump_s h
    obtain rfl := h2 rfl
    exact lv_ifnull hx hb hdg (k H ls locs cells slots I)
  · cases h
theorem mr_ifnonnull (hx : p.tables.exec = Jvm.exec) (hb : c.code = cc) {off : Int} (hdg : decode cc pc = .ok (.ifnonnull off, 3)) (h : mv_ifn pc lo st hp cb sb false off = some (.inl S)) (k : mv_K base ad dA D cl nL p l e R s m args below meth c Q S) : mv_K base ad dA D cl nL p l e R s m args below meth c Q (pc, lo, st, hp, cb, sb) := by
  intro H ls locs cells slots I
  unfold mv_ifn at h
  split at h
  · obtain ⟨t, ht, -, h2⟩ := mv_jump_s h
    obtain rfl := h2 rfl
    exact lv_ifnonnullN hx hb hdg (k H ls locs cells slots I)
  · obtain ⟨t, ht, h1, -⟩ := mv_jump_s h
    obtain rfl := h1 rfl
    exact lv_ifnonnull hx hb hdg ht (k H ls locs cells slots I)
  · cases h
theorem mr_tsw (hx : p.tables.exec = Jvm.exec) (hb : c.code = cc) {d lw hg : Int} {offs : Array Int} {len : Nat} (hdg : decode cc pc = .ok (.tableswitch d lw hg offs, len)) (h : mv_tsw pc lo st hp cb sb d lw hg offs = some (.inl S)) (k : mv_K base ad dA D cl nL p l e R s m args below meth c Q S) : mv_K base ad dA D cl nL p l e R s m args below meth c Q (pc, lo, st, hp, cb, sb) := by
  intro H ls locs cells slots I
  unfold mv_tsw at h
  split at h
  · rename_i x r
    split at h
    · rename_i hq
      split at h
      · rename_i t ht
        cases h
        exact lv_tableOut hx hb hdg hq (mv_tgt_eq ht) (k H ls locs cells slots I)
      · cases h
    · rename_i hq
      split at h
      · rename_i off ho
        split at h
        · rename_i t ht
          cases h
          exact lv_tableIn hx hb hdg (fun q => hq (Or.inl q)) (fun q => hq (Or.inr q)) ho (mv_tgt_eq ht) (k H ls locs cells slots I)
        · cases h
      · cases h
  · cases h
theorem mr_lsw (hx : p.tables.exec = Jvm.exec) (hb : c.code = cc) {d : Int} {ps : Array (Int × Int)} {len : Nat} (hdg : decode cc pc = .ok (.lookupswitch d ps, len)) (h : mv_lsw pc lo st hp cb sb d ps = some (.inl S)) (k : mv_K base ad dA D cl nL p l e R s m args below meth c Q S) : mv_K base ad dA D cl nL p l e R s m args below meth c Q (pc, lo, st, hp, cb, sb) := by
  intro H ls locs cells slots I
  unfold mv_lsw at h
  split at h
  · rename_i x r
    split at h
    · rename_i hq
      split at h
      · rename_i t ht
        cases h
        exact lv_lookup hx hb hdg hq rfl (mv_tgt_eq ht) (k H ls locs cells slots I)
      · cases h
    · cases h
  · cases h
end MVN
