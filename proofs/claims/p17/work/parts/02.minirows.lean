/-! rows of the small machine over the real one: what it holds there, and the instructions that leave the heap alone -/
def mv_ad (base : Nat) (kt : Nat → Nat) (a : Nat) : Nat := if a < mv_big then base + a else kt (a - mv_big)
def mv_v (ad : Nat → Nat) : Value → Value
  | .ref a => .ref (ad a)
  | v => v
def mv_l (ad : Nat → Nat) (l : List (Nat × Value)) : List (Nat × Value) := l.map (fun q => (q.1, mv_v ad q.2))
def mv_e (ad dA : Nat → Nat) : va_E → va_E
  | .inl (t, n, .inl f) => .inl (dA t, n, .inl f)
  | .inl (t, n, .inr (.inl f)) => .inl (dA t, n, .inr (.inl f))
  | .inl (t, n, .inr (.inr (.inl f))) => .inl (dA t, n, .inr (.inr (.inl f)))
  | .inl (t, n, .inr (.inr (.inr (.inl f)))) => .inl (dA t, n, .inr (.inr (.inr (.inl f))))
  | .inl (t, n, .inr (.inr (.inr (.inr g)))) => .inl (dA t, n, .inr (.inr (.inr (.inr (fun i => (g i).map ad)))))
  | .inr (c, fs) => .inr (c, fs.map (mv_v ad))
def mv_w (ad dA : Nat → Nat) : Nat → List va_E → va_W
  | _, [] => []
  | k, e :: r => (ad k, mv_e ad dA e) :: mv_w ad dA (k + 1) r
theorem mv_v_cat (ad : Nat → Nat) (v : Value) : (mv_v ad v).category = v.category := by cases v <;> rfl
theorem mv_keep_l (ad : Nat → Nat) (i : Nat) : ∀ l : List (Nat × Value), mv_l ad (mv_keep i l) = mv_keep i (mv_l ad l)
  | [] => rfl
  | q :: r => by
    have ih := mv_keep_l ad i r
    unfold mv_l mv_keep at ih ⊢
    rw [List.filter_cons, List.map_cons, List.filter_cons]
    simp only [mv_v_cat]
    split
    · rw [List.map_cons, ih]
    · exact ih
theorem mv_l_at {ad : Nat → Nat} {l : List (Nat × Value)} {k i : Nat} {v : Value} (h : l[k]? = some (i, v)) : (mv_l ad l)[k]? = some (i, mv_v ad v) := by
  unfold mv_l
  rw [List.getElem?_map, h]
  rfl
theorem mv_w_at {ad dA : Nat → Nat} : ∀ (hp : List va_E) (n k : Nat) (e : va_E), hp[k]? = some e → (mv_w ad dA n hp)[k]? = some (ad (n + k), mv_e ad dA e)
  | [], _, _, _, h => by simp at h
  | _ :: _, n, 0, _, h => by
    cases h
    rfl
  | _ :: r, n, k + 1, e, h => by
    have := mv_w_at (ad := ad) (dA := dA) r (n + 1) k e h
    rw [show n + (k + 1) = n + 1 + k by omega]
    exact this
theorem mv_w_len (ad dA : Nat → Nat) : ∀ (hp : List va_E) (n : Nat), (mv_w ad dA n hp).length = hp.length
  | [], _ => rfl
  | _ :: r, n => congrArg (· + 1) (mv_w_len ad dA r (n + 1))
theorem mv_w_of {ad dA : Nat → Nat} {hp : List va_E} {n k : Nat} {q : Nat × va_E} (h : (mv_w ad dA n hp)[k]? = some q) : ∃ e, hp[k]? = some e ∧ q = (ad (n + k), mv_e ad dA e) := by
  have hk : k < hp.length := by
    rw [← mv_w_len ad dA hp n]
    exact (List.getElem?_eq_some_iff.mp h).1
  have h1 : hp[k]? = some hp[k] := List.getElem?_eq_getElem hk
  refine ⟨_, h1, ?_⟩
  rw [mv_w_at hp n k _ h1] at h
  exact (Option.some.inj h).symm
theorem mv_w_set {ad dA : Nat → Nat} : ∀ (hp : List va_E) (n k : Nat) (e : va_E), (mv_w ad dA n hp).set k (ad (n + k), mv_e ad dA e) = mv_w ad dA n (hp.set k e)
  | [], _, _, _ => rfl
  | _ :: _, n, 0, _ => rfl
  | _ :: r, n, k + 1, e => by
    have := mv_w_set (ad := ad) (dA := dA) r (n + 1) k e
    rw [show n + (k + 1) = n + 1 + k by omega]
    exact congrArg (List.cons _) this
theorem mv_w_app {ad dA : Nat → Nat} : ∀ (hp : List va_E) (n : Nat) (r : List va_E), mv_w ad dA n (hp ++ r) = mv_w ad dA n hp ++ mv_w ad dA (n + hp.length) r
  | [], _, _ => rfl
  | _ :: q, n, r => by
    have := mv_w_app (ad := ad) (dA := dA) q (n + 1) r
    rw [List.length_cons, show n + (q.length + 1) = n + 1 + q.length by omega]
    exact congrArg (List.cons _) this
/-- what holds where the small machine stands at S: base: the address of its pointer 0 -/
def mv_inv (base : Nat) (ad dA : Nat → Nat) (D : va_G) (cl : List vw_C) (nL : Nat) (R : Room) (s : State) (S : mv_S) (H : Heap) (ls : Array Slot) (locs : List Loc) (cells slots : Nat) : Prop :=
  lv_has ls nL (mv_l ad S.2.1) ∧ va_P D cl (mv_w ad dA 0 S.2.2.2.1) H ∧ H.size = base + S.2.2.2.1.length ∧ va_S (fun q => base ≤ q) s.heap H locs ∧ cells + S.2.2.2.2.1 ≤ R.cells ∧ slots + S.2.2.2.2.2 ≤ R.slots ∧ S.2.2.2.1.length + S.2.2.2.2.1 ≤ mv_big
/-- the real machine goes on well from every place at which the small one stands at S -/
def mv_K (base : Nat) (ad dA : Nat → Nat) (D : va_G) (cl : List vw_C) (nL : Nat) (p : Program) (l : Launch) (e : Env) (R : Room) (s : State) (m : MethodId) (args : Array Value) (below : List Frame) (meth : Method) (c : Code) (Q : State → Prop) (S : mv_S) : Prop :=
  ∀ (H : Heap) (ls : Array Slot) (locs : List Loc) (cells slots : Nat), mv_inv base ad dA D cl nL R s S H ls locs cells slots → W p l e R s m args below meth c H locs cells slots Q (F0 m S.1 ls (S.2.2.1.map (mv_v ad)))
theorem mv_inv_st {base : Nat} {ad dA : Nat → Nat} {D : va_G} {cl : List vw_C} {nL : Nat} {R : Room} {s : State} {pc pc' i cb sb : Nat} {lo : List (Nat × Value)} {st st' : List Value} {hp : List va_E} {H : Heap} {ls ls' : Array Slot} {locs : List Loc} {cells slots : Nat} {v w : Value} (hl : lv_has ls' nL ((i, w) :: mv_keep i (mv_l ad lo))) (I : mv_inv base ad dA D cl nL R s (pc, lo, st, hp, cb, sb) H ls locs cells slots) (hw : w = mv_v ad v := by rfl) : mv_inv base ad dA D cl nL R s (pc', (i, v) :: mv_keep i lo, st', hp, cb, sb) H ls' locs cells slots := by
  refine ⟨?_, I.2⟩
  show lv_has ls' nL ((i, mv_v ad v) :: mv_l ad (mv_keep i lo))
  rw [mv_keep_l, ← hw]
  exact hl
section MVR
variable {base : Nat} {ad dA : Nat → Nat} {D : va_G} {cl : List vw_C} {nL : Nat} {p : Program} {l : Launch} {e : Env} {R : Room} {s : State} {m : MethodId} {args : Array Value} {below : List Frame} {meth : Method} {c : Code} {Q : State → Prop} {cc : ByteArray} {G : mv_G} {y pc : Nat} {lo : List (Nat × Value)} {st : List Value} {hp : List va_E} {cb sb : Nat} {S : mv_S}
theorem mr_iload (hx : p.tables.exec = Jvm.exec) (hb : c.code = cc) {i : Nat} (hdg : decode cc pc = .ok (.iload i, 2)) (h : mv_load pc lo st hp cb sb i 2 mv_int = some (.inl S)) (k : mv_K base ad dA D cl nL p l e R s m args below meth c Q S) : mv_K base ad dA D cl nL p l e R s m args below meth c Q (pc, lo, st, hp, cb, sb) := by
  intro H ls locs cells slots I
  unfold mv_load at h
  split at h
  · rename_i j v hf
    split at h
    · rename_i hv
      cases h
      cases v <;> simp [mv_int] at hv
      obtain ⟨-, h2⟩ := mv_find_at _ _ _ _ hf
      exact lv_iload hx hb hdg (lv_at I.1 _ (mv_l_at h2)) (k H ls locs cells slots I)
    · cases h
  · cases h
theorem mr_iload_n (hx : p.tables.exec = Jvm.exec) (hb : c.code = cc) {i : Fin 4} (hdg : decode cc pc = .ok (.iload_n i, 1)) (h : mv_load pc lo st hp cb sb i 1 mv_int = some (.inl S)) (k : mv_K base ad dA D cl nL p l e R s m args below meth c Q S) : mv_K base ad dA D cl nL p l e R s m args below meth c Q (pc, lo, st, hp, cb, sb) := by
  intro H ls locs cells slots I
  unfold mv_load at h
  split at h
  · rename_i j v hf
    split at h
    · rename_i hv
      cases h
      cases v <;> simp [mv_int] at hv
      obtain ⟨-, h2⟩ := mv_find_at _ _ _ _ hf
      exact lv_iload_n hx hb hdg rfl (lv_at I.1 _ (mv_l_at h2)) (k H ls locs cells slots I)
    · cases h
  · cases h
theorem mr_aload (hx : p.tables.exec = Jvm.exec) (hb : c.code = cc) {i : Nat} (hdg : decode cc pc = .ok (.aload i, 2)) (h : mv_load pc lo st hp cb sb i 2 mv_rfv = some (.inl S)) (k : mv_K base ad dA D cl nL p l e R s m args below meth c Q S) : mv_K base ad dA D cl nL p l e R s m args below meth c Q (pc, lo, st, hp, cb, sb) := by
  intro H ls locs cells slots I
  unfold mv_load at h
  split at h
  · rename_i j v hf
    split at h
    · rename_i hv
      cases h
      obtain ⟨-, h2⟩ := mv_find_at _ _ _ _ hf
      cases v <;> simp [mv_rfv] at hv
      · exact lv_aloadN hx hb hdg (lv_at I.1 _ (mv_l_at h2)) (k H ls locs cells slots I)
      · exact lv_aload hx hb hdg (lv_at I.1 _ (mv_l_at h2)) (k H ls locs cells slots I)
    · cases h
  · cases h
theorem mr_aload_n (hx : p.tables.exec = Jvm.exec) (hb : c.code = cc) {i : Fin 4} (hdg : decode cc pc = .ok (.aload_n i, 1)) (h : mv_load pc lo st hp cb sb i 1 mv_rfv = some (.inl S)) (k : mv_K base ad dA D cl nL p l e R s m args below meth c Q S) : mv_K base ad dA D cl nL p l e R s m args below meth c Q (pc, lo, st, hp, cb, sb) := by
  intro H ls locs cells slots I
  unfold mv_load at h
  split at h
  · rename_i j v hf
    split at h
    · rename_i hv
      cases h
      obtain ⟨-, h2⟩ := mv_find_at _ _ _ _ hf
      cases v <;> simp [mv_rfv] at hv
      · exact lv_aload_nN hx hb hdg rfl (lv_at I.1 _ (mv_l_at h2)) (k H ls locs cells slots I)
      · exact lv_aload_n hx hb hdg rfl (lv_at I.1 _ (mv_l_at h2)) (k H ls locs cells slots I)
    · cases h
  · cases h
theorem mr_istore (hx : p.tables.exec = Jvm.exec) (hb : c.code = cc) (hn : mv_gL G y = nL) {i : Nat} (hdg : decode cc pc = .ok (.istore i, 2)) (h : mv_store G y pc lo st hp cb sb i 2 mv_int = some (.inl S)) (k : mv_K base ad dA D cl nL p l e R s m args below meth c Q S) : mv_K base ad dA D cl nL p l e R s m args below meth c Q (pc, lo, st, hp, cb, sb) := by
  intro H ls locs cells slots I
  unfold mv_store at h
  split at h
  · rename_i v r
    split at h
    · rename_i hv
      cases h
      cases v <;> simp [mv_int] at hv
      exact lv_istore hx hb hdg I.1 (by omega) rfl (fun ls' hl' => k H ls' locs cells slots (mv_inv_st hl' I))
    · cases h
  · cases h
theorem mr_istore_n (hx : p.tables.exec = Jvm.exec) (hb : c.code = cc) (hn : mv_gL G y = nL) {i : Fin 4} (hdg : decode cc pc = .ok (.istore_n i, 1)) (h : mv_store G y pc lo st hp cb sb i 1 mv_int = some (.inl S)) (k : mv_K base ad dA D cl nL p l e R s m args below meth c Q S) : mv_K base ad dA D cl nL p l e R s m args below meth c Q (pc, lo, st, hp, cb, sb) := by
  intro H ls locs cells slots I
  unfold mv_store at h
  split at h
  · rename_i v r
    split at h
    · rename_i hv
      cases h
      cases v <;> simp [mv_int] at hv
      exact lv_istore_n hx hb hdg rfl I.1 (by omega) rfl (fun ls' hl' => k H ls' locs cells slots (mv_inv_st hl' I))
    · cases h
  · cases h
theorem mr_astore (hx : p.tables.exec = Jvm.exec) (hb : c.code = cc) (hn : mv_gL G y = nL) {i : Nat} (hdg : decode cc pc = .ok (.astore i, 2)) (h : mv_store G y pc lo st hp cb sb i 2 mv_rfv = some (.inl S)) (k : mv_K base ad dA D cl nL p l e R s m args below meth c Q S) : mv_K base ad dA D cl nL p l e R s m args below meth c Q (pc, lo, st, hp, cb, sb) := by
  intro H ls locs cells slots I
  unfold mv_store at h
  split at h
  · rename_i v r
    split at h
    · rename_i hv
      cases h
      cases v <;> simp [mv_rfv] at hv
      · exact lv_astoreN hx hb hdg I.1 (by omega) rfl (fun ls' hl' => k H ls' locs cells slots (mv_inv_st hl' I))
      · exact lv_astore hx hb hdg I.1 (by omega) rfl (fun ls' hl' => k H ls' locs cells slots (mv_inv_st hl' I))
    · cases h
  · cases h
theorem mr_astore_n (hx : p.tables.exec = Jvm.exec) (hb : c.code = cc) (hn : mv_gL G y = nL) {i : Fin 4} (hdg : decode cc pc = .ok (.astore_n i, 1)) (h : mv_store G y pc lo st hp cb sb i 1 mv_rfv = some (.inl S)) (k : mv_K base ad dA D cl nL p l e R s m args below meth c Q S) : mv_K base ad dA D cl nL p l e R s m args below meth c Q (pc, lo, st, hp, cb, sb) := by
  intro H ls locs cells slots I
  unfold mv_store at h
  split at h
  · rename_i v r
    split at h
    · rename_i hv
      cases h
      cases v <;> simp [mv_rfv] at hv
      · exact lv_astore_nN hx hb hdg rfl I.1 (by omega) rfl (fun ls' hl' => k H ls' locs cells slots (mv_inv_st hl' I))
      · exact lv_astore_n hx hb hdg rfl I.1 (by omega) rfl (fun ls' hl' => k H ls' locs cells slots (mv_inv_st hl' I))
    · cases h
  · cases h
theorem mr_inc (hx : p.tables.exec = Jvm.exec) (hb : c.code = cc) (hn : mv_gL G y = nL) {i : Nat} {n : Int} (hdg : decode cc pc = .ok (.iinc i n, 3)) (h : mv_inc G y pc lo st hp cb sb i n 3 = some (.inl S)) (k : mv_K base ad dA D cl nL p l e R s m args below meth c Q S) : mv_K base ad dA D cl nL p l e R s m args below meth c Q (pc, lo, st, hp, cb, sb) := by
  intro H ls locs cells slots I
  unfold mv_inc at h
  split at h
  · rename_i j x hf
    split at h
    · rename_i hv
      cases h
      obtain ⟨-, h2⟩ := mv_find_at _ _ _ _ hf
      exact lv_iinc hx hb hdg I.1 (mv_l_at h2) rfl (by omega) rfl (fun ls' hl' => k H ls' locs cells slots (mv_inv_st hl' I))
    · cases h
  · cases h
theorem mr_incW (hx : p.tables.exec = Jvm.exec) (hb : c.code = cc) (hn : mv_gL G y = nL) {i : Nat} {n : Int} (hdg : decode cc pc = .ok (.iinc i n, 6)) (h : mv_inc G y pc lo st hp cb sb i n 6 = some (.inl S)) (k : mv_K base ad dA D cl nL p l e R s m args below meth c Q S) : mv_K base ad dA D cl nL p l e R s m args below meth c Q (pc, lo, st, hp, cb, sb) := by
  intro H ls locs cells slots I
  unfold mv_inc at h
  split at h
  · rename_i j x hf
    split at h
    · rename_i hv
      cases h
      obtain ⟨-, h2⟩ := mv_find_at _ _ _ _ hf
      exact lv_iincW hx hb hdg I.1 (mv_l_at h2) rfl (by omega) rfl (fun ls' hl' => k H ls' locs cells slots (mv_inv_st hl' I))
    · cases h
  · cases h
end MVR
