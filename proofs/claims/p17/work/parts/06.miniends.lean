/-! the small machine: how a call ends -/
section
variable (G : mv_G) (y pc : Nat) (st : List Value)
def mv_iret : Option mv_R := match st with
  | [.int v] => match mv_gR G y with
    | some ty => if narrow ty (.int v) = .int v then some (.inr (.inr (.inl (some (.int v))))) else none
    | none => none
  | _ => none
def mv_aret : Option mv_R := match st with
  | [v] => match mv_gR G y with
    | some ty => if ty.isReference = true ∧ mv_rfv v = true then some (.inr (.inr (.inl (some v)))) else none
    | none => none
  | _ => none
def mv_vret : Option mv_R := match st with
  | [] => match mv_gR G y with
    | none => some (.inr (.inr (.inl none)))
    | some _ => none
  | _ => none
def mv_throw : Option mv_R := match st with
  | .ref a :: _ => some (.inr (.inr (.inr a)))
  | _ => none
end
def mv_o (ad : Nat → Nat) : Nat ⊕ Option Value → Outcome
  | .inl a => .threw (ad a)
  | .inr v => .returned (v.map (mv_v ad))
/-- the end of a call, E, in the real machine: s behind its beginning, t at its end -/
def mv_end (base : Nat) (ad dA : Nat → Nat) (D : va_G) (cl : List vw_C) (R : Room) (s : State) (E : mv_E) (o : Outcome) (t : State) : Prop :=
  o = mv_o ad E.1 ∧ va_P D cl (mv_w ad dA 0 E.2.1) t.heap ∧ t.heap.size = base + E.2.1.length ∧ (∀ q : Nat, q < base → t.heap[q]? = s.heap[q]?) ∧ s.WarmedH t.vm ∧ (∃ (L : List Loc) (k n : Nat), k + E.2.2.1 ≤ R.cells ∧ n + E.2.2.2 ≤ R.slots ∧ s.sameButNew ({ t with vm := s.vm } : State) L k n ∧ ∀ q ∈ L, base ≤ q.base) ∧ E.2.1.length + E.2.2.1 ≤ mv_big
def mv_Z (base : Nat) (ad dA : Nat → Nat) (D : va_G) (cl : List vw_C) (R : Room) (s : State) (below : List Frame) (E : mv_E) : State → Prop := fun t => ∃ o, t.status = .running ∧ Ended t below o ∧ mv_end base ad dA D cl R s E o t
/-- the real machine goes on well where, standing at S, a has been thrown -/
def mv_KT (base : Nat) (ad dA : Nat → Nat) (D : va_G) (cl : List vw_C) (nL : Nat) (p : Program) (l : Launch) (e : Env) (R : Room) (s : State) (m : MethodId) (args : Array Value) (below : List Frame) (meth : Method) (c : Code) (Q : State → Prop) (S : mv_S) (a : Nat) : Prop :=
  ∀ (H : Heap) (ls : Array Slot) (locs : List Loc) (cells slots : Nat) (st : List Value), mv_inv base ad dA D cl nL R s S H ls locs cells slots → ∀ T : State, T.heap = H → Stand p l e R s m args below meth c T locs cells slots → ∃ t, Steps p.tables e below ((T.setTop (F0 m S.1 ls st)).pushFrame (.throwing (ad a))) t ∧ Q t
abbrev mv_MQ (base : Nat) (ad : Nat → Nat) (below : List Frame) (args : Array Value) (s : State) (cells slots : Nat) (H : Heap) (v : Option Value) : State → Prop := MQ below (fun _ _ o t => o = .returned (v.map (mv_v ad)) ∧ t.heap = H) args s cells slots (fun q => base ≤ q)
section MVE
variable {base : Nat} {kt dA : Nat → Nat} {D : va_G} {cl : List vw_C} {nL : Nat} {p : Program} {l : Launch} {e : Env} {R : Room} {s : State} {m : MethodId} {args : Array Value} {below : List Frame} {meth : Method} {c : Code} {Q : State → Prop} {cc : ByteArray} {G : mv_G} {y pc : Nat} {lo : List (Nat × Value)} {st : List Value} {hp : List va_E} {cb sb : Nat} {S : mv_S}
theorem mv_mono {H : Heap} {locs : List Loc} {cells slots : Nat} {Q' : State → Prop} {g : JFrame} (h : ∀ t, Q t → Q' t) (k : W p l e R s m args below meth c H locs cells slots Q g) : W p l e R s m args below meth c H locs cells slots Q' g := fun T hT X => by
  obtain ⟨t, a, b⟩ := k T hT X
  exact ⟨t, a, h t b⟩
theorem mv_end_ret {H : Heap} {ls : Array Slot} {locs : List Loc} {cells slots : Nat} {v : Option Value} (hbase : base ≤ s.heap.size) (I : mv_inv base (mv_ad base kt) dA D cl nL R s (pc, lo, st, hp, cb, sb) H ls locs cells slots) {t : State} (h : mv_MQ base (mv_ad base kt) below args s cells slots H v t) : mv_Z base (mv_ad base kt) dA D cl R s below (.inr v, hp, cb, sb) t := by
  obtain ⟨o, h1, h2, ⟨h3, h4⟩, L, ⟨h5, h6, h7⟩, h8⟩ := h
  obtain ⟨i1, i2, i3, i4, i5, i6, i7⟩ := I
  refine ⟨o, h1, h2, h3, by rw [h4]; exact i2, by rw [h4]; exact i3, fun q hq => ?_, h6, ⟨L, cells, slots, i5, i6, h7, h8⟩, i7⟩
  rw [h4]
  exact i4.2.1 q (by omega) (by omega)
theorem mr_iret (hx : p.tables.exec = Jvm.exec) (hb : c.code = cc) (hlocks : meth.locks = false) (hr : meth.sig.returnType = mv_gR G y) (hbase : base ≤ s.heap.size) (hdg : decode cc pc = .ok (.ireturn, 1)) {v : Option Value} (h : mv_iret G y st = some (.inr (.inr (.inl v)))) : mv_K base (mv_ad base kt) dA D cl nL p l e R s m args below meth c (mv_Z base (mv_ad base kt) dA D cl R s below (.inr v, hp, cb, sb)) (pc, lo, st, hp, cb, sb) := by
  intro H ls locs cells slots I
  unfold mv_iret at h
  split at h
  · rename_i x
    split at h
    · rename_i ty hty
      split at h
      · rename_i hn
        cases h
        refine mv_mono (Q := mv_MQ base (mv_ad base kt) below args s cells slots H _) (fun t => mv_end_ret hbase I) ?_
        exact W.zret (ty := ty) hx hb (hr.trans hty) hn (fun t ht _ => ⟨rfl, ht⟩) I.2.2.2.1.2.2 hdg
      · cases h
    · cases h
  · cases h
theorem mr_aret (hx : p.tables.exec = Jvm.exec) (hb : c.code = cc) (hlocks : meth.locks = false) (hr : meth.sig.returnType = mv_gR G y) (hbase : base ≤ s.heap.size) (hdg : decode cc pc = .ok (.areturn, 1)) {v : Option Value} (h : mv_aret G y st = some (.inr (.inr (.inl v)))) : mv_K base (mv_ad base kt) dA D cl nL p l e R s m args below meth c (mv_Z base (mv_ad base kt) dA D cl R s below (.inr v, hp, cb, sb)) (pc, lo, st, hp, cb, sb) := by
  intro H ls locs cells slots I
  unfold mv_aret at h
  split at h
  · rename_i x
    split at h
    · rename_i ty hty
      split at h
      · rename_i hn
        cases h
        refine mv_mono (Q := mv_MQ base (mv_ad base kt) below args s cells slots H _) (fun t => mv_end_ret hbase I) ?_
        have hrt : (∃ n, ty = .object n) ∨ ∃ t, ty = .array t := by
          cases ty <;> first | exact Or.inl ⟨_, rfl⟩ | exact Or.inr ⟨_, rfl⟩ | exact absurd hn.1 (by decide)
        have hv : mv_v (mv_ad base kt) x = .null ∨ ∃ a, mv_v (mv_ad base kt) x = .ref a := by
          cases x <;> first | exact Or.inl rfl | exact Or.inr ⟨_, rfl⟩ | exact absurd hn.2 (by simp [mv_rfv])
        exact W.aret (rt := ty) hx hb (hr.trans hty) hrt hv (fun t ht _ => ⟨rfl, ht⟩) I.2.2.2.1.2.2 hdg
      · cases h
    · cases h
  · cases h
theorem mr_vret (hx : p.tables.exec = Jvm.exec) (hb : c.code = cc) (hlocks : meth.locks = false) (hr : meth.sig.returnType = mv_gR G y) (hbase : base ≤ s.heap.size) (hdg : decode cc pc = .ok (.return_, 1)) {v : Option Value} (h : mv_vret G y st = some (.inr (.inr (.inl v)))) : mv_K base (mv_ad base kt) dA D cl nL p l e R s m args below meth c (mv_Z base (mv_ad base kt) dA D cl R s below (.inr v, hp, cb, sb)) (pc, lo, st, hp, cb, sb) := by
  intro H ls locs cells slots I
  unfold mv_vret at h
  split at h
  · split at h
    · rename_i hty
      cases h
      refine mv_mono (Q := mv_MQ base (mv_ad base kt) below args s cells slots H _) (fun t => mv_end_ret hbase I) ?_
      exact W.vret hx hb (hr.trans hty) (fun t ht _ => ⟨rfl, ht⟩) I.2.2.2.1.2.2 hdg
    · cases h
  · cases h
/-- an object is thrown by the instruction -/
theorem mr_throw (hx : p.tables.exec = Jvm.exec) (hb : c.code = cc) (hdg : decode cc pc = .ok (.athrow, 1)) {a : Nat} (h : mv_throw st = some (.inr (.inr (.inr a)))) (k : mv_KT base (mv_ad base kt) dA D cl nL p l e R s m args below meth c Q (pc, lo, st, hp, cb, sb) a) : mv_K base (mv_ad base kt) dA D cl nL p l e R s m args below meth c Q (pc, lo, st, hp, cb, sb) := by
  intro H ls locs cells slots I
  unfold mv_throw at h
  split at h
  · rename_i b r
    cases h
    intro T hT X
    obtain ⟨t, h1, h2⟩ := k H ls locs cells slots (r.map (mv_v (mv_ad base kt))) I T hT X
    refine ⟨t, ?_, h2⟩
    show Steps p.tables e below (T.setTop (F0 m pc ls (.ref (mv_ad base kt a) :: r.map (mv_v (mv_ad base kt))))) t
    jvm_step X.here [X.here.top, hx, hb, hdg, athrow.wp_sem]
    exact h1
  · cases h
/-- nothing in the method takes it -/
theorem mr_out (hlocks : meth.locks = false) (hbase : base ≤ s.heap.size) (hout : ∀ x ∈ c.exceptionTable.toList, covers x pc = false) (a : Nat) : mv_KT base (mv_ad base kt) dA D cl nL p l e R s m args below meth c (mv_Z base (mv_ad base kt) dA D cl R s below (.inl a, hp, cb, sb)) (pc, lo, st, hp, cb, sb) a := by
  intro H ls locs cells slots st9 I T hT X
  obtain ⟨h1, h2, h3, h4, h5⟩ := X.leaveThrown (mv_ad base kt a) (g := F0 m pc ls st9) rfl rfl rfl hout
  obtain ⟨i1, i2, i3, i4, i5, i6, i7⟩ := I
  have hh : (T.setFrames (.throwing (mv_ad base kt a) :: below)).heap = H := hT
  refine ⟨_, h1, _, h2, h3, rfl, by rw [hh]; exact i2, by rw [hh]; exact i3, fun q hq => ?_, h4, ⟨locs, cells, slots, i5, i6, h5, i4.2.2⟩, i7⟩
  rw [hh]
  exact i4.2.1 q (by omega) (by omega)
end MVE
/-! a handler, cold or warm -/
theorem mv_go_cold {Et : CtlPost} {e : Env} {d : Bool} {acts : List Action} {s : State} {f : JFrame} {a : Addr} {Q : Handler → Pre} {x : ExceptionTableEntry} {t : List ExceptionTableEntry} {c : ClassId} {vm' : Vm} {cell : Cell} (hx : covers x f.pc = true) (h0 : x.catchType ≠ 0)
    (hg : (Jvm.resolveClass f.method.cls x.catchType).Gives e.toSetting s.vm (.ok c) vm') (hsz : vm'.classes.size ≤ s.vm.classes.size) (hcell : s.heap[a]? = some cell) (hobj : ∀ k, cell.vm ≠ .statics k)
    (hk : ∃ k, vm'.classes[cell.cls]? = some k) (hc : ∃ k, vm'.classes[c]? = some k) (hfit : vm'.assignable cell.cls c = true) :
    wp (findHandler.go f a (x :: t)) Q Et e d acts s ↔ Q (.found x.handlerPc) d acts (s.setVm vm') := by
  simp only [covers] at hx
  obtain ⟨ha, ht⟩ := hg.op (op := VmOp.resolveClass f.method.cls x.catchType) rfl
  simp [findHandler.go, hx, h0, ha, ht, hsz, hcell, hobj, hk, hc, hfit, VmOp.dirties, VmOp.acts]
