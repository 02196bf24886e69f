/-! the small machine: handlers -/
def mv_hand : List (Nat × Nat × Nat × Nat) → Nat → Option (Nat × Nat)
  | [], _ => none
  | (a, b, h, ct) :: r, pc => if a ≤ pc ∧ pc < b then some (h, ct) else mv_hand r pc
abbrev mv_proj (h : ExceptionTableEntry) : Nat × Nat × Nat × Nat := (h.startPc, h.endPc, h.handlerPc, h.catchType)
theorem mv_hand_none {pc : Nat} : ∀ (L : List ExceptionTableEntry), mv_hand (L.map mv_proj) pc = none → ∀ x ∈ L, covers x pc = false
  | [], _, x, hx => by cases hx
  | z :: r, h, x, hx => by
    rw [List.map_cons] at h
    unfold mv_hand at h
    split at h
    · cases h
    · rename_i hn
      rcases List.mem_cons.mp hx with rfl | hx
      · show (decide (x.startPc ≤ pc) && decide (pc < x.endPc)) = false
        simp only [Bool.and_eq_false_iff, decide_eq_false_iff_not]
        by_cases h1 : x.startPc ≤ pc
        · exact Or.inr (fun h2 => hn ⟨h1, h2⟩)
        · exact Or.inl h1
      · exact mv_hand_none r h x hx
theorem mv_hand_some {pc h ct : Nat} : ∀ (L : List ExceptionTableEntry), mv_hand (L.map mv_proj) pc = some (h, ct) → ∃ (pre : List ExceptionTableEntry) (x : ExceptionTableEntry) (rest : List ExceptionTableEntry), L = pre ++ x :: rest ∧ (∀ z ∈ pre, covers z pc = false) ∧ covers x pc = true ∧ x.handlerPc = h ∧ x.catchType = ct
  | [], q => by cases q
  | z :: r, q => by
    rw [List.map_cons] at q
    unfold mv_hand at q
    split at q
    · rename_i hc
      cases q
      refine ⟨[], z, r, rfl, (fun w hw => absurd hw List.not_mem_nil), ?_, rfl, rfl⟩
      show (decide (z.startPc ≤ pc) && decide (pc < z.endPc)) = true
      simp only [Bool.and_eq_true, decide_eq_true_eq]
      exact hc
    · rename_i hn
      obtain ⟨pre, x, rest, h1, h2, h3, h4, h5⟩ := mv_hand_some r q
      refine ⟨z :: pre, x, rest, by rw [h1]; rfl, fun w hw => ?_, h3, h4, h5⟩
      rcases List.mem_cons.mp hw with rfl | hw
      · show (decide (w.startPc ≤ pc) && decide (pc < w.endPc)) = false
        simp only [Bool.and_eq_false_iff, decide_eq_false_iff_not]
        by_cases g1 : w.startPc ≤ pc
        · exact Or.inr (fun g2 => hn ⟨g1, g2⟩)
        · exact Or.inl g1
      · exact h2 w hw
theorem mv_stepCatch {e : Env} {s : State} {a : Addr} {f : JFrame} {r : List Frame} {pc : Nat} {vm' : Vm} (hfind : ∀ (Q : Handler → Pre) (Et : CtlPost) (d : Bool) (acts : List Action), wp (findHandler f a) Q Et e d acts s ↔ Q (.found pc) d acts (s.setVm vm')) :
    (stepThrowing e s a (.java f :: r)).1 = (s.setVm vm').setFrames (.java { f with pc := pc, stack := [.ref a] } :: r) := by
  simp only [stepThrowing, searchFrame, vmDo]
  generalize hr : Sem.go _ e false [] s = res
  obtain ⟨as, rfl, ha⟩ := Sem.eq_ok_of hr (a := Handler.found pc) (s' := s.setVm vm') (acts' := []) (by simp [hfind _ _ _ _])
  rfl
theorem mv_stepsCatch {tb : Tables} {e : Env} {s target : State} {g : JFrame} {c : Code} {below : List Frame} {a : Addr} (h : At s g.method c below) {pc : Nat} {vm' : Vm} (hfind : ∀ (Q : Handler → Pre) (Et : CtlPost) (d : Bool) (acts : List Action), wp (findHandler g a) Q Et e d acts ((s.setTop g).pushFrame (.throwing a)) ↔ Q (.found pc) d acts (((s.setTop g).pushFrame (.throwing a)).setVm vm'))
    (hrest : Steps tb e below ((s.setVm vm').setTop { g with pc := pc, stack := [.ref a] }) target) : Steps tb e below ((s.setTop g).pushFrame (.throwing a)) target := by
  obtain ⟨hgo, hw⟩ := h.throwing a
  refine Steps.head hgo hw ?_
  rw [stepThread_throwing (frames_entered h.top _), mv_stepCatch (s := (s.setTop g).pushFrame (.throwing a)) hfind]
  obtain ⟨g₀, hg⟩ := Option.isSome_iff_exists.mp h.top
  obtain ⟨r, hr⟩ := State.topJava?_eq_some.mp hg
  have hr2 : (s.setVm vm').frames = .java g₀ :: r := hr
  rw [State.setTop_of_frames _ hr2] at hrest
  have e1 : (((s.setTop g).pushFrame (.throwing a)).setVm vm').setFrames (.java { g with pc := pc, stack := [.ref a] } :: s.frames.tail) = (s.setVm vm').setFrames (.java { g with pc := pc, stack := [.ref a] } :: r) := by
    rw [State.pushFrame, State.setTop_of_frames _ hr, hr]
    show (((s.setFrames _).setFrames _).setVm vm').setFrames _ = _
    rw [State.setFrames_setFrames]
    show ((s.setFrames _).setFrames _).setVm vm' = _
    rw [State.setFrames_setFrames]
    rfl
  rw [e1]
  exact hrest
section MVC
variable {base : Nat} {kt dA : Nat → Nat} {D : va_G} {cl : List vw_C} {nL : Nat} {p : Program} {l : Launch} {e : Env} {R : Room} {s : State} {m : MethodId} {args : Array Value} {below : List Frame} {meth : Method} {c : Code} {Q : State → Prop} {cc : ByteArray} {G : mv_G} {y pc : Nat} {lo : List (Nat × Value)} {st : List Value} {hp : List va_E} {cb sb : Nat} {S : mv_S}
/-- a handler of the method takes it -/
theorem mr_catch {Ts : List Cond} (hts : ∀ w ∈ Ts, w.before args s = true) {own : String} (hown : s.vm.findClass own = some m.cls) {tys : List (ClassId × FieldType)} (hK : va_K D cl tys s) {hh : List (Nat × Nat × Nat × Nat)} (hh1 : c.exceptionTable.toList.map mv_proj = hh) {h ct a ci : Nat} {fs : List Value} (hf : mv_hand hh pc = some (h, ct)) (ho : hp[a]? = some (.inr (ci, fs))) {C : String} {T0 : u_T} {N : Nat} (hC : cl[ci]? = some (C, T0, N)) (hct : ct ≠ 0) (hlink : Cond.classLink own ct C ∈ Ts)
    (k : mv_K base (mv_ad base kt) dA D cl nL p l e R s m args below meth c Q (h, lo, [.ref a], hp, cb, sb)) : mv_KT base (mv_ad base kt) dA D cl nL p l e R s m args below meth c Q (pc, lo, st, hp, cb, sb) a := by
  intro H ls locs cells slots st9 I T hT X
  rw [← hh1] at hf
  obtain ⟨pre, x, rest, h1, h2, h3, h4, h5⟩ := mv_hand_some _ hf
  have hpl : e.platform.magicAccessors = ({} : Platform).magicAccessors := by rw [X.admits.platform]
  obtain ⟨cc9, hfcc, hcl⟩ := Cond.classLink_spec hown (hts _ hlink) e.platform hpl
  obtain ⟨hg₁, hwarm₁, hready₁⟩ := State.classEntry (e := e) X.warmed hcl
  obtain ⟨hS, hfc, kC, hkC, hkind⟩ := hK.1 ci _ hC
  cases hfc.symm.trans hfcc
  obtain ⟨hat, -, -⟩ := mv_inv_at I ho
  obtain ⟨rr, r1, cell, q1, q2, q3, q4⟩ := hat
  have hsz : (T.vm.noted m.cls ct (.cls (D.1 ci))).classes.size ≤ T.vm.classes.size := Nat.le_of_eq (Vm.size_noted _ _ _ _)
  obtain ⟨k1, hk1, -⟩ := hwarm₁.alike.2.2 _ _ hkC
  generalize hvm : T.vm.noted m.cls ct (.cls (D.1 ci)) = vm₁ at hg₁ hwarm₁ hready₁ hsz hk1
  have hmt : T.vm.method? m = some meth := X.method'
  have X₁ := X.noted hwarm₁
  obtain ⟨t, a1, b1⟩ := k H ls locs cells slots I (T.setVm vm₁) hT X₁
  refine ⟨t, mv_stepsCatch (g := F0 m pc ls st9) X.here (pc := h) (vm' := vm₁) (fun Q9 Et d acts => ?_) a1, b1⟩
  have e1 : ((T.setTop (F0 m pc ls st9)).pushFrame (.throwing (mv_ad base kt a))).vm = T.vm := Stand.throwing_vm T _ _
  have e2 : ((T.setTop (F0 m pc ls st9)).pushFrame (.throwing (mv_ad base kt a))).heap = T.heap := Stand.throwing_heap T _ _
  rw [W.findHandler_eq (meth := meth) (code := c) (by rw [e1]; exact hmt) X.code, h1]
  clear h1
  induction pre with
  | nil =>
    subst h4
    rw [List.nil_append]
    exact mv_go_cold (c := D.1 ci) (cell := cell) h3 (by rw [h5]; exact hct) (by rw [h5, e1]; exact hg₁) (by rw [e1]; exact hsz) (by rw [e2, hT]; exact q1) (fun z => by rw [q3]; exact fun q => by cases q) ⟨k1, by rw [q2]; exact hk1⟩ ⟨k1, hk1⟩ (by rw [q2]; exact va_asg _ _)
  | cons z r ih =>
    rw [List.cons_append, W.findHandler_go_skip (h2 z List.mem_cons_self)]
    exact ih (fun w hw => h2 w (List.mem_cons_of_mem _ hw))
end MVC
