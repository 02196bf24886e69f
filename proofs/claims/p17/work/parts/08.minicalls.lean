/-! the small machine: calls -/
section
variable (G : mv_G) (y pc : Nat) (l : List (Nat × Value)) (st : List Value) (hp : List va_E) (cb sb : Nat)
def mv_callS (idx : Nat) : Option mv_R := match mv_gC G y idx with
  | some (kd, z, n) => if (kd = 0 ∨ kd = 1) ∧ n ≤ st.length then some (.inr (.inl (z, (st.take n).reverse, st.drop n, 3))) else none
  | none => none
def mv_callV (idx : Nat) : Option mv_R := match mv_gC G y idx with
  | some (kd, z, n) => match st.drop n with
    | .ref a :: r => match hp[a]? with
      | some (.inr (ci, _)) => if (kd = 2 ∨ kd = 3) ∧ ci = mv_gW G z then some (.inr (.inl (z, .ref a :: (st.take n).reverse, r, 3))) else none
      | _ => none
    | _ => none
  | none => none
def mv_callI (idx : Nat) : Option mv_R := match mv_gC G y idx with
  | some (kd, z, n) => match st.drop n with
    | .ref a :: r => if kd = 4 ∨ kd = 5 then some (.inr (.inl (z, .ref a :: (st.take n).reverse, r, 3))) else none
    | _ => none
  | none => none
end
/-- a method's code is in the tables -/
def mv_okM (Nm : Nat → MethodName) (Cd : Nat → ByteArray) (Ts : List Cond) (G : mv_G) (z : Nat) : Prop := ((Cond.code (Nm z) (Cd z) (mv_gL G z) (mv_gR G z) ∈ Ts ∧ mv_gH G z = []) ∨ Cond.codeWith (Nm z) (Cd z) (mv_gL G z) (mv_gR G z) (mv_gH G z) ∈ Ts) ∧ plainFor (Nm z) = true ∧ ((Nm z).cls ≠ "java/lang/invoke/MethodHandle" ∧ (Nm z).cls ≠ "java/lang/invoke/VarHandle")
def mv_okK (Ts : List Cond) (own : String) (idx : Nat) (x : MethodName) : Prop := Cond.methodLink own idx x ∈ Ts ∨ ∃ host : String, Cond.methodLinkNest own idx x host ∈ Ts
def mv_okN (x : MethodName) (n : Nat) : Prop := ∀ sig, parseMethodDescriptor x.desc = some sig → n = sig.parameters.length
def mv_okS (Nm : Nat → MethodName) (Ts : List Cond) (own : String) (idx z n : Nat) : Prop := mv_okK Ts own idx (Nm z) ∧ Cond.static (Nm z) ∈ Ts ∧ Cond.initialized (Nm z).cls ∈ Ts ∧ mv_okN (Nm z) n
def mv_okV (Nm : Nat → MethodName) (cl : List vw_C) (Ts : List Cond) (G : mv_G) (own : String) (idx z n : Nat) : Prop := mv_okK Ts own idx (Nm z) ∧ Cond.instanceMethod (Nm z) ∈ Ts ∧ Cond.selects (Nm z).cls (Nm z) (Nm z) ∈ Ts ∧ (∃ (T : u_T) (N : Nat), cl[mv_gW G z]? = some ((Nm z).cls, T, N)) ∧ mv_okN (Nm z) n
def mv_okI (Nm : Nat → MethodName) (Cd : Nat → ByteArray) (Ts : List Cond) (G : mv_G) (own : String) (idx z n : Nat) : Prop := mv_okK Ts own idx (Nm z) ∧ Cond.instanceMethod (Nm z) ∈ Ts ∧ (Nm z).name = "<init>" ∧ Cond.code (Nm z) (Cd z) (mv_gL G z) none ∈ Ts ∧ mv_okN (Nm z) n
/-- a method's code in a state whose tables hold its word -/
theorem mv_meth {Nm : Nat → MethodName} {Cd : Nat → ByteArray} {Ts : List Cond} {G : mv_G} {z : Nat} {s : State} {args : Array Value} (hok : mv_okM Nm Cd Ts G z) (hts : ∀ w ∈ Ts, w.before args s = true) : ∃ (mk : MethodId) (methk : Method) (ck : Code), s.methodNamed? (Nm z) = some mk ∧ s.vm.method? mk = some methk ∧ methk.code = some ck ∧ ck.code = Cd z ∧ ck.maxLocals = mv_gL G z ∧ methk.sig.returnType = mv_gR G z ∧ methk.locks = false ∧ ck.exceptionTable.toList.map mv_proj = mv_gH G z ∧ parseMethodDescriptor (Nm z).desc = some methk.sig := by
  obtain ⟨h | h, -⟩ := hok
  · obtain ⟨mk, hn⟩ := Cond.code_named (hts _ h.1)
    obtain ⟨methk, ck, h1, h2, h3, h4, h5, h6, h7, h8⟩ := Cond.code_spec hn (hts _ h.1)
    refine ⟨mk, methk, ck, hn, h1, h2, h3, h4, h5, h6, ?_, h8⟩
    have h0 : ck.exceptionTable.size = 0 := by simpa [Array.isEmpty] using h7
    have h9 : ck.exceptionTable.toList = [] := List.eq_nil_of_length_eq_zero (by simpa using h0)
    rw [h9, h.2]
    rfl
  · obtain ⟨mk, methk, ck, hn, h1, h2, h3, h4, h5, h6, h7, h8⟩ := Cond.codeWith_spec (hts _ h)
    exact ⟨mk, methk, ck, hn, h1, h2, h3, h4, h6, h7, h5, h8⟩
section MVA
variable {base : Nat} {ad dA : Nat → Nat} {D : va_G} {cl : List vw_C} {p : Program} {l : Launch} {e : Env} {R : Room} {s : State} {m : MethodId} {args : Array Value} {below : List Frame} {meth : Method} {c : Code} {cc : ByteArray} {G : mv_G} {y pc : Nat} {st : List Value} {T : State} {locs : List Loc} {cells slots : Nat} {ls : Array Slot} {Nm : Nat → MethodName} {Cd : Nat → ByteArray} {Ts : List Cond} {own : String} {idx z n : Nat}
/-- the real machine comes to the invocation of z with these arguments, r on the stack below them -/
def mv_Arr (p : Program) (l : Launch) (e : Env) (R : Room) (s : State) (m : MethodId) (args : Array Value) (below : List Frame) (meth : Method) (c : Code) (T : State) (locs : List Loc) (cells slots : Nat) (x : MethodName) (pc : Nat) (ls : Array Slot) (stk : List Value) (as r : List Value) : Prop :=
  ∃ (mk : MethodId) (vm₁ : Vm), Stand p l e R s m args below meth c (T.setVm vm₁) locs cells slots ∧ s.methodNamed? x = some mk ∧ ∀ target, Steps p.tables e below (doInvoke e ((T.setVm vm₁).setTop (F0 m pc ls r)) [] mk as.toArray).1 target → Steps p.tables e below (T.setTop (F0 m pc ls stk)) target
theorem mv_split (ad : Nat → Nat) (st : List Value) (n : Nat) : st.map (mv_v ad) = ((st.take n).reverse.map (mv_v ad)).reverse ++ (st.drop n).map (mv_v ad) := by
  rw [List.map_reverse, List.reverse_reverse, ← List.map_append, List.take_append_drop]
theorem mv_arrS (X : Stand p l e R s m args below meth c T locs cells slots) (hx : p.tables.exec = Jvm.exec) (hb : c.code = cc) (hown : s.vm.findClass own = some m.cls) (hts : ∀ w ∈ Ts, w.before args s = true) (hM : mv_okM Nm Cd Ts G z) (hok : mv_okS Nm Ts own idx z n) (hn : n ≤ st.length) (hdg : decode cc pc = .ok (.invokestatic idx, 3)) :
    mv_Arr p l e R s m args below meth c T locs cells slots (Nm z) pc ls (st.map (mv_v ad)) ((st.take n).reverse.map (mv_v ad)) ((st.drop n).map (mv_v ad)) := by
  obtain ⟨mk, methk, ck, hnm, h1, h2, h3, h4, h5, h6, h7, h8⟩ := mv_meth hM hts
  obtain ⟨hl, o1, o2, o3⟩ := hok
  have hstatic : methk.isStatic = true := Cond.static_spec hnm h1 (hts _ o1)
  obtain ⟨kP, hkP, -⟩ := className_of_methodNamed hnm
  have hinitP : kP.init = .initialized := Cond.initialized_spec (findClass_of_methodNamed hnm) hkP (hts _ o2)
  have hlen : ((st.take n).reverse.map (mv_v ad)).length = methk.sig.parameters.length := by
    rw [List.length_map, List.length_reverse, List.length_take, Nat.min_eq_left hn]
    exact o3 _ h8
  rcases hl with hl | ⟨host, hl⟩
  · obtain ⟨vm₁, X₁, st₁⟩ := X.invokestatic hx hown (hts _ hl) hnm h1 hstatic hkP hinitP hM.2.2 (g := F0 m pc ls (st.map (mv_v ad))) rfl hlen (mv_split ad st n) (by rw [hb]; exact hdg)
    exact ⟨mk, vm₁, X₁, hnm, fun target h => st₁ target fun acts => by rw [doInvoke_state]; exact h⟩
  · obtain ⟨vm₁, X₁, st₁⟩ := X.invokestaticNest hx hown (hts _ hl) hnm h1 hstatic hkP hinitP hM.2.2 (g := F0 m pc ls (st.map (mv_v ad))) rfl hlen (mv_split ad st n) (by rw [hb]; exact hdg)
    exact ⟨mk, vm₁, X₁, hnm, fun target h => st₁ target fun acts => by rw [doInvoke_state]; exact h⟩
theorem mv_split1 {ad : Nat → Nat} {st : List Value} {n a : Nat} {r : List Value} (h : st.drop n = .ref a :: r) : st.map (mv_v ad) = ((st.take n).reverse.map (mv_v ad)).reverse ++ .ref (ad a) :: r.map (mv_v ad) ∧ n ≤ st.length := by
  refine ⟨?_, ?_⟩
  · rw [mv_split ad st n, h]
    rfl
  · rcases Nat.le_total n st.length with q | q
    · exact q
    · rw [List.drop_eq_nil_of_le q] at h
      cases h
theorem mv_arrV (X : Stand p l e R s m args below meth c T locs cells slots) (hx : p.tables.exec = Jvm.exec) (hb : c.code = cc) (hown : s.vm.findClass own = some m.cls) (hts : ∀ w ∈ Ts, w.before args s = true) (hM : mv_okM Nm Cd Ts G z) (hok : mv_okV Nm cl Ts G own idx z n) {tys : List (ClassId × FieldType)} (hK : va_K D cl tys s) {a : Nat} {fs r : List Value} (hst : st.drop n = .ref a :: r) (hat : va_at D cl (ad a, .inr (mv_gW G z, fs)) T.heap) (hdg : decode cc pc = .ok (.invokevirtual idx, 3)) :
    mv_Arr p l e R s m args below meth c T locs cells slots (Nm z) pc ls (st.map (mv_v ad)) (.ref (ad a) :: (st.take n).reverse.map (mv_v ad)) (r.map (mv_v ad)) := by
  obtain ⟨mk, methk, ck, hnm, h1, h2, h3, h4, h5, h6, h7, h8⟩ := mv_meth hM hts
  obtain ⟨hl, o1, o2, ⟨T0, N0, o3⟩, o4⟩ := hok
  obtain ⟨mk', methM, hnamed, hmethM, hstM, habM⟩ := Cond.instanceMethod_spec (hts _ o1)
  cases hnm.symm.trans hnamed
  cases h1.symm.trans hmethM
  obtain ⟨hS, hfc, kC, hkC, hkind⟩ := hK.1 _ _ o3
  obtain ⟨rr, r1, cell, q1, q2, q3, q4⟩ := hat
  obtain ⟨c2, r2, m2, g1, g2, g3, g4, kP, hkP, hkPi⟩ := Cond.selects_spec (hts _ o2)
  cases hfc.symm.trans g1
  cases (State.methodFound?_of_named hnm hM.2.2).symm.trans g2
  cases hnm.symm.trans g3
  have hselP : selectMethod e.platform s.vm cell.cls mk = .method mk := by rw [Launch.admits_selectMethod X.admits, q2]; exact g4
  obtain ⟨hs1, hs2⟩ := mv_split1 (ad := ad) hst
  have hlen : ((st.take n).reverse.map (mv_v ad)).length = methk.sig.parameters.length := by
    rw [List.length_map, List.length_reverse, List.length_take, Nat.min_eq_left hs2]
    exact o4 _ h8
  rcases hl with hl | ⟨host, hl⟩
  · obtain ⟨vm₁, X₁, st₁⟩ := X.invokevirtual hx hown (hts _ hl) hnm h1 hstM hkP hkPi hM.2.2 (a := ad a) (cell := cell) q1 (fun q h => by rw [q3] at h; cases h) hselP h1 habM hkP hkPi (g := F0 m pc ls (st.map (mv_v ad))) rfl hlen hs1 (by rw [hb]; exact hdg)
    exact ⟨mk, vm₁, X₁, hnm, fun target h => st₁ target fun acts => by rw [doInvoke_state]; exact h⟩
  · obtain ⟨vm₁, X₁, st₁⟩ := X.invokevirtualNest hx hown (hts _ hl) hnm h1 hstM hkP hkPi hM.2.2 (a := ad a) (cell := cell) q1 (fun q h => by rw [q3] at h; cases h) hselP h1 habM hkP hkPi (g := F0 m pc ls (st.map (mv_v ad))) rfl hlen hs1 (by rw [hb]; exact hdg)
    exact ⟨mk, vm₁, X₁, hnm, fun target h => st₁ target fun acts => by rw [doInvoke_state]; exact h⟩
theorem mv_arrI (X : Stand p l e R s m args below meth c T locs cells slots) (hx : p.tables.exec = Jvm.exec) (hb : c.code = cc) (hown : s.vm.findClass own = some m.cls) (hts : ∀ w ∈ Ts, w.before args s = true) (hM : mv_okM Nm Cd Ts G z) (hok : mv_okI Nm Cd Ts G own idx z n) {a : Nat} {r : List Value} (hst : st.drop n = .ref a :: r) (hdg : decode cc pc = .ok (.invokespecial idx, 3)) :
    mv_Arr p l e R s m args below meth c T locs cells slots (Nm z) pc ls (st.map (mv_v ad)) (.ref (ad a) :: (st.take n).reverse.map (mv_v ad)) (r.map (mv_v ad)) := by
  obtain ⟨hl, o1, o2, o3, o4⟩ := hok
  obtain ⟨hs1, hs2⟩ := mv_split1 (ad := ad) hst
  have hlen : ∀ sig, parseMethodDescriptor (Nm z).desc = some sig → ((st.take n).reverse.map (mv_v ad)).length = sig.parameters.length := fun sig h => by
    rw [List.length_map, List.length_reverse, List.length_take, Nat.min_eq_left hs2]
    exact o4 _ h
  have hpl : e.platform.magicAccessors = ({} : Platform).magicAccessors := by rw [X.admits.platform]
  rcases hl with hl | ⟨host, hl⟩
  · obtain ⟨mk, methM, cM, kP, vm₁, hnamed, -, -, -, -, -, -, -, hW₁, st₁⟩ := Steps.initColdArgs (tb := p.tables) (e := e) X.here hx X.warmed hpl hown o2 hM.2.2 (hts _ hl) (hts _ o1) (hts _ o3) (f := F0 m pc ls (st.map (mv_v ad))) rfl hlen hs1 (by rw [hb]; exact hdg)
    exact ⟨mk, vm₁, X.noted hW₁, hnamed, fun target h => st₁ target fun acts => by rw [doInvoke_state]; exact h⟩
  · obtain ⟨mk, methM, cM, kP, vm₁, hnamed, -, -, -, -, -, -, -, hW₁, st₁⟩ := Steps.initColdArgsNest (tb := p.tables) (e := e) X.here hx X.warmed hpl hown o2 hM.2.2 (hts _ hl) (hts _ o1) (hts _ o3) (f := F0 m pc ls (st.map (mv_v ad))) rfl hlen hs1 (by rw [hb]; exact hdg)
    exact ⟨mk, vm₁, X.noted hW₁, hnamed, fun target h => st₁ target fun acts => by rw [doInvoke_state]; exact h⟩
end MVA
