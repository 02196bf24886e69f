/-! the small machine: what has no bytecode of its own here: arraycopy; an exception made with its message -/
def mv_fitT (t : Nat) (x : Int32) : Bool := if t = 0 then true else if t = 1 then fits .byte (.int x) else fits .boolean (.int x)
section
variable (G : mv_G) (y pc : Nat) (l : List (Nat × Value)) (st : List Value) (hp : List va_E) (cb sb fb lb : Nat)
def mv_copy : Option mv_S := match st with
  | .int n :: .int dp :: .ref a1 :: .int sp :: .ref a0 :: r => match hp[a0]?, hp[a1]? with
    | some (.inl (t0, n0, .inl f)), some (.inl (t1, n1, .inl g)) =>
      if (t0 = t1 ∧ t0 < 3) ∧ (¬ sp < 0 ∧ ¬ dp < 0 ∧ ¬ n < 0) ∧ sp.toNatClampNeg + n.toNatClampNeg ≤ n0 ∧ dp.toNatClampNeg + n.toNatClampNeg ≤ n1 ∧ (t0 = 0 ∨ (List.range n.toNatClampNeg).all (fun i => mv_fitT t0 (f (sp.toNatClampNeg + i))) = true) ∧ 1 ≤ fb ∧ (r.map fun v => v.category).sum + (nativeFrameWords "java/lang/System" "arraycopy" 5 + 11) ≤ lb then
        some (pc + 3, l, r, hp.set a1 (.inl (t1, n1, .inl (va_cpy f g sp.toNatClampNeg dp.toNatClampNeg n.toNatClampNeg))), cb, sb)
      else none
    | _, _ => none
  | _ => none
/-- new; dup; ldc_w; invokespecial: the thrown class's object, made with a text -/
def mv_made : Option mv_S := match mv_gI G y (pc + 3), mv_gI G y (pc + 4), mv_gI G y (pc + 7) with
  | some (.dup, 1), some (.ldc_w i2, 3), some (.invokespecial i3, 3) => match mv_gK G y i2, mv_gC G y i3 with
    | some (.ref _), some (kd, _, _) =>
      if kd = 8 ∧ 1 ≤ cb ∧ 6 ≤ sb ∧ 6 ≤ fb ∧ (st.map fun v => v.category).sum + 82 ≤ lb then some (pc + 10, l, .ref hp.length :: st, hp ++ [.inr (mv_gX G, [])], cb - 1, sb - 6) else none
    | _, _ => none
  | _, _, _ => none
/-- an int of an array that was there before; its length -/
def mv_xald : Option mv_S := match st with
  | .int i :: .ref a :: r => match mv_gS G a with
    | some (n, f) => if mv_out i n = false then some (pc + 1, l, .int (f i.toNatClampNeg) :: r, hp, cb, sb) else none
    | none => none
  | _ => none
def mv_xlen : Option mv_S := match st with
  | .ref a :: r => match mv_gS G a with
    | some (n, _) => some (pc + 1, l, .int (Int32.ofNat n) :: r, hp, cb, sb)
    | none => none
  | _ => none
/-- Object's own constructor -/
def mv_oini : Option mv_S := match st with
  | .ref _ :: r => if 1 ≤ fb ∧ (r.map fun v => v.category).sum + 12 ≤ lb then some (pc + 3, l, r, hp, cb, sb) else none
  | _ => none
/-- String.length, String.charAt -/
def mv_slen : Option mv_S := match st with
  | .ref a :: r => match mv_gX2 G a with
    | some tx => if 2 ≤ fb ∧ 40 ≤ lb ∧ (r.map fun v => v.category).sum ≤ 8 then some (pc + 3, l, .int (Int32.ofNat tx.length) :: r, hp, cb, sb) else none
    | none => none
  | _ => none
def mv_schr : Option mv_S := match st with
  | .int i :: .ref a :: r => match mv_gX2 G a with
    | some tx => if mv_out i tx.length = false ∧ 4 ≤ fb ∧ 85 ≤ lb ∧ (r.map fun v => v.category).sum ≤ 8 then some (pc + 3, l, .int (st_ch (tx.getD i.toNatClampNeg 0)) :: r, hp, cb, sb) else none
    | none => none
  | _ => none
/-- an array into a place of an array of such -/
def mv_aasA : Option mv_S := match st with
  | .ref b :: .int i :: .ref a :: r => match hp[a]?, hp[b]? with
    | some (.inl (t, n, .inr (.inr (.inr (.inr g))))), some (.inl (t2, _)) => if mv_gB G t = some t2 ∧ mv_out i n = false then some (pc + 1, l, r, hp.set a (.inl (t, n, .inr (.inr (.inr (.inr (va_up g i.toNatClampNeg (some b))))))), cb, sb) else none
    | _, _ => none
  | _ => none
end
def mv_nat (G : mv_G) (y fb lb : Nat) (S : mv_S) : Option mv_S := match mv_gI G y S.1 with
  | some (.invokestatic idx, 3) => match mv_gC G y idx with
    | some (kd, _, _) => if kd = 7 then mv_copy S.1 S.2.1 S.2.2.1 S.2.2.2.1 S.2.2.2.2.1 S.2.2.2.2.2 fb lb else none
    | none => none
  | some (.new idx, 3) => match mv_gN G y idx with
    | some ci => if ci = mv_gX G then mv_made G y S.1 S.2.1 S.2.2.1 S.2.2.2.1 S.2.2.2.2.1 S.2.2.2.2.2 fb lb else none
    | none => none
  | some (.invokespecial idx, 3) => match mv_gC G y idx with
    | some (kd, _, _) => if kd = 9 then mv_oini S.1 S.2.1 S.2.2.1 S.2.2.2.1 S.2.2.2.2.1 S.2.2.2.2.2 fb lb else none
    | none => none
  | some (.invokevirtual idx, 3) => match mv_gC G y idx with
    | some (kd, _, _) => if kd = 10 then mv_slen G S.1 S.2.1 S.2.2.1 S.2.2.2.1 S.2.2.2.2.1 S.2.2.2.2.2 fb lb else if kd = 11 then mv_schr G S.1 S.2.1 S.2.2.1 S.2.2.2.1 S.2.2.2.2.1 S.2.2.2.2.2 fb lb else none
    | none => none
  | some (.aastore, 1) => mv_aasA G S.1 S.2.1 S.2.2.1 S.2.2.2.1 S.2.2.2.2.1 S.2.2.2.2.2
  | some (.iaload, 1) => mv_xald G S.1 S.2.1 S.2.2.1 S.2.2.2.1 S.2.2.2.2.1 S.2.2.2.2.2
  | some (.arraylength, 1) => mv_xlen G S.1 S.2.1 S.2.2.1 S.2.2.2.1 S.2.2.2.2.1 S.2.2.2.2.2
  | _ => none
def mv_ISE : String := "java/lang/IllegalStateException"
def mv_up : List String := ["java/lang/RuntimeException", "java/lang/Exception"]
/-- the exception's constructor, behind its own new -/
theorem mv_ctor {p : Program} {l : Launch} {e : Env} {R : Room} {s : State} {m : MethodId} {args : Array Value} {below : List Frame} {meth : Method} {c : Code} {W : State} {locs : List Loc} {cells slots : Nat} (X : Stand p l e R s m args below meth c W locs cells slots) (hexec : p.tables.exec = Jvm.exec) (htr : e.platform.stackTraces = false) {own cls : String} {names : List String} {ic : Nat}
    (hown : s.vm.findClass own = some m.cls) (hcls : Bundle.fit cls = true) (hnames : ∀ n ∈ names, Bundle.fit n = true)
    (h : ∀ a ∈ Bundle.ownAtoms own ic cls names, a.before args s = true)
    {a : Addr} (hlow : ∀ (aS : Nat) (c0 : Cell), s.heap[aS]? = some c0 → c0.vm.isStatics = true → (∀ i, (⟨aS, i⟩ : Loc) ∉ locs) ∧ aS ≠ a)
    {cX : ClassId} {kX : Class} (hfoundX : s.vm.findClass cls = some cX) (hkX : s.vm.classes[cX]? = some kX) (hcell : W.heap[a]? = some (freshCell cX kX))
    {msg : Value} (hmsg : msg.isRef = true)
    {g : JFrame} (hg : g.method = m) (hsize : g.locals.size = c.maxLocals) {rest : List Value} (hstack : g.stack = msg :: .ref a :: rest)
    (hd6 : decode c.code g.pc = .ok (.invokespecial ic, 3))
    (hRframes : names.length + 3 < R.frames) (hRlocals : 2 * g.monitorRoom + (rest.map fun v => v.category).sum + (13 * (names.length + 1) + 42) ≤ R.locals) :
    ∃ (vm' : Vm) (ce : Cell) (L : List Loc), Stand p l e R s m args below meth c ((W.setVm vm').setCell a ce) (locs ++ L) cells slots ∧ (∀ q ∈ L, q.base = a) ∧ ce.cls = cX ∧ ce.vm = .none ∧
      ∀ target, Steps p.tables e below (((W.setVm vm').setCell a ce).setTop { g with pc := g.pc + 3, stack := rest }) target → Steps p.tables e below (W.setTop g) target := by
  have howns : e.platform.frameOwnsMonitors = true := by rw [X.admits.platform]
  have hfin : e.platform.finalization = false := by rw [X.admits.platform]
  have hpl : e.platform.magicAccessors = ({} : Platform).magicAccessors := by rw [X.admits.platform]
  have a' : ∀ x, x ∈ Bundle.ownAtoms own ic cls names → x.holds args s none s [] = true := fun x hx => h x hx
  obtain ⟨T, Z0, L, -, Y⟩ := ThrowableC.of_atoms (args := args) howns hfin hpl (fun x hx => h x (by simp [Bundle.ownAtoms, hx]))
  obtain ⟨Z, M, LZ, LM, hnZ⟩ := Init0T.ofS_atoms (args := args) hpl L Y (fun x hx => h x (by simp [Bundle.ownAtoms, hx]))
  obtain ⟨P1, Ps, hlen, L1, hL, hP1m, hlink1, hlink⟩ := Bundle.chainS (args := args) hpl hnZ names cls hcls hnames (fun x hx => h x (by simp [Bundle.ownAtoms, hx]))
  have hfound : s.vm.findClass cls = some P1.m.cls := findClass_of_methodNamed hP1m
  cases Option.some.inj (hfoundX.symm.trans hfound)
  obtain ⟨c1, kX', hc1, hk, hord, -, -, hn6⟩ := Cond.instantiable_spec (a' (.instantiable cls 6) (by simp [Bundle.ownAtoms]))
  cases Option.some.inj (hc1.symm.trans hfound)
  cases Option.some.inj (hkX.symm.trans hk)
  have hsel0 : selectMethod e.platform s.vm P1.m.cls T.fill0 = .method T.fill0 := by
    obtain ⟨c2, r2, m2, q1, q2, q3, q4, -⟩ := Cond.selects_spec (a' (.selects cls Bundle.tFill0 Bundle.tFill0) (by simp [Bundle.ownAtoms]))
    cases Option.some.inj (q1.symm.trans hfound)
    cases Option.some.inj (q2.symm.trans (State.methodFound?_of_named Y.fill0 (by decide)))
    cases Option.some.inj (q3.symm.trans Y.fill0)
    rw [Launch.admits_selectMethod X.admits]; exact q4
  have hselF : selectMethod e.platform s.vm P1.m.cls T.fill = .method T.fill := by
    obtain ⟨c2, r2, m2, q1, q2, q3, q4, -⟩ := Cond.selects_spec (a' (.selects cls Bundle.tFill Bundle.tFill) (by simp [Bundle.ownAtoms]))
    cases Option.some.inj (q1.symm.trans hfound)
    cases Option.some.inj (q2.symm.trans (State.methodFound?_of_named Y.fill (by decide)))
    cases Option.some.inj (q3.symm.trans Y.fill)
    rw [Launch.admits_selectMethod X.admits]; exact q4
  obtain ⟨cellS0, hcS0, hiss⟩ := Y.statics
  obtain ⟨u0, hu0⟩ := Cond.staticRefV Y.unassigned L.unassignedStatic L.statics hcS0 hiss (a' (.isRef (.static Bundle.tN "UNASSIGNED_STACK" Bundle.steD)) (by simp [Bundle.ownAtoms]))
  obtain ⟨sen, hsen⟩ := Cond.staticRefV Y.sentinel L.sentinelStatic L.statics hcS0 hiss (a' (.isRef (.static Bundle.tN "SUPPRESSED_SENTINEL" Bundle.listD)) (by simp [Bundle.ownAtoms]))
  obtain ⟨ci198, i198, fB, hk198, hg198, ha198, hsB, -, hnB, htB, hffB⟩ := Cond.ownField (t := .object "java/lang/Object") Y.found L.cls (by decide +kernel) (a' (.fieldLink Bundle.tN 198 Bundle.tN "backtrace" "Ljava/lang/Object;") (by simp [Bundle.ownAtoms])) (a' (.lays Bundle.tN Bundle.tN "backtrace" "Ljava/lang/Object;") (by simp [Bundle.ownAtoms])) e.platform hpl
  obtain ⟨cellS, hcS', heS, -, hkeep⟩ := X.same.2.2.2.2.2 T.aS cellS0 hcS0
  have hcellS : W.heap[T.aS]? = some cellS := hcS'
  obtain ⟨hout', hneS⟩ := hlow _ _ hcS0 hiss
  have hknownS : cellS.vm ≠ .unknown := by
    rw [heS]; intro hu
    rw [show cellS0.vm = .unknown from hu] at hiss
    cases hiss
  obtain ⟨iM, hffM⟩ := Y.msg
  obtain ⟨tyC, dC, hdC, hdnC⟩ := Cond.laysAt hfound hk Y.cause (a' (.lays cls Bundle.tN "cause" "Ljava/lang/Throwable;") (by simp [Bundle.ownAtoms]))
  obtain ⟨tyS, dS, hdS, hdnS⟩ := Cond.laysAt hfound hk Y.stack (a' (.lays cls Bundle.tN "stackTrace" Bundle.steD) (by simp [Bundle.ownAtoms]))
  obtain ⟨tyP, dP, hdP, hdnP⟩ := Cond.laysAt hfound hk Y.supp (a' (.lays cls Bundle.tN "suppressedExceptions" Bundle.listD) (by simp [Bundle.ownAtoms]))
  obtain ⟨tyM, dM, hdM, hdnM⟩ := Cond.laysAt hfound hk hffM (a' (.lays cls Bundle.tN "detailMessage" "Ljava/lang/String;") (by simp [Bundle.ownAtoms]))
  obtain ⟨tyB, dB, hdB, hdnB⟩ := Cond.laysAt hfound hk hffB (a' (.lays cls Bundle.tN "backtrace" "Ljava/lang/Object;") (by simp [Bundle.ownAtoms]))
  have bC := Cond.laysApart hdB hdC hdnB hdnC (by rw [hnB, Y.causeName]; decide)
  have bS := Cond.laysApart hdB hdS hdnB hdnS (by rw [hnB, Y.stackName]; decide)
  have bP := Cond.laysApart hdB hdP hdnB hdnP (by rw [hnB, Y.suppName]; decide)
  have hskip : SkipFacts T e.platform s (fun u => u) u0 ((preparedCellV T.toThrowableT (freshCell P1.m.cls kX) a u0 sen).withEntry W.cur) :=
    ⟨{ ci198 := ci198, i198 := i198, fBack := fB }, ⟨hk198, hg198, ha198, hsB⟩, by
      have := fresh_default (c := P1.m.cls) tyB
      rw [htB] at this
      simpa [preparedCellV, Cell.setSlot, Cell.withEntry, Array.getElem?_setIfInBounds, bC, bS, bP, bC.symm, bS.symm, bP.symm, defaultValue] using this, fun _ _ => rfl⟩
  obtain ⟨tm, methC, cdC, kC, vm₁, hnC, -, -, -, -, -, -, -, hW₁, st1⟩ := Steps.initColdS (tb := p.tables) (e := e) (below := below) (s := s) (U := W) X.here hexec X.warmed hpl hown (t := Bundle.initS cls) rfl rfl (Bundle.fit_spec hcls).2
    (a' (.methodLink own ic (Bundle.initS cls)) (by simp [Bundle.ownAtoms])) (h (.instanceMethod (Bundle.initS cls)) (by cases names <;> simp [Bundle.ownAtoms, Bundle.chainSAtoms, Bundle.passSAtoms])) (bytes := Bundle.six) (maxL := 2) (h (.code (Bundle.initS cls) Bundle.six 2 none) (by cases names <;> simp [Bundle.ownAtoms, Bundle.chainSAtoms, Bundle.passSAtoms]))
    (f := g) hg (a := a) (msg := msg) (rest := rest) hstack hd6
  cases Option.some.inj (hnC.symm.trans hP1m)
  have X₁ := X.noted hW₁
  obtain ⟨vm₂, X₂, st2⟩ := X₁.ctorMessageOffV hexec (g := { g with stack := rest }) hg hsize T L Z LZ M LM (P1 :: Ps)
    (fun P hP => by rcases List.mem_cons.mp hP with rfl | hP; exact L1; exact hL P hP) ⟨hlink1, hlink⟩ (u0 := u0) (sen := sen) (self := a) hmsg (cell := freshCell P1.m.cls kX) (cellS := cellS)
    hcell (fun _ => by simp) (by simp) rfl rfl hsel0 hselF hcellS hneS hknownS (by rw [hkeep _ (hout' _)]; exact hu0) (by rw [hkeep _ (hout' _)]; exact hsen)
    (Takes.of_laid hk hord tyC (by rw [Y.causeType]; rfl)) (Takes.of_laid hk hord tyS (by rw [Y.stackType]; exact fits_refV_array _ u0)) (Takes.of_laid hk hord tyP (by rw [Y.suppType]; exact fits_refV_object _ sen))
    (Takes.of_laid hk hord tyM (by rw [Y.msgType]; exact fits_refV_object _ ⟨msg, hmsg⟩)) Y.objLocals hskip htr [] hd6
    (by simp only [List.length_cons, hlen]; omega) (by simp only [List.length_cons, hlen]; exact hRlocals)
  refine ⟨vm₂, _, _, X₂, fun q hq => ?_, rfl, rfl, fun target ht => st1 _ fun acts => ?_⟩
  · simp only [List.mem_cons, List.not_mem_nil, or_false] at hq
    rcases hq with rfl | rfl | rfl | rfl | rfl <;> rfl
  · rw [doInvoke_state]
    exact st2 _ ht
/-- a word that holds as long as the tables are warmed and the heap below base stays -/
def mv_kept (base : Nat) (w : Jvm.Cond) (s : State) : Prop := ∀ (args' : Array Value) (s' : State), s.WarmedH s'.vm → (∀ q : Nat, q < base → s'.heap[q]? = s.heap[q]?) → w.before args' s' = true
theorem mv_kept.use {base : Nat} {w : Jvm.Cond} {s : State} (h : mv_kept base w s) (args : Array Value) : w.before args s = true := h args s (State.WarmedH.refl s) fun _ _ => rfl
theorem mv_kept.moved {base : Nat} {w : Jvm.Cond} {s s1 : State} (h : mv_kept base w s) (hW : s.WarmedH s1.vm) (hh : ∀ q : Nat, q < base → s1.heap[q]? = s.heap[q]?) : mv_kept base w s1 := fun args' s' hW' hh' => h args' s' (State.WarmedH.trans hW hW') fun q hq => (hh' q hq).trans (hh q hq)
/-- what stands in the tables, or is kept, for the exception's constructor -/
def mv_okM8 (cl : List vw_C) (Ts Us : List Jvm.Cond) (G : mv_G) (own : String) (idx : Nat) : Prop := (∃ T : u_T, cl[mv_gX G]? = some (mv_ISE, T, 0)) ∧ ∀ w ∈ Bundle.ownAtoms own idx mv_ISE mv_up, w ∈ Ts ∨ w ∈ Us
def mv_okM7 (Ts : List Jvm.Cond) (own : String) (idx : Nat) : Prop := Cond.methodLink own idx arraycopyName ∈ Ts ∧ Cond.native arraycopyName ∈ Ts ∧ Cond.static arraycopyName ∈ Ts ∧ Cond.initialized "java/lang/System" ∈ Ts
section MVN
variable {base : Nat} {kt dA : Nat → Nat} {D : va_G} {cl : List vw_C} {nL : Nat} {p : Program} {l : Launch} {e : Env} {R : Room} {s : State} {m : MethodId} {args : Array Value} {below : List Frame} {meth : Method} {c : Code} {Q : State → Prop} {cc : ByteArray} {G : mv_G} {y pc : Nat} {lo : List (Nat × Value)} {st : List Value} {hp : List va_E} {cb sb fb lb : Nat} {S : mv_S} {Nm : Nat → MethodName} {Ts Us : List Jvm.Cond} {L : List FieldType}
theorem mv_inv_putL {H H1 : Heap} {ls : Array Slot} {locs locs' : List Loc} {cells slots pc' : Nat} {st' : List Value} (I : mv_inv base (mv_ad base kt) dA D cl nL R s (pc, lo, st, hp, cb, sb) H ls locs cells slots) {a : Nat} {e0 e1 : va_E} (h : hp[a]? = some e0)
    (he : va_at D cl (mv_ad base kt a, mv_e (mv_ad base kt) dA e1) H1) (z : H1.size = H.size) (oq : ∀ q : Nat, q ≠ mv_ad base kt a → H1[q]? = H[q]?) (hl : ∀ q ∈ locs', q.base = mv_ad base kt a) : mv_inv base (mv_ad base kt) dA D cl nL R s (pc', lo, st', hp.set a e1, cb, sb) H1 ls (locs ++ locs') cells slots := by
  have I1 := mv_inv_put (k := 0) (pc' := pc') (st' := st') I h he z oq
  obtain ⟨i1, i2, i3, i4, i5⟩ := I1
  refine ⟨i1, i2, i3, ⟨i4.1, i4.2.1, fun q hq => ?_⟩, i5⟩
  rcases List.mem_append.mp hq with h1 | h1
  · exact i4.2.2 q (List.mem_append.mpr (Or.inl h1))
  · show base ≤ q.base
    rw [hl q h1]
    exact i4.2.2 ⟨mv_ad base kt a, 0⟩ (List.mem_append.mpr (Or.inr (List.mem_singleton.mpr rfl)))
theorem mr_copy (hx : p.tables.exec = Jvm.exec) (hb : c.code = cc) (hml : c.maxLocals = nL) (hts : ∀ w ∈ Ts, w.before args s = true) {own : String} (hown : s.vm.findClass own = some m.cls) (hK : va_K D cl (mv_tys dA L) s) (hL : mv_okL L Ts G) {idx : Nat} (hok : mv_okM7 Ts own idx) (hdg : decode cc pc = .ok (.invokestatic idx, 3)) (hfb : fb ≤ R.frames) (hlb : lb ≤ R.locals)
    (h : mv_copy pc lo st hp cb sb fb lb = some S) (k : mv_K base (mv_ad base kt) dA D cl nL p l e R s m args below meth c Q S) : mv_K base (mv_ad base kt) dA D cl nL p l e R s m args below meth c Q (pc, lo, st, hp, cb, sb) := by
  intro H ls locs cells slots I
  unfold mv_copy at h
  split at h
  · rename_i n dp a1 sp a0 r
    split at h
    · rename_i t0 n0 f t1 n1 g h0 h1
      split at h
      · rename_i hc
        obtain ⟨⟨rfl, ht⟩, ⟨s1, s2, s3⟩, s4, s5, s6, s7, s8⟩ := hc
        cases h
        obtain ⟨at0, ad0, -⟩ := mv_inv_at I h0
        obtain ⟨at1, ad1, hl1⟩ := mv_inv_at I h1
        have hc0 : H[mv_ad base kt a0]? = some (vp_cell (dA t0) (n0, .inl f)) := at0
        have hc1 : H[mv_ad base kt a1]? = some (vp_cell (dA t0) (n1, .inl g)) := at1
        obtain ⟨ty, hty, hprim, hfit⟩ : ∃ ty : FieldType, L[t0]? = some ty ∧ refKind ty = false ∧ ∀ i, i < n.toNatClampNeg → fits ty (.int (f (sp.toNatClampNeg + i))) = true := by
          have hall : t0 ≠ 0 → ∀ i, i < n.toNatClampNeg → mv_fitT t0 (f (sp.toNatClampNeg + i)) = true := fun hne i hi => by
            rcases s6 with s6 | s6
            · exact absurd s6 hne
            · exact List.all_eq_true.mp s6 i (List.mem_range.mpr hi)
          have h012 : ∀ t : Nat, t < 3 → t = 0 ∨ t = 1 ∨ t = 2 := fun t h => by omega
          rcases h012 t0 ht with rfl | rfl | rfl
          · exact ⟨_, hL.1, rfl, fun _ _ => rfl⟩
          · exact ⟨_, hL.2.1, rfl, fun i hi => hall (by decide) i hi⟩
          · exact ⟨_, hL.2.2.1, rfl, fun i hi => hall (by decide) i hi⟩
        obtain ⟨k0, hk0⟩ := mv_tys_mem (dA := dA) hty
        obtain ⟨-, kk, hkk, cm, hkd⟩ := (hK.2 k0 _ hk0).1 n0 (fun j => .int (f j))
        have nn : ∀ z : Int32, ¬ z < 0 → z.toInt = (z.toNatClampNeg : Int) := by
          intro z hz
          have hz0 : (0 : Int) ≤ z.toInt := by
            have := Int32.not_lt.mp hz
            simpa using Int32.le_iff_toInt_le.mp this
          show z.toInt = ((z.toInt.toNat : Nat) : Int)
          omega
        obtain ⟨i1, -⟩ := id I
        have hsz : ls.size = c.maxLocals := i1.1.trans hml.symm
        intro T hT X
        obtain ⟨vm', X', step⟩ := X.arraycopy hx hown (hts _ hok.1) (hts _ hok.2.1) (hts _ hok.2.2.1) (hts _ hok.2.2.2) (src := mv_ad base kt a0) (dst := mv_ad base kt a1) (cs := vp_cell (dA t0) (n0, .inl f)) (cd := vp_cell (dA t0) (n1, .inl g)) (srcPos := sp) (destPos := dp) (n := n) (by rw [hT]; exact hc0) (by rw [hT]; exact hc1)
          (fun _ h => by cases h) (fun _ h => by cases h) (fun h => by cases h) (fun h => by cases h) hkk hkk hkd hkd (by simp [hprim]) s1 s2 s3
          (by rw [nn sp s1, nn n s3]; show ¬ _ > ((arrV (dA t0) n0 (fun j => .int (f j))).slots.size : Int); rw [arrV_size]; omega)
          (by rw [nn dp s2, nn n s3]; show ¬ _ > ((arrV (dA t0) n1 (fun j => .int (g j))).slots.size : Int); rw [arrV_size]; omega)
          (fun vm₁ _ i hi => by
            have e : (vp_cell (dA t0) (n0, .inl f)).slots.getD (sp.toNatClampNeg + i) .null = .int (f (sp.toNatClampNeg + i)) := by
              show (arrV (dA t0) n0 (fun j => .int (f j))).slots.getD _ _ = _
              rw [Array.getD_eq_getD_getElem?, arrV_read _ _ (by omega)]
              rfl
            refine ⟨?_, ?_⟩
            · rw [e]
              exact hfit i hi
            · rw [e]
              exact trivial)
          (g := F0 m pc ls (.int n :: .int dp :: .ref (mv_ad base kt a1) :: .int sp :: .ref (mv_ad base kt a0) :: r.map (mv_v (mv_ad base kt)))) rfl hsz (rest := r.map (mv_v (mv_ad base kt))) rfl (by rw [hb]; exact hdg) (Nat.le_trans s7 hfb) (by show 2 * 0 + ((r.map (mv_v (mv_ad base kt))).map fun v => v.category).sum + _ ≤ _; rw [List.map_map, show ((fun v : Value => v.category) ∘ mv_v (mv_ad base kt)) = (fun v : Value => v.category) from funext fun v => mv_v_cat _ v]; omega)
        have e1 : copied (vp_cell (dA t0) (n0, .inl f)) (vp_cell (dA t0) (n1, .inl g)) sp dp n = vp_cell (dA t0) (n1, .inl (va_cpy f g sp.toNatClampNeg dp.toNatClampNeg n.toNatClampNeg)) := va_copied (fun z => .int z) _ _ f g s4
        rw [e1] at X' step
        have hl : mv_ad base kt a1 < H.size := (Array.getElem?_eq_some_iff.mp hc1).1
        have hheap : ((T.setVm vm').setCell (mv_ad base kt a1) (vp_cell (dA t0) (n1, .inl (va_cpy f g sp.toNatClampNeg dp.toNatClampNeg n.toNatClampNeg)))).heap = H.setIfInBounds (mv_ad base kt a1) (vp_cell (dA t0) (n1, .inl (va_cpy f g sp.toNatClampNeg dp.toNatClampNeg n.toNatClampNeg))) := by rw [← hT]; rfl
        have I' := mv_inv_putL (pc' := pc + 3) (st' := r) (e1 := .inl (t0, n1, .inl (va_cpy f g sp.toNatClampNeg dp.toNatClampNeg n.toNatClampNeg))) (H1 := H.setIfInBounds (mv_ad base kt a1) (vp_cell (dA t0) (n1, .inl (va_cpy f g sp.toNatClampNeg dp.toNatClampNeg n.toNatClampNeg)))) (locs' := ((vp_cell (dA t0) (n0, .inl f)).stretch sp.toNatClampNeg n.toNatClampNeg).zipIdx.map fun q => ⟨mv_ad base kt a1, dp.toNatClampNeg + q.2⟩) I h1
          (by show (H.setIfInBounds _ _)[mv_ad base kt a1]? = some (vp_cell (dA t0) (n1, .inl _)); simp [Array.getElem?_setIfInBounds, hl]) (by simp) (fun q hq => by simp [Array.getElem?_setIfInBounds, Ne.symm hq]) (fun q hq => by
            obtain ⟨z, -, hz⟩ := List.mem_map.mp hq
            rw [← hz])
        obtain ⟨t, a, b⟩ := k _ ls _ cells slots I' _ hheap X'
        exact ⟨t, step t a, b⟩
      · cases h
    · cases h
  · cases h
theorem mv_none_at {H : Heap} {ls : Array Slot} {locs : List Loc} {cells slots : Nat} (I : mv_inv base (mv_ad base kt) dA D cl nL R s (pc, lo, st, hp, cb, sb) H ls locs cells slots) {a : Nat} {ce : Cell} (h : H[a]? = some ce) (hs : ce.vm.isStatics = true) : a < base := by
  rcases Nat.lt_or_ge a base with q | q
  · exact q
  · exfalso
    have hlt : a < H.size := (Array.getElem?_eq_some_iff.mp h).1
    have h3 : H.size = base + hp.length := I.2.2.1
    have h7 : hp.length + cb ≤ mv_big := I.2.2.2.2.2.2
    obtain ⟨e0, he⟩ : ∃ e0, hp[a - base]? = some e0 := ⟨_, List.getElem?_eq_getElem (by omega)⟩
    obtain ⟨at0, ad0, -⟩ := mv_inv_at I he
    rw [show mv_ad base kt (a - base) = a by rw [ad0]; omega] at at0
    rcases e0 with e0 | e0
    · obtain ⟨ci, q9, h9⟩ : ∃ (ci : ClassId) (q9 : vp_A), H[a]? = some (vp_cell ci q9) := by
        obtain ⟨t, n, f | f | f | f | f⟩ := e0 <;> exact ⟨_, _, at0⟩
      rw [h] at h9
      rw [Option.some.inj h9] at hs
      unfold vp_cell at hs
      split at hs <;> cases hs
    · obtain ⟨r, -, cell, q1, -, q3, -⟩ := at0
      rw [h] at q1
      cases q1
      rw [q3] at hs
      cases hs
theorem mr_made (hx : p.tables.exec = Jvm.exec) (htr : e.platform.stackTraces = false) (hb : c.code = cc) (hml : c.maxLocals = nL) (hts : ∀ w ∈ Ts, w.before args s = true) (hus : ∀ w ∈ Us, mv_kept base w s) {own : String} (hown : s.vm.findClass own = some m.cls) {tys : List (ClassId × FieldType)} (hK : va_K D cl tys s) (hI : ∀ q i n, mv_gI G y q = some (i, n) → decode cc q = .ok (i, n)) {idx : Nat}
    (hokN : ∀ (C : String) (T : u_T) (N : Nat), cl[mv_gX G]? = some (C, T, N) → Cond.classLink own idx C ∈ Ts ∧ Cond.instantiable C (mv_gZ G (mv_gX G)) ∈ Ts ∧ Cond.initialized C ∈ Ts) (hok8 : ∀ i3 z n, mv_gC G y i3 = some (8, z, n) → mv_okM8 cl Ts Us G own i3)
    (hstr : ∀ i2 a, mv_gK G y i2 = some (.ref a) → ∃ tx : String, vk_R own i2 tx (kt (a - mv_big)) s) (hdg : decode cc pc = .ok (.new idx, 3)) (hfb : fb ≤ R.frames) (hlb : lb ≤ R.locals)
    (h : mv_made G y pc lo st hp cb sb fb lb = some S) (k : mv_K base (mv_ad base kt) dA D cl nL p l e R s m args below meth c Q S) : mv_K base (mv_ad base kt) dA D cl nL p l e R s m args below meth c Q (pc, lo, st, hp, cb, sb) := by
  intro H ls locs cells slots I
  unfold mv_made at h
  split at h
  · rename_i i2 i3 e3 e4 e7
    split at h
    · rename_i a kd z0 n0 hk hc
      split at h
      · rename_i hq
        obtain ⟨rfl, c1, c2, c3, c4⟩ := hq
        cases h
        obtain ⟨⟨T0, hcl⟩, hw⟩ := hok8 _ _ _ hc
        obtain ⟨n1, n2, n3⟩ := hokN _ _ _ hcl
        have hat : ∀ w ∈ Bundle.ownAtoms own i3 mv_ISE mv_up, w.before args s = true := fun w hw' => by
          rcases hw w hw' with q | q
          · exact hts _ q
          · exact (hus _ q).use args
        have hKn := hK.1 _ _ hcl
        have hinst := hat (.instantiable mv_ISE 6) (by simp [Bundle.ownAtoms])
        obtain ⟨tx, hZ⟩ := hstr _ _ hk
        have I5 : cells + cb ≤ R.cells := I.2.2.2.2.1
        have I6 : slots + sb ≤ R.slots := I.2.2.2.2.2.1
        have hls : ls.size = c.maxLocals := I.1.1.trans hml.symm
        refine W.newcK hx hb hown (hts _ n1) hinst (hts _ n3) rfl hdg (by omega) (by omega) hKn.2.1 rfl fun H1 kC hkC e1 z1 o1 => ?_
        obtain ⟨I1, hz⟩ := mv_inv_new (pc' := pc + 3) (st' := .ref hp.length :: st) (H1 := H1) (e1 := .inr (mv_gX G, [])) (n := 6) I c1 c2 ⟨_, hcl, _, e1, rfl, rfl, fun k hk => absurd hk (Nat.not_lt_zero k)⟩ z1 o1
        refine lv_dup hx hb (hI _ _ _ e3) rfl ?_
        refine mv_ldcwS hx hb hown hZ (hI _ _ _ e4) ?_
        intro T hT X
        have hlow : ∀ (aS : Nat) (c0 : Cell), s.heap[aS]? = some c0 → c0.vm.isStatics = true → (∀ i, (⟨aS, i⟩ : Loc) ∉ locs) ∧ aS ≠ H.size := by
          intro aS c0 h1 h2
          obtain ⟨cS, hS, heS, -, -⟩ := X.same.2.2.2.2.2 aS c0 h1
          have h3 : H1[aS]? = some cS := by rw [← hT]; exact hS
          have h4 := mv_none_at I1 h3 (by rw [heS]; exact h2)
          have hb2 : base ≤ H.size := by have h5 : H.size = base + hp.length := I.2.2.1; omega
          refine ⟨fun i hi => ?_, by omega⟩
          have h5 : base ≤ aS := I.2.2.2.1.2.2 _ hi
          omega
        obtain ⟨vm', ce, L1, X', hL1, q1, q2, step⟩ := mv_ctor X hx htr hown (cls := mv_ISE) (names := mv_up) (by decide +kernel) (by decide +kernel) hat hlow hKn.2.1 hkC (by rw [hT]; exact e1) (msg := .ref (kt (a - mv_big))) rfl (g := F0 m (pc + 7) ls (.ref (kt (a - mv_big)) :: .ref H.size :: .ref H.size :: st.map (mv_v (mv_ad base kt)))) rfl hls (rest := .ref H.size :: st.map (mv_v (mv_ad base kt))) rfl (by rw [hb]; exact hI _ _ _ e7)
          (by show 2 + 3 < R.frames; omega) (by
            show 2 * 0 + ((Value.ref H.size :: st.map (mv_v (mv_ad base kt))).map fun v => v.category).sum + (13 * (2 + 1) + 42) ≤ R.locals
            rw [List.map_cons, List.sum_cons, List.map_map, show ((fun v : Value => v.category) ∘ mv_v (mv_ad base kt)) = (fun v : Value => v.category) from funext fun v => mv_v_cat _ v]
            show 2 * 0 + (1 + _) + _ ≤ _
            omega)
        have hl : H.size < H1.size := by omega
        have hheap : ((T.setVm vm').setCell H.size ce).heap = H1.setIfInBounds H.size ce := by rw [← hT]; rfl
        have hat1 : (hp ++ [Sum.inr (mv_gX G, [])])[hp.length]? = some (Sum.inr (mv_gX G, []) : va_E) := by simp
        have I2 := mv_inv_putL (pc' := pc + 10) (st' := .ref hp.length :: st) (e1 := .inr (mv_gX G, [])) (H1 := H1.setIfInBounds H.size ce) (locs' := L1) I1 hat1
          (by
            rw [hz]
            exact ⟨_, hcl, ce, by show (H1.setIfInBounds H.size ce)[H.size]? = some ce; simp [Array.getElem?_setIfInBounds, hl], q1, q2, fun k hk => absurd hk (Nat.not_lt_zero k)⟩) (by simp) (fun q hq => by
              rw [hz] at hq
              simp [Array.getElem?_setIfInBounds, Ne.symm hq]) (fun q hq => by rw [hz]; exact hL1 q hq)
        have hset : (hp ++ [(Sum.inr (mv_gX G, []) : va_E)]).set hp.length (Sum.inr (mv_gX G, []) : va_E) = hp ++ [(Sum.inr (mv_gX G, []) : va_E)] := by simp
        rw [hset] at I2
        obtain ⟨t, b1, b2⟩ := mv_new_eq (H := H) hz k I2 _ hheap X'
        exact ⟨t, step t b1, b2⟩
      · cases h
    · cases h
  · cases h
/-- the arrays that were there before, as a state has them -/
def mv_okX (G : mv_G) (base : Nat) (kt : Nat → Nat) (s : State) : Prop := base ≤ s.heap.size ∧ (∀ a n f, mv_gS G a = some (n, f) → mv_big ≤ a ∧ kt (a - mv_big) < base ∧ va_X (kt (a - mv_big)) n f s s.heap) ∧ ∀ a tx, mv_gX2 G a = some tx → mv_big ≤ a ∧ tx.length < 2 ^ 31 ∧ ∃ v : Nat, st_SA (fun q => base ≤ q) (kt (a - mv_big)) v tx.length (fun j => tx.getD j 0) s s.heap
theorem mv_ad_big {a : Nat} (h : mv_big ≤ a) : mv_ad base kt a = kt (a - mv_big) := by
  rw [mv_ad, if_neg (by omega)]
theorem mr_xald (hx : p.tables.exec = Jvm.exec) (hb : c.code = cc) (hX : mv_okX G base kt s) (hdg : decode cc pc = .ok (.iaload, 1)) (h : mv_xald G pc lo st hp cb sb = some S) (k : mv_K base (mv_ad base kt) dA D cl nL p l e R s m args below meth c Q S) : mv_K base (mv_ad base kt) dA D cl nL p l e R s m args below meth c Q (pc, lo, st, hp, cb, sb) := by
  intro H ls locs cells slots I
  unfold mv_xald at h
  split at h
  · rename_i i a r
    split at h
    · rename_i n f hs
      split at h
      · rename_i ho
        cases h
        obtain ⟨h0, h1, -⟩ := hX
        obtain ⟨h2, h3, h4⟩ := h1 _ _ _ hs
        have e1 : (Value.int i :: Value.ref a :: r).map (mv_v (mv_ad base kt)) = .int i :: .ref (kt (a - mv_big)) :: r.map (mv_v (mv_ad base kt)) := by
          show Value.int i :: Value.ref (mv_ad base kt a) :: _ = _
          rw [mv_ad_big h2]
        show W p l e R s m args below meth c H locs cells slots Q (F0 m pc ls ((Value.int i :: Value.ref a :: r).map (mv_v (mv_ad base kt))))
        rw [e1]
        refine va_sld hx hb h4 (by omega) (show ¬ base ≤ _ by omega) I.2.2.2.1 ?_ hdg (k H ls locs cells slots I)
        intro q
        have : mv_out i n = true := decide_eq_true q
        rw [ho] at this
        cases this
      · cases h
    · cases h
  · cases h
theorem mr_xlen (hx : p.tables.exec = Jvm.exec) (hb : c.code = cc) (hX : mv_okX G base kt s) (hdg : decode cc pc = .ok (.arraylength, 1)) (h : mv_xlen G pc lo st hp cb sb = some S) (k : mv_K base (mv_ad base kt) dA D cl nL p l e R s m args below meth c Q S) : mv_K base (mv_ad base kt) dA D cl nL p l e R s m args below meth c Q (pc, lo, st, hp, cb, sb) := by
  intro H ls locs cells slots I
  unfold mv_xlen at h
  split at h
  · rename_i a r
    split at h
    · rename_i n f hs
      cases h
      obtain ⟨h0, h1, -⟩ := hX
      obtain ⟨h2, h3, h4⟩ := h1 _ _ _ hs
      have e1 : (Value.ref a :: r).map (mv_v (mv_ad base kt)) = .ref (kt (a - mv_big)) :: r.map (mv_v (mv_ad base kt)) := by
        show Value.ref (mv_ad base kt a) :: _ = _
        rw [mv_ad_big h2]
      show W p l e R s m args below meth c H locs cells slots Q (F0 m pc ls ((Value.ref a :: r).map (mv_v (mv_ad base kt))))
      rw [e1]
      exact va_slen hx hb h4 (by omega) (show ¬ base ≤ _ by omega) I.2.2.2.1 hdg (k H ls locs cells slots I)
    · cases h
  · cases h
def mv_okM9 (Ts : List Jvm.Cond) (own : String) (idx : Nat) : Prop := Cond.methodLink own idx Lib.objectInit ∈ Ts ∧ Cond.instanceMethod Lib.objectInit ∈ Ts ∧ Cond.code Lib.objectInit ⟨#[0xb1]⟩ 1 none ∈ Ts
theorem mr_oini (hx : p.tables.exec = Jvm.exec) (hb : c.code = cc) (hml : c.maxLocals = nL) (hts : ∀ w ∈ Ts, w.before args s = true) {own : String} (hown : s.vm.findClass own = some m.cls) {idx : Nat} (hok : mv_okM9 Ts own idx) (hdg : decode cc pc = .ok (.invokespecial idx, 3)) (hfb : fb ≤ R.frames) (hlb : lb ≤ R.locals)
    (h : mv_oini pc lo st hp cb sb fb lb = some S) (k : mv_K base (mv_ad base kt) dA D cl nL p l e R s m args below meth c Q S) : mv_K base (mv_ad base kt) dA D cl nL p l e R s m args below meth c Q (pc, lo, st, hp, cb, sb) := by
  intro H ls locs cells slots I
  unfold mv_oini at h
  split at h
  · rename_i a r
    split at h
    · rename_i hq
      cases h
      have hsz : ls.size = c.maxLocals := I.1.1.trans hml.symm
      exact W.objInit hx hb hown (hts _ hok.1) (hts _ hok.2.1) (hts _ hok.2.2) (g := F0 m pc ls ((Value.ref a :: r).map (mv_v (mv_ad base kt)))) rfl hsz (a := mv_ad base kt a) (rest := r.map (mv_v (mv_ad base kt))) rfl hdg (Nat.le_trans hq.1 hfb) (by
        show 2 * 0 + ((r.map (mv_v (mv_ad base kt))).map fun v => v.category).sum + 12 ≤ R.locals
        rw [List.map_map, show ((fun v : Value => v.category) ∘ mv_v (mv_ad base kt)) = (fun v : Value => v.category) from funext fun v => mv_v_cat _ v]
        omega) (k H ls locs cells slots I)
    · cases h
  · cases h
theorem mr_slen (hx : p.tables.exec = Jvm.exec) (hb : c.code = cc) (hml : c.maxLocals = nL) (hts : ∀ w ∈ Ts, w.before args s = true) {own : String} (hown : s.vm.findClass own = some m.cls) (hX : mv_okX G base kt s) {idx : Nat} (hok : GoodIn Ts (wsV own idx st_C st_y6 st_w6)) (hdg : decode cc pc = .ok (.invokevirtual idx, 3)) (hfb : fb ≤ R.frames) (hlb : lb ≤ R.locals)
    (h : mv_slen G pc lo st hp cb sb fb lb = some S) (k : mv_K base (mv_ad base kt) dA D cl nL p l e R s m args below meth c Q S) : mv_K base (mv_ad base kt) dA D cl nL p l e R s m args below meth c Q (pc, lo, st, hp, cb, sb) := by
  intro H ls locs cells slots I
  unfold mv_slen at h
  split at h
  · rename_i a r
    split at h
    · rename_i tx htx
      split at h
      · rename_i hq
        cases h
        obtain ⟨h2, h3, v, h4⟩ := hX.2.2 a tx htx
        obtain ⟨i1, i2, i3, i4, i5, i6, i7⟩ := id I
        dsimp only at i5 i6
        have h5 : st_S (kt (a - mv_big)) v tx.length (fun j => tx.getD j 0) s H := st_S.free (st_S.kept h4 fun q h8 h9 => i4.2.1 q h8 h9)
        have e1 : (Value.ref a :: r).map (mv_v (mv_ad base kt)) = .ref (kt (a - mv_big)) :: r.map (mv_v (mv_ad base kt)) := by
          show Value.ref (mv_ad base kt a) :: _ = _
          rw [mv_ad_big h2]
        show W p l e R s m args below meth c H locs cells slots Q (F0 m pc ls ((Value.ref a :: r).map (mv_v (mv_ad base kt))))
        rw [e1]
        refine st_go (va_runV (As := []) (rest := r.map (mv_v (mv_ad base kt))) ⟨hx, hb, hml, hown, hts⟩ (c_st6 l (kt (a - mv_big)) v tx.length (fun j => tx.getD j 0)) (cwV 0 hts hok rfl rfl rfl (by decide +kernel) ⟨by show 1 + 1 ≤ R.frames; omega, by show 8 + (1 + 11) + 20 ≤ R.locals; omega⟩) ⟨fun a U g mk q => ⟨q.1, st_S.moved (u := U) (U := U.calling g mk a) (Vm.Alike.refl U.vm) q.2⟩, (by obtain ⟨cell, z1, z2, z3, -⟩ := h5.1; exact ⟨cell, z1, z2, z3⟩), fun U hU hW => ⟨rfl, by show st_S _ _ _ _ U U.heap; rw [hU]; exact st_S.moved hW.alike h5⟩⟩ rfl rfl i1.1 rfl ?_ hdg ⟨by omega, by omega⟩) (k H ls locs cells slots I)
        show 2 * 0 + ((r.map (mv_v (mv_ad base kt))).map fun v => v.category).sum ≤ 8
        rw [List.map_map, show ((fun v : Value => v.category) ∘ mv_v (mv_ad base kt)) = (fun v : Value => v.category) from funext fun v => mv_v_cat _ v]
        omega
      · cases h
    · cases h
  · cases h
theorem mr_schr (hx : p.tables.exec = Jvm.exec) (hb : c.code = cc) (hml : c.maxLocals = nL) (hts : ∀ w ∈ Ts, w.before args s = true) {own : String} (hown : s.vm.findClass own = some m.cls) (hX : mv_okX G base kt s) {idx : Nat} (hok : GoodIn Ts (wsV own idx st_C st_y4 st_w4)) (hdg : decode cc pc = .ok (.invokevirtual idx, 3)) (hfb : fb ≤ R.frames) (hlb : lb ≤ R.locals)
    (h : mv_schr G pc lo st hp cb sb fb lb = some S) (k : mv_K base (mv_ad base kt) dA D cl nL p l e R s m args below meth c Q S) : mv_K base (mv_ad base kt) dA D cl nL p l e R s m args below meth c Q (pc, lo, st, hp, cb, sb) := by
  intro H ls locs cells slots I
  unfold mv_schr at h
  split at h
  · rename_i i a r
    split at h
    · rename_i tx htx
      split at h
      · rename_i hq
        cases h
        obtain ⟨h2, h3, v, h4⟩ := hX.2.2 a tx htx
        obtain ⟨i1, i2, i3, i4, i5, i6, i7⟩ := id I
        dsimp only at i5 i6
        have hin : vp_in i tx.length := fun q => of_decide_eq_false hq.1 q
        have h5 : st_S (kt (a - mv_big)) v tx.length (fun j => tx.getD j 0) s H := st_S.free (st_S.kept h4 fun q h8 h9 => i4.2.1 q h8 h9)
        have e1 : (Value.int i :: Value.ref a :: r).map (mv_v (mv_ad base kt)) = .int i :: .ref (kt (a - mv_big)) :: r.map (mv_v (mv_ad base kt)) := by
          show Value.int i :: Value.ref (mv_ad base kt a) :: _ = _
          rw [mv_ad_big h2]
        show W p l e R s m args below meth c H locs cells slots Q (F0 m pc ls ((Value.int i :: Value.ref a :: r).map (mv_v (mv_ad base kt))))
        rw [e1]
        refine st_go (va_runV (As := [.int i]) (rest := r.map (mv_v (mv_ad base kt))) ⟨hx, hb, hml, hown, hts⟩ (c_st4 l (kt (a - mv_big)) v tx.length (fun j => tx.getD j 0) i hin h3) (cwV 1 hts hok rfl rfl rfl (by decide +kernel) ⟨by show 3 + 1 ≤ R.frames; omega, by show 8 + (2 + 11) + 64 ≤ R.locals; omega⟩) ⟨fun a U g mk q => ⟨q.1, st_S.moved (u := U) (U := U.calling g mk a) (Vm.Alike.refl U.vm) q.2⟩, (by obtain ⟨cell, z1, z2, z3, -⟩ := h5.1; exact ⟨cell, z1, z2, z3⟩), fun U hU hW => ⟨rfl, by show st_S _ _ _ _ U U.heap; rw [hU]; exact st_S.moved hW.alike h5⟩⟩ rfl rfl i1.1 rfl ?_ hdg ⟨by omega, by omega⟩) (k H ls locs cells slots I)
        show 2 * 0 + ((r.map (mv_v (mv_ad base kt))).map fun v => v.category).sum ≤ 8
        rw [List.map_map, show ((fun v : Value => v.category) ∘ mv_v (mv_ad base kt)) = (fun v : Value => v.category) from funext fun v => mv_v_cat _ v]
        omega
      · cases h
    · cases h
  · cases h
theorem mr_aasA (hx : p.tables.exec = Jvm.exec) (hb : c.code = cc) (hts : ∀ w ∈ Ts, w.before args s = true) (hK : va_K D cl (mv_tys dA L) s) (hB : ∀ t t2, mv_gB G t = some t2 → ∃ ty : FieldType, (ty = .byte ∨ ty = .array .byte) ∧ L[t]? = some (.array ty) ∧ L[t2]? = some ty ∧ Cond.arrayOver (.array ty) ∈ Ts) (hdg : decode cc pc = .ok (.aastore, 1))
    (h : mv_aasA G pc lo st hp cb sb = some S) (k : mv_K base (mv_ad base kt) dA D cl nL p l e R s m args below meth c Q S) : mv_K base (mv_ad base kt) dA D cl nL p l e R s m args below meth c Q (pc, lo, st, hp, cb, sb) := by
  intro H ls locs cells slots I
  unfold mv_aasA at h
  split at h
  · rename_i b i a r
    split at h
    · rename_i t n g t2 z2 he hb0
      split at h
      · rename_i hq
        cases h
        obtain ⟨ty, hty, hLt, hLt2, hov⟩ := hB _ _ hq.1
        have hin : vp_in i n := fun q => of_decide_eq_false hq.2 q
        have hlt : i.toNatClampNeg < n := Nat.not_le.mp fun q => hin (Or.inr q)
        have h0 : ¬ i < 0 := fun q => hin (Or.inl q)
        obtain ⟨t0, ht0⟩ := mv_tys_mem (dA := dA) hLt
        obtain ⟨t1, ht1⟩ := mv_tys_mem (dA := dA) hLt2
        obtain ⟨hat, -, -⟩ := mv_inv_at I he
        obtain ⟨hbt, -, -⟩ := mv_inv_at I hb0
        obtain ⟨comp, c9, kA, q1, -, q2, q3, q4⟩ := arrayOverA_spec (hts _ hov)
        have e9 : c9 = dA t := Option.some.inj (q4.symm.trans (hK.2 t0 _ ht0).2)
        subst e9
        have e8 : comp = dA t2 := by
          have z := (hK.2 t1 _ ht1).2
          rcases hty with rfl | rfl <;> exact Option.some.inj (q1.symm.trans z)
        subst e8
        obtain ⟨-, kC, hkC, -⟩ := (hK.2 t1 _ ht1).1 0 (fun _ => .null)
        have hb1 : ∃ cell : Cell, H[mv_ad base kt b]? = some cell ∧ (∀ q, cell.vm ≠ .statics q) ∧ cell.cls = dA t2 := by
          obtain ⟨n2, f2 | f2 | f2 | f2 | f2⟩ := z2 <;> exact ⟨_, hbt, (fun q h => by cases h), rfl⟩
        obtain ⟨cell, b1, b2, b3⟩ := hb1
        refine W.aast hx hb hat (fun q h => by cases h) (fun h => by cases h) q2 q3 rfl hkC ⟨h0, by show _ < (arrV _ _ _).slots.size; rw [arrV_size]; exact hlt⟩ b1 b2 (by rw [b3]; exact hkC) (by rw [b3]; unfold Vm.assignable Vm.assignableAux; simp only [beq_self_eq_true, Bool.true_or]) rfl rfl hdg fun H1 e1 z oq => k H1 ls _ cells slots ?_
        refine mv_inv_put I he ?_ z oq
        show H1[mv_ad base kt a]? = some (vp_cell (dA t) (n, .inr (.inr (.inr (.inr (fun j => (va_up g i.toNatClampNeg (some b) j).map (mv_ad base kt)))))))
        rw [e1, mv_up_map, vp_cell_q]
        show some ((vp_cell (dA t) (n, .inr (.inr (.inr (.inr (fun j => (g j).map (mv_ad base kt))))))).setSlot i.toNatClampNeg _) = _
        rw [vp_cell_q, vp_cell_q, arrV_store]
        congr 2
        funext q
        by_cases hq9 : q = i.toNatClampNeg
        · subst hq9
          simp [updV, va_up, mv_v]
          rfl
        · simp [updV, va_up, hq9]
      · cases h
    · cases h
  · cases h
/-- the calls that have no bytecode: what stands in the tables -/
def mv_okN8 (Nm : Nat → MethodName) (cl : List vw_C) (Ts Us : List Jvm.Cond) (G : mv_G) : Prop := ∀ y idx kd z n, mv_gC G y idx = some (kd, z, n) → (kd = 7 → mv_okM7 Ts (Nm y).cls idx) ∧ (kd = 8 → mv_okM8 cl Ts Us G (Nm y).cls idx) ∧ (kd = 9 → mv_okM9 Ts (Nm y).cls idx) ∧ (kd = 10 → GoodIn Ts (wsV (Nm y).cls idx st_C st_y6 st_w6)) ∧ (kd = 11 → GoodIn Ts (wsV (Nm y).cls idx st_C st_y4 st_w4))
theorem mr_nat {Cd : Nat → ByteArray} (hV : mv_okG Nm Cd cl L Ts G) (hN : mv_okN8 Nm cl Ts Us G) (hL : mv_okL L Ts G) (hx : p.tables.exec = Jvm.exec) (htr : e.platform.stackTraces = false) (hb : c.code = Cd y) (hml : c.maxLocals = nL) (hts : ∀ w ∈ Ts, w.before args s = true) (hus : ∀ w ∈ Us, mv_kept base w s) (hown : s.vm.findClass (Nm y).cls = some m.cls) (hK : va_K D cl (mv_tys dA L) s) (hstr : mv_okT Nm G kt s y) (hX : mv_okX G base kt s) (hfb : fb ≤ R.frames) (hlb : lb ≤ R.locals) {S S' : mv_S}
    (h : mv_nat G y fb lb S = some S') (k : mv_K base (mv_ad base kt) dA D cl nL p l e R s m args below meth c Q S') : mv_K base (mv_ad base kt) dA D cl nL p l e R s m args below meth c Q S := by
  obtain ⟨pc, lo, st, hp, cb, sb⟩ := S
  unfold mv_nat at h
  split at h
  · rename_i idx hI
    split at h
    · rename_i kd z n hc
      split at h
      · rename_i hk
        exact mr_copy hx hb hml hts hown hK hL ((hN _ _ _ _ _ hc).1 hk) (hV.1 _ _ _ _ hI) hfb hlb h k
      · cases h
    · cases h
  · rename_i idx hI
    split at h
    · rename_i ci hc
      split at h
      · rename_i hci
        subst hci
        exact mr_made hx htr hb hml hts hus hown hK (fun q i n hq => hV.1 _ _ _ _ hq) (hV.2.2.1 _ _ _ hc).2 (fun i3 z n hq => (hN _ _ _ _ _ hq).2.1 rfl) (fun i2 a hq => (hstr _ _ hq).2) (hV.1 _ _ _ _ hI) hfb hlb h k
      · cases h
    · cases h
  · rename_i idx hI
    split at h
    · rename_i kd z n hc
      split at h
      · rename_i hk
        exact mr_oini hx hb hml hts hown ((hN _ _ _ _ _ hc).2.2.1 hk) (hV.1 _ _ _ _ hI) hfb hlb h k
      · cases h
    · cases h
  · rename_i idx hI
    split at h
    · rename_i kd z n hc
      split at h
      · rename_i hk
        exact mr_slen hx hb hml hts hown hX ((hN _ _ _ _ _ hc).2.2.2.1 hk) (hV.1 _ _ _ _ hI) hfb hlb h k
      · split at h
        · rename_i hk
          exact mr_schr hx hb hml hts hown hX ((hN _ _ _ _ _ hc).2.2.2.2 hk) (hV.1 _ _ _ _ hI) hfb hlb h k
        · cases h
    · cases h
  · rename_i hI
    exact mr_aasA hx hb hts hK hL.2.2.2.2.2.2.2 (hV.1 _ _ _ _ hI) h k
  · rename_i hI
    exact mr_xald hx hb hX (hV.1 _ _ _ _ hI) h k
  · rename_i hI
    exact mr_xlen hx hb hX (hV.1 _ _ _ _ hI) h k
  · cases h
end MVN
