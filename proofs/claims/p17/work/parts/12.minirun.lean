/-! the small machine: its run, and that the real machine does what it does -/
def mv_g (n k : Nat) (r : Option mv_R) : Option mv_R := if n = k then r else none
theorem mv_g_eq {n k : Nat} {r : Option mv_R} {x : mv_R} (h : mv_g n k r = some x) : n = k ∧ r = some x := by
  unfold mv_g at h
  split at h
  · rename_i e
    exact ⟨e, h⟩
  · cases h
def mv_og : Option mv_R → Option mv_R
  | some (.inl S) => some (.inl S)
  | _ => none
theorem mv_og_eq {r : Option mv_R} {x : mv_R} (h : mv_og r = some x) : ∃ S, x = .inl S ∧ r = some (.inl S) := by
  unfold mv_og at h
  split at h
  · cases h
    exact ⟨_, rfl, rfl⟩
  · cases h
def mv_ins (G : mv_G) (y pc : Nat) (l : List (Nat × Value)) (st : List Value) (hp : List va_E) (cb sb n : Nat) : Instr → Option mv_R
  | .aconst_null => mv_g n 1 (mv_push pc l st hp cb sb 1 .null)
  | .iconst v => mv_g n 1 (mv_push pc l st hp cb sb 1 (.int (Int32.ofInt v)))
  | .bipush v => mv_g n 2 (mv_push pc l st hp cb sb 2 (.int (Int8.ofInt v).toInt32))
  | .sipush v => mv_g n 3 (mv_push pc l st hp cb sb 3 (.int (Int16.ofInt v).toInt32))
  | .iload i => mv_g n 2 (mv_load pc l st hp cb sb i 2 mv_int)
  | .iload_n i => mv_g n 1 (mv_load pc l st hp cb sb i 1 mv_int)
  | .aload i => mv_g n 2 (mv_load pc l st hp cb sb i 2 mv_rfv)
  | .aload_n i => mv_g n 1 (mv_load pc l st hp cb sb i 1 mv_rfv)
  | .istore i => mv_g n 2 (mv_store G y pc l st hp cb sb i 2 mv_int)
  | .istore_n i => mv_g n 1 (mv_store G y pc l st hp cb sb i 1 mv_int)
  | .astore i => mv_g n 2 (mv_store G y pc l st hp cb sb i 2 mv_rfv)
  | .astore_n i => mv_g n 1 (mv_store G y pc l st hp cb sb i 1 mv_rfv)
  | .iadd => mv_g n 1 (mv_bin pc l st hp cb sb mv_f_iadd)
  | .isub => mv_g n 1 (mv_bin pc l st hp cb sb mv_f_isub)
  | .imul => mv_g n 1 (mv_bin pc l st hp cb sb mv_f_imul)
  | .iand => mv_g n 1 (mv_bin pc l st hp cb sb mv_f_iand)
  | .ior => mv_g n 1 (mv_bin pc l st hp cb sb mv_f_ior)
  | .ixor => mv_g n 1 (mv_bin pc l st hp cb sb mv_f_ixor)
  | .ishl => mv_g n 1 (mv_bin pc l st hp cb sb mv_f_ishl)
  | .ishr => mv_g n 1 (mv_bin pc l st hp cb sb mv_f_ishr)
  | .iushr => mv_g n 1 (mv_bin pc l st hp cb sb mv_f_iushr)
  | .idiv => mv_g n 1 (mv_dvd pc l st hp cb sb mv_f_idiv)
  | .irem => mv_g n 1 (mv_dvd pc l st hp cb sb mv_f_irem)
  | .ineg => mv_g n 1 (mv_un pc l st hp cb sb mv_f_ineg)
  | .i2b => mv_g n 1 (mv_un pc l st hp cb sb mv_f_i2b)
  | .i2c => mv_g n 1 (mv_un pc l st hp cb sb mv_f_i2c)
  | .dup => mv_g n 1 (mv_dup pc l st hp cb sb)
  | .pop => mv_g n 1 (mv_pop pc l st hp cb sb)
  | .dup_x1 => mv_g n 1 (mv_dupx pc l st hp cb sb)
  | .dup2 => mv_g n 1 (mv_dup2 pc l st hp cb sb)
  | .goto off => mv_g n 3 (mv_jump pc l hp cb sb off true st)
  | .ifnull off => mv_g n 3 (mv_ifn pc l st hp cb sb true off)
  | .ifnonnull off => mv_g n 3 (mv_ifn pc l st hp cb sb false off)
  | .getfield idx => mv_g n 3 (mv_get G y pc l st hp cb sb idx)
  | .putfield idx => mv_g n 3 (mv_put G y pc l st hp cb sb idx)
  | .new idx => mv_g n 3 (mv_new G y pc l st hp cb sb idx)
  | .newarray at_ => mv_g n 2 (mv_newa pc l st hp cb sb at_)
  | .anewarray idx => mv_g n 3 (mv_anew G y pc l st hp cb sb idx)
  | .iaload => mv_g n 1 (mv_iald pc l st hp cb sb)
  | .baload => mv_g n 1 (mv_bald pc l st hp cb sb)
  | .aaload => mv_g n 1 (mv_aald G pc l st hp cb sb)
  | .iastore => mv_g n 1 (mv_iast pc l st hp cb sb)
  | .bastore => mv_g n 1 (mv_bast pc l st hp cb sb)
  | .arraylength => mv_g n 1 (mv_alen G pc l st hp cb sb)
  | .ldc idx => mv_g n 2 (mv_ldc G y pc l st hp cb sb idx 2)
  | .ldc_w idx => mv_g n 3 (mv_ldc G y pc l st hp cb sb idx 3)
  | .multianewarray idx d => mv_g n 4 (mv_multi G y pc l st hp cb sb idx d)
  | .aastore => mv_g n 1 (mv_aast G pc l st hp cb sb)
  | .iinc i v => if n = 3 then mv_inc G y pc l st hp cb sb i v 3 else mv_g n 6 (mv_inc G y pc l st hp cb sb i v 6)
  | .ifCond c off => mv_g n 3 (mv_if pc l st hp cb sb c off)
  | .if_icmp c off => mv_g n 3 (mv_icmp pc l st hp cb sb c off)
  | .if_acmp c off => mv_g n 3 (mv_acmp pc l st hp cb sb c off)
  | .tableswitch d lw hg offs => mv_tsw pc l st hp cb sb d lw hg offs
  | .lookupswitch d ps => mv_lsw pc l st hp cb sb d ps
  | _ => none
/-- one instruction -/
def mv_exec (G : mv_G) (y : Nat) (S : mv_S) : Option mv_R := match mv_gI G y S.1 with
  | none => none
  | some (i, n) => match i with
    | .invokestatic idx => mv_g n 3 (mv_callS G y S.2.2.1 idx)
    | .invokevirtual idx => mv_g n 3 (mv_callV G y S.2.2.1 S.2.2.2.1 idx)
    | .invokespecial idx => mv_g n 3 (mv_callI G y S.2.2.1 idx)
    | .ireturn => mv_g n 1 (mv_iret G y S.2.2.1)
    | .areturn => mv_g n 1 (mv_aret G y S.2.2.1)
    | .return_ => mv_g n 1 (mv_vret G y S.2.2.1)
    | .athrow => mv_g n 1 (mv_throw S.2.2.1)
    | i => mv_og (mv_ins G y S.1 S.2.1 S.2.2.1 S.2.2.2.1 S.2.2.2.2.1 S.2.2.2.2.2 n i)
/-- a has been thrown at S: out of the method, or into its handler -/
def mv_take (G : mv_G) (y : Nat) (k : mv_S → Option mv_E) (a : Nat) (S : mv_S) : Option mv_E := match mv_hand (mv_gH G y) S.1 with
  | none => some (.inl a, S.2.2.2.1, S.2.2.2.2.1, S.2.2.2.2.2)
  | some (h, _) => match S.2.2.2.1[a]? with
    | some (.inr (ci, _)) => if ci = mv_gX G then k (h, S.2.1, [.ref a], S.2.2.2.1, S.2.2.2.2.1, S.2.2.2.2.2) else none
    | _ => none
def mv_run (G : mv_G) : Nat → Nat → Nat → Nat → mv_S → Option mv_E
  | 0, _, _, _, _ => none
  | n + 1, y, fb, lb, S => match mv_nat G y fb lb S with
   | some S' => mv_run G n y fb lb S'
   | none => match mv_exec G y S with
    | none => none
    | some (.inl S') => mv_run G n y fb lb S'
    | some (.inr (.inl (z, as, r, len))) =>
      if 1 ≤ fb ∧ (r.map fun v => v.category).sum + (mv_gL G z + 11) ≤ lb ∧ (lg_sl as).length ≤ mv_gL G z then
        match mv_run G n z (fb - 1) (lb - ((r.map fun v => v.category).sum + (mv_gL G z + 11))) (0, lv_args 0 as, [], S.2.2.2.1, S.2.2.2.2.1, S.2.2.2.2.2) with
        | none => none
        | some (.inr v, hp, cb, sb) => mv_run G n y fb lb (S.1 + len, S.2.1, v.toList ++ r, hp, cb, sb)
        | some (.inl a, hp, cb, sb) => mv_take G y (mv_run G n y fb lb) a (S.1, S.2.1, [], hp, cb, sb)
      else none
    | some (.inr (.inr (.inl v))) => some (.inr v, S.2.2.2.1, S.2.2.2.2.1, S.2.2.2.2.2)
    | some (.inr (.inr (.inr a))) => mv_take G y (mv_run G n y fb lb) a S
section MVX
variable {base : Nat} {kt dA : Nat → Nat} {D : va_G} {cl : List vw_C} {nL : Nat} {p : Program} {l : Launch} {e : Env} {R : Room} {s : State} {m : MethodId} {args : Array Value} {below : List Frame} {meth : Method} {c : Code} {Q : State → Prop} {cc : ByteArray} {G : mv_G} {y pc : Nat} {lo : List (Nat × Value)} {st : List Value} {hp : List va_E} {cb sb : Nat} {S : mv_S} {Nm : Nat → MethodName} {Cd : Nat → ByteArray} {Ts : List Cond} {L : List FieldType}
set_option maxHeartbeats 2000000 in
theorem mr_ins (hx : p.tables.exec = Jvm.exec) (hb : c.code = cc) (hn : mv_gL G y = nL) (hts : ∀ w ∈ Ts, w.before args s = true) (hown : s.vm.findClass (Nm y).cls = some m.cls) (hname : meth.name = (Nm y).name) (hK : va_K D cl (mv_tys dA L) s) (hV : mv_okG Nm Cd cl L Ts G) (hL : mv_okL L Ts G) (hE : mv_okE cl L G) (hstr : mv_okT Nm G kt s y) (hi : ∀ i j, i < mv_big → j < mv_big → mv_ad base kt i = mv_ad base kt j → i = j) {i : Instr} {n : Nat} (hdg : decode cc pc = .ok (i, n)) (h : mv_ins G y pc lo st hp cb sb n i = some (.inl S)) (k : mv_K base (mv_ad base kt) dA D cl nL p l e R s m args below meth c Q S) : mv_K base (mv_ad base kt) dA D cl nL p l e R s m args below meth c Q (pc, lo, st, hp, cb, sb) := by
  cases i
  case aaload =>
    obtain ⟨rfl, h⟩ := mv_g_eq h
    exact mr_aald hx hb hK hL.2.2.2.2.2.2.1 hdg h k
  case aastore =>
    obtain ⟨rfl, h⟩ := mv_g_eq h
    exact mr_aast hx hb hK hE hdg h k
  case aconst_null =>
    obtain ⟨rfl, h⟩ := mv_g_eq h
    exact mr_null hx hb hdg h k
  case aload i =>
    obtain ⟨rfl, h⟩ := mv_g_eq h
    exact mr_aload hx hb hdg h k
  case aload_n i =>
    obtain ⟨rfl, h⟩ := mv_g_eq h
    exact mr_aload_n hx hb hdg h k
  case anewarray idx =>
    obtain ⟨rfl, h⟩ := mv_g_eq h
    exact mr_anew hx hb hts hown hK hdg (hV.2.2.2.1 _ _) h k
  case areturn => cases h
  case arraylength =>
    obtain ⟨rfl, h⟩ := mv_g_eq h
    exact mr_alen hx hb hK hL.2.2.2.2.2.2.1 hdg h k
  case astore i =>
    obtain ⟨rfl, h⟩ := mv_g_eq h
    exact mr_astore hx hb hn hdg h k
  case astore_n i =>
    obtain ⟨rfl, h⟩ := mv_g_eq h
    exact mr_astore_n hx hb hn hdg h k
  case athrow => cases h
  case baload =>
    obtain ⟨rfl, h⟩ := mv_g_eq h
    exact mr_bald hx hb hK hL.2.1 hL.2.2.1 hdg h k
  case bastore =>
    obtain ⟨rfl, h⟩ := mv_g_eq h
    exact mr_bast hx hb hK hL.2.1 hL.2.2.1 hdg h k
  case bipush v =>
    obtain ⟨rfl, h⟩ := mv_g_eq h
    exact mr_bipush hx hb hdg h k
  case caload => cases h
  case castore => cases h
  case checkcast => cases h
  case d2f => cases h
  case d2i => cases h
  case d2l => cases h
  case dadd => cases h
  case daload => cases h
  case dastore => cases h
  case dcmp => cases h
  case dconst => cases h
  case ddiv => cases h
  case dload => cases h
  case dload_n => cases h
  case dmul => cases h
  case dneg => cases h
  case drem => cases h
  case dreturn => cases h
  case dstore => cases h
  case dstore_n => cases h
  case dsub => cases h
  case dup =>
    obtain ⟨rfl, h⟩ := mv_g_eq h
    exact mr_dup hx hb hdg h k
  case dup_x1 =>
    obtain ⟨rfl, h⟩ := mv_g_eq h
    exact mr_dup_x1 hx hb hdg h k
  case dup_x2 => cases h
  case dup2 =>
    obtain ⟨rfl, h⟩ := mv_g_eq h
    exact mr_dup2 hx hb hdg h k
  case dup2_x1 => cases h
  case dup2_x2 => cases h
  case f2d => cases h
  case f2i => cases h
  case f2l => cases h
  case fadd => cases h
  case faload => cases h
  case fastore => cases h
  case fcmp => cases h
  case fconst => cases h
  case fdiv => cases h
  case fload => cases h
  case fload_n => cases h
  case fmul => cases h
  case fneg => cases h
  case frem => cases h
  case freturn => cases h
  case fstore => cases h
  case fstore_n => cases h
  case fsub => cases h
  case getfield idx =>
    obtain ⟨rfl, h⟩ := mv_g_eq h
    exact mr_get hx hb hts hown hK hdg (fun ci k0 hf => (hV.2.1 _ _ _ _ hf).1) h k
  case getstatic => cases h
  case goto off =>
    obtain ⟨rfl, h⟩ := mv_g_eq h
    exact mr_goto hx hb hdg h k
  case goto_w => cases h
  case i2b =>
    obtain ⟨rfl, h⟩ := mv_g_eq h
    exact mr_i2b hx hb hdg h k
  case i2c =>
    obtain ⟨rfl, h⟩ := mv_g_eq h
    exact mr_i2c hx hb hdg h k
  case i2d => cases h
  case i2f => cases h
  case i2l => cases h
  case i2s => cases h
  case iadd =>
    obtain ⟨rfl, h⟩ := mv_g_eq h
    exact mr_iadd hx hb hdg h k
  case iaload =>
    obtain ⟨rfl, h⟩ := mv_g_eq h
    exact mr_iald hx hb hK hL.1 hdg h k
  case iand =>
    obtain ⟨rfl, h⟩ := mv_g_eq h
    exact mr_iand hx hb hdg h k
  case iastore =>
    obtain ⟨rfl, h⟩ := mv_g_eq h
    exact mr_iast hx hb hK hL.1 hdg h k
  case iconst v =>
    obtain ⟨rfl, h⟩ := mv_g_eq h
    exact mr_iconst hx hb hdg h k
  case idiv =>
    obtain ⟨rfl, h⟩ := mv_g_eq h
    exact mr_idiv hx hb hdg h k
  case if_acmp c0 off =>
    obtain ⟨rfl, h⟩ := mv_g_eq h
    cases c0
    case eq => exact mr_acmp_eq hx hb hi hdg h k
    case ne => exact mr_acmp_ne hx hb hi hdg h k
  case if_icmp c0 off =>
    obtain ⟨rfl, h⟩ := mv_g_eq h
    cases c0
    case eq => exact mr_icmp_eq hx hb hdg h k
    case ne => exact mr_icmp_ne hx hb hdg h k
    case lt => exact mr_icmp_lt hx hb hdg h k
    case ge => exact mr_icmp_ge hx hb hdg h k
    case gt => exact mr_icmp_gt hx hb hdg h k
    case le => exact mr_icmp_le hx hb hdg h k
  case ifCond c0 off =>
    obtain ⟨rfl, h⟩ := mv_g_eq h
    cases c0
    case eq => exact mr_if_eq hx hb hdg h k
    case ne => exact mr_if_ne hx hb hdg h k
    case lt => exact mr_if_lt hx hb hdg h k
    case ge => exact mr_if_ge hx hb hdg h k
    case gt => exact mr_if_gt hx hb hdg h k
    case le => exact mr_if_le hx hb hdg h k
  case ifnonnull off =>
    obtain ⟨rfl, h⟩ := mv_g_eq h
    exact mr_ifnonnull hx hb hdg h k
  case ifnull off =>
    obtain ⟨rfl, h⟩ := mv_g_eq h
    exact mr_ifnull hx hb hdg h k
  case iinc i v =>
    simp only [mv_ins] at h
    split at h
    · rename_i e
      subst e
      exact mr_inc hx hb hn hdg h k
    · obtain ⟨rfl, h⟩ := mv_g_eq h
      exact mr_incW hx hb hn hdg h k
  case iload i =>
    obtain ⟨rfl, h⟩ := mv_g_eq h
    exact mr_iload hx hb hdg h k
  case iload_n i =>
    obtain ⟨rfl, h⟩ := mv_g_eq h
    exact mr_iload_n hx hb hdg h k
  case imul =>
    obtain ⟨rfl, h⟩ := mv_g_eq h
    exact mr_imul hx hb hdg h k
  case ineg =>
    obtain ⟨rfl, h⟩ := mv_g_eq h
    exact mr_ineg hx hb hdg h k
  case instanceof => cases h
  case invokedynamic => cases h
  case invokeinterface => cases h
  case invokespecial => cases h
  case invokestatic => cases h
  case invokevirtual => cases h
  case ior =>
    obtain ⟨rfl, h⟩ := mv_g_eq h
    exact mr_ior hx hb hdg h k
  case irem =>
    obtain ⟨rfl, h⟩ := mv_g_eq h
    exact mr_irem hx hb hdg h k
  case ireturn => cases h
  case ishl =>
    obtain ⟨rfl, h⟩ := mv_g_eq h
    exact mr_ishl hx hb hdg h k
  case ishr =>
    obtain ⟨rfl, h⟩ := mv_g_eq h
    exact mr_ishr hx hb hdg h k
  case istore i =>
    obtain ⟨rfl, h⟩ := mv_g_eq h
    exact mr_istore hx hb hn hdg h k
  case istore_n i =>
    obtain ⟨rfl, h⟩ := mv_g_eq h
    exact mr_istore_n hx hb hn hdg h k
  case isub =>
    obtain ⟨rfl, h⟩ := mv_g_eq h
    exact mr_isub hx hb hdg h k
  case iushr =>
    obtain ⟨rfl, h⟩ := mv_g_eq h
    exact mr_iushr hx hb hdg h k
  case ixor =>
    obtain ⟨rfl, h⟩ := mv_g_eq h
    exact mr_ixor hx hb hdg h k
  case jsr => cases h
  case jsr_w => cases h
  case l2d => cases h
  case l2f => cases h
  case l2i => cases h
  case ladd => cases h
  case laload => cases h
  case land => cases h
  case lastore => cases h
  case lcmp => cases h
  case lconst => cases h
  case ldc idx =>
    obtain ⟨rfl, h⟩ := mv_g_eq h
    exact mr_ldc hx hb hts hown hdg (hV.2.2.2.2.1 _ _) (hstr _) h k
  case ldc_w idx =>
    obtain ⟨rfl, h⟩ := mv_g_eq h
    exact mr_ldcw hx hb hts hown hdg (hV.2.2.2.2.1 _ _) (hstr _) h k
  case ldc2_w => cases h
  case ldiv => cases h
  case lload => cases h
  case lload_n => cases h
  case lmul => cases h
  case lneg => cases h
  case lookupswitch d ps => exact mr_lsw hx hb hdg h k
  case lor => cases h
  case lrem => cases h
  case lreturn => cases h
  case lshl => cases h
  case lshr => cases h
  case lstore => cases h
  case lstore_n => cases h
  case lsub => cases h
  case lushr => cases h
  case lxor => cases h
  case monitorenter => cases h
  case monitorexit => cases h
  case multianewarray idx d =>
    obtain ⟨rfl, h⟩ := mv_g_eq h
    exact mr_multi hx hb hts hown hK hdg (hV.2.2.2.2.2.1 _ _) h k
  case new idx =>
    obtain ⟨rfl, h⟩ := mv_g_eq h
    exact mr_new hx hb hts hown hK hdg (fun ci hf => (hV.2.2.1 _ _ _ hf).1) (fun ci C T N hf hc => (hV.2.2.1 _ _ _ hf).2 C T N hc) h k
  case newarray at_ =>
    obtain ⟨rfl, h⟩ := mv_g_eq h
    exact mr_newa hx hb hts hK hL.1 hL.2.1 hL.2.2.1 hL.2.2.2.1 hL.2.2.2.2.1 hL.2.2.2.2.2.1 hdg h k
  case nop => cases h
  case pop =>
    obtain ⟨rfl, h⟩ := mv_g_eq h
    exact mr_pop hx hb hdg h k
  case pop2 => cases h
  case putfield idx =>
    obtain ⟨rfl, h⟩ := mv_g_eq h
    exact mr_put hx hb hts hown hK hdg (fun ci k0 hf => (hV.2.1 _ _ _ _ hf).1) (fun ci k0 hf => (hV.2.1 _ _ _ _ hf).2.1) (fun ci k0 hf h1 h2 => mv_okP_of hname ((hV.2.1 _ _ _ _ hf).2.2 h1 h2)) h k
  case putstatic => cases h
  case ret => cases h
  case return_ => cases h
  case saload => cases h
  case sastore => cases h
  case sipush v =>
    obtain ⟨rfl, h⟩ := mv_g_eq h
    exact mr_sipush hx hb hdg h k
  case swap => cases h
  case tableswitch d lw hg offs => exact mr_tsw hx hb hdg h k
end MVX
/-- where the small machine stands in the method y: what is known of the real one's frame -/
def mv_C (Nm : Nat → MethodName) (Cd : Nat → ByteArray) (cl : List vw_C) (L : List FieldType) (Ts Us : List Cond) (G : mv_G) (base : Nat) (kt dA : Nat → Nat) (D : va_G) (y : Nat) (p : Program) (e : Env) (s : State) (m : MethodId) (args : Array Value) (meth : Method) (c : Code) : Prop :=
  p.tables.exec = Jvm.exec ∧ c.code = Cd y ∧ meth.locks = false ∧ meth.sig.returnType = mv_gR G y ∧ c.maxLocals = mv_gL G y ∧ s.vm.findClass (Nm y).cls = some m.cls ∧ (∀ w ∈ Ts, w.before args s = true) ∧ va_K D cl (mv_tys dA L) s ∧ base ≤ s.heap.size ∧ c.exceptionTable.toList.map mv_proj = mv_gH G y ∧ meth.name = (Nm y).name ∧ (∀ z, mv_okT Nm G kt s z) ∧ e.platform.stackTraces = false ∧ (∀ w ∈ Us, mv_kept base w s) ∧ mv_okX G base kt s
theorem mv_weaken {tb : Tables} {e : Env} {g : JFrame} {below : List Frame} {a b : State} (h : Steps tb e (.java g :: below) a b) : Steps tb e below a b := by
  obtain ⟨n, h1, h2⟩ := h
  exact ⟨n, h1, fun k hk => Within.weaken (mid := [.java g]) (h2 k hk)⟩
theorem mv_sl_len (ad : Nat → Nat) : ∀ vs : List Value, (lg_sl (vs.map (mv_v ad))).length = (lg_sl vs).length
  | [] => rfl
  | v :: r => by
    have ih := mv_sl_len ad r
    unfold lg_sl at ih ⊢
    rw [List.map_cons, List.flatMap_cons, List.flatMap_cons, List.length_append, List.length_append, ih, mv_v_cat]
    split <;> rfl
theorem mv_args_l (ad : Nat → Nat) : ∀ (vs : List Value) (i : Nat), mv_l ad (lv_args i vs) = lv_args i (vs.map (mv_v ad))
  | [], _ => rfl
  | v :: r, i => by
    rw [List.map_cons, lv_args, lv_args, mv_v_cat]
    show (i, mv_v ad v) :: mv_l ad _ = _
    rw [mv_args_l ad r]
theorem mv_cats (ad : Nat → Nat) (r : List Value) : ((r.map (mv_v ad)).map fun v => v.category) = r.map fun v => v.category := by
  rw [List.map_map]
  apply List.map_congr_left
  intro v _
  exact mv_v_cat ad v
section MVY
variable {base : Nat} {kt dA : Nat → Nat} {D : va_G} {cl : List vw_C} {G : mv_G} {Nm : Nat → MethodName} {Cd : Nat → ByteArray} {Ts Us : List Cond} {L : List FieldType}
/-- what kind of thing an instruction comes to -/
theorem mv_no_callS {y idx : Nat} {st : List Value} {x : mv_R} (h : mv_callS G y st idx = some x) : ∃ q, x = .inr (.inl q) := by
  unfold mv_callS at h
  split at h
  · split at h
    · cases h
      exact ⟨_, rfl⟩
    · cases h
  · cases h
theorem mv_no_callV {y idx : Nat} {st : List Value} {hp : List va_E} {x : mv_R} (h : mv_callV G y st hp idx = some x) : ∃ q, x = .inr (.inl q) := by
  unfold mv_callV at h
  split at h
  · split at h
    · split at h
      · split at h
        · cases h
          exact ⟨_, rfl⟩
        · cases h
      · cases h
    · cases h
  · cases h
theorem mv_no_callI {y idx : Nat} {st : List Value} {x : mv_R} (h : mv_callI G y st idx = some x) : ∃ q, x = .inr (.inl q) := by
  unfold mv_callI at h
  split at h
  · split at h
    · split at h
      · cases h
        exact ⟨_, rfl⟩
      · cases h
    · cases h
  · cases h
theorem mv_no_iret {y : Nat} {st : List Value} {x : mv_R} (h : mv_iret G y st = some x) : ∃ q, x = .inr (.inr (.inl q)) := by
  unfold mv_iret at h
  split at h
  · split at h
    · split at h
      · cases h
        exact ⟨_, rfl⟩
      · cases h
    · cases h
  · cases h
theorem mv_no_aret {y : Nat} {st : List Value} {x : mv_R} (h : mv_aret G y st = some x) : ∃ q, x = .inr (.inr (.inl q)) := by
  unfold mv_aret at h
  split at h
  · split at h
    · split at h
      · cases h
        exact ⟨_, rfl⟩
      · cases h
    · cases h
  · cases h
theorem mv_no_vret {y : Nat} {st : List Value} {x : mv_R} (h : mv_vret G y st = some x) : ∃ q, x = .inr (.inr (.inl q)) := by
  unfold mv_vret at h
  split at h
  · split at h
    · cases h
      exact ⟨_, rfl⟩
    · cases h
  · cases h
theorem mv_no_throw {st : List Value} {x : mv_R} (h : mv_throw st = some x) : ∃ q, x = .inr (.inr (.inr q)) := by
  unfold mv_throw at h
  split at h
  · cases h
    exact ⟨_, rfl⟩
  · cases h
theorem mv_exec_go {y : Nat} {S S' : mv_S} (h : mv_exec G y S = some (.inl S')) : ∃ i n, mv_gI G y S.1 = some (i, n) ∧ mv_ins G y S.1 S.2.1 S.2.2.1 S.2.2.2.1 S.2.2.2.2.1 S.2.2.2.2.2 n i = some (.inl S') := by
  obtain ⟨pc, lo, st, hp, cb, sb⟩ := S
  unfold mv_exec at h
  split at h
  · cases h
  · rename_i i n hI
    refine ⟨i, n, hI, ?_⟩
    split at h
    case h_8 =>
      obtain ⟨S2, e2, h3⟩ := mv_og_eq h
      cases e2
      exact h3
    all_goals
      obtain ⟨-, h3⟩ := mv_g_eq h
      first
      | (obtain ⟨q9, h4⟩ := mv_no_callS h3; cases h4; done)
      | (obtain ⟨q9, h4⟩ := mv_no_callV h3; cases h4; done)
      | (obtain ⟨q9, h4⟩ := mv_no_callI h3; cases h4; done)
      | (obtain ⟨q9, h4⟩ := mv_no_iret h3; cases h4; done)
      | (obtain ⟨q9, h4⟩ := mv_no_aret h3; cases h4; done)
      | (obtain ⟨q9, h4⟩ := mv_no_vret h3; cases h4; done)
      | (obtain ⟨q9, h4⟩ := mv_no_throw h3; cases h4; done)
theorem mv_exec_ret {y : Nat} {S : mv_S} {v : Option Value} (h : mv_exec G y S = some (.inr (.inr (.inl v)))) : (mv_gI G y S.1 = some (.ireturn, 1) ∧ mv_iret G y S.2.2.1 = some (.inr (.inr (.inl v)))) ∨ (mv_gI G y S.1 = some (.areturn, 1) ∧ mv_aret G y S.2.2.1 = some (.inr (.inr (.inl v)))) ∨ (mv_gI G y S.1 = some (.return_, 1) ∧ mv_vret G y S.2.2.1 = some (.inr (.inr (.inl v)))) := by
  obtain ⟨pc, lo, st, hp, cb, sb⟩ := S
  unfold mv_exec at h
  split at h
  · cases h
  · rename_i i n hI
    split at h
    case h_4 =>
      obtain ⟨rfl, h3⟩ := mv_g_eq h
      exact Or.inl ⟨hI, h3⟩
    case h_5 =>
      obtain ⟨rfl, h3⟩ := mv_g_eq h
      exact Or.inr (Or.inl ⟨hI, h3⟩)
    case h_6 =>
      obtain ⟨rfl, h3⟩ := mv_g_eq h
      exact Or.inr (Or.inr ⟨hI, h3⟩)
    case h_8 =>
      obtain ⟨S2, e2, h3⟩ := mv_og_eq h
      cases e2
    all_goals
      obtain ⟨-, h3⟩ := mv_g_eq h
      first
      | (obtain ⟨q9, h4⟩ := mv_no_callS h3; cases h4; done)
      | (obtain ⟨q9, h4⟩ := mv_no_callV h3; cases h4; done)
      | (obtain ⟨q9, h4⟩ := mv_no_callI h3; cases h4; done)
      | (obtain ⟨q9, h4⟩ := mv_no_throw h3; cases h4; done)
theorem mv_exec_throw {y : Nat} {S : mv_S} {a : Nat} (h : mv_exec G y S = some (.inr (.inr (.inr a)))) : mv_gI G y S.1 = some (.athrow, 1) ∧ mv_throw S.2.2.1 = some (.inr (.inr (.inr a))) := by
  obtain ⟨pc, lo, st, hp, cb, sb⟩ := S
  unfold mv_exec at h
  split at h
  · cases h
  · rename_i i n hI
    split at h
    case h_7 =>
      obtain ⟨rfl, h3⟩ := mv_g_eq h
      exact ⟨hI, h3⟩
    case h_8 =>
      obtain ⟨S2, e2, h3⟩ := mv_og_eq h
      cases e2
    all_goals
      obtain ⟨-, h3⟩ := mv_g_eq h
      first
      | (obtain ⟨q9, h4⟩ := mv_no_callS h3; cases h4; done)
      | (obtain ⟨q9, h4⟩ := mv_no_callV h3; cases h4; done)
      | (obtain ⟨q9, h4⟩ := mv_no_callI h3; cases h4; done)
      | (obtain ⟨q9, h4⟩ := mv_no_iret h3; cases h4; done)
      | (obtain ⟨q9, h4⟩ := mv_no_aret h3; cases h4; done)
      | (obtain ⟨q9, h4⟩ := mv_no_vret h3; cases h4; done)
/-- a call: the method's code, and that the real machine comes to its invocation -/
theorem mv_exec_call {y : Nat} {S : mv_S} {z len : Nat} {as r : List Value} (h : mv_exec G y S = some (.inr (.inl (z, as, r, len)))) (hV : mv_okG Nm Cd cl L Ts G) : len = 3 ∧ mv_okM Nm Cd Ts G z ∧ ∃ i, mv_gI G y S.1 = some (i, 3) ∧ ∀ {p : Program} {l : Launch} {e : Env} {R : Room} {s : State} {m : MethodId} {args : Array Value} {below : List Frame} {meth : Method} {c : Code} {T : State} {locs : List Loc} {cells slots : Nat} {ls : Array Slot} {nL : Nat}, Stand p l e R s m args below meth c T locs cells slots → mv_C Nm Cd cl L Ts Us G base kt dA D y p e s m args meth c → mv_inv base (mv_ad base kt) dA D cl nL R s S T.heap ls locs cells slots → mv_Arr p l e R s m args below meth c T locs cells slots (Nm z) S.1 ls (S.2.2.1.map (mv_v (mv_ad base kt))) (as.map (mv_v (mv_ad base kt))) (r.map (mv_v (mv_ad base kt))) := by
  obtain ⟨pc, lo, st, hp, cb, sb⟩ := S
  unfold mv_exec at h
  split at h
  · cases h
  · rename_i i n hI
    have hdg := hV.1 _ _ _ _ hI
    split at h
    case h_1 idx =>
      obtain ⟨rfl, h3⟩ := mv_g_eq h
      unfold mv_callS at h3
      split at h3
      · rename_i kd z0 na hgc
        split at h3
        · rename_i hc
          cases h3
          obtain ⟨o1, o2⟩ := (hV.2.2.2.2.2.2.1 _ _ _ _ _ hgc).1 hc.1
          refine ⟨rfl, o1, _, hI, fun {p l e R s m args below meth c T locs cells slots ls nL} X C I => ?_⟩
          obtain ⟨hx, hb, -, -, -, hown, hts, -⟩ := C
          exact mv_arrS X hx hb hown hts o1 o2 hc.2 hdg
        · cases h3
      · cases h3
    case h_2 idx =>
      obtain ⟨rfl, h3⟩ := mv_g_eq h
      unfold mv_callV at h3
      split at h3
      · rename_i kd z0 na hgc
        split at h3
        · rename_i a r0 hst
          split at h3
          · rename_i ci fs ho
            split at h3
            · rename_i hc
              cases h3
              obtain ⟨o1, o2⟩ := (hV.2.2.2.2.2.2.1 _ _ _ _ _ hgc).2.1 hc.1
              refine ⟨rfl, o1, _, hI, fun {p l e R s m args below meth c T locs cells slots ls nL} X C I => ?_⟩
              obtain ⟨hx, hb, -, -, -, hown, hts, hK, -⟩ := C
              obtain ⟨hat, -, -⟩ := mv_inv_at I ho
              rw [hc.2] at hat
              exact mv_arrV X hx hb hown hts o1 o2 hK hst hat hdg
            · cases h3
          · cases h3
        · cases h3
      · cases h3
    case h_3 idx =>
      obtain ⟨rfl, h3⟩ := mv_g_eq h
      unfold mv_callI at h3
      split at h3
      · rename_i kd z0 na hgc
        split at h3
        · rename_i a r0 hst
          split at h3
          · rename_i hc
            cases h3
            obtain ⟨o1, o2⟩ := (hV.2.2.2.2.2.2.1 _ _ _ _ _ hgc).2.2 hc
            refine ⟨rfl, o1, _, hI, fun {p l e R s m args below meth c T locs cells slots ls nL} X C I => ?_⟩
            obtain ⟨hx, hb, -, -, -, hown, hts, -⟩ := C
            exact mv_arrI X hx hb hown hts o1 o2 hst hdg
          · cases h3
        · cases h3
      · cases h3
    case h_8 =>
      obtain ⟨S2, e2, h3⟩ := mv_og_eq h
      cases e2
    all_goals
      obtain ⟨-, h3⟩ := mv_g_eq h
      first
      | (obtain ⟨q9, h4⟩ := mv_no_iret h3; cases h4; done)
      | (obtain ⟨q9, h4⟩ := mv_no_aret h3; cases h4; done)
      | (obtain ⟨q9, h4⟩ := mv_no_vret h3; cases h4; done)
      | (obtain ⟨q9, h4⟩ := mv_no_throw h3; cases h4; done)
/-- a word that stays true while the tables are warmed -/
def mv_stay (w : Jvm.Cond) : Prop := ∀ (args a' : Array Value) (s U : State), s.WarmedH U.vm → w.before args s = true → w.before a' U = true
/-- THE MACHINE: where the small machine comes to an end, the real one does, and its end is that one -/
theorem mv_sound (hV : mv_okG Nm Cd cl L Ts G) (hN : mv_okN8 Nm cl Ts Us G) (hL : mv_okL L Ts G) (hE : mv_okE cl L G) (hgood : ∀ w ∈ Ts, mv_stay w) (hi : ∀ i j, i < mv_big → j < mv_big → mv_ad base kt i = mv_ad base kt j → i = j) :
    ∀ (n y fb lb : Nat) (S : mv_S) (E : mv_E), mv_run G n y fb lb S = some E → ∀ (p : Program) (l : Launch) (e : Env) (R : Room) (s : State) (m : MethodId) (args : Array Value) (below : List Frame) (meth : Method) (c : Code), mv_C Nm Cd cl L Ts Us G base kt dA D y p e s m args meth c → fb ≤ R.frames → lb ≤ R.locals → mv_K base (mv_ad base kt) dA D cl (mv_gL G y) p l e R s m args below meth c (mv_Z base (mv_ad base kt) dA D cl R s below E) S
  | 0, _, _, _, _, _, h => by cases h
  | n + 1, y, fb, lb, S, E, h => by
    intro p l e R s m args below meth c C hfb hlb
    obtain ⟨hx, hb, hlocks, hret, hml, hown, hts, hK, hbase, hhand, hname, hstr, htr, hus, hX⟩ := id C
    have take : ∀ (a pc : Nat) (lo : List (Nat × Value)) (st : List Value) (hp : List va_E) (cb sb : Nat), mv_take G y (mv_run G n y fb lb) a (pc, lo, st, hp, cb, sb) = some E → mv_KT base (mv_ad base kt) dA D cl (mv_gL G y) p l e R s m args below meth c (mv_Z base (mv_ad base kt) dA D cl R s below E) (pc, lo, st, hp, cb, sb) a := by
      intro a pc lo st hp cb sb ht
      unfold mv_take at ht
      split at ht
      · rename_i hf
        cases ht
        exact mr_out hlocks hbase (mv_hand_none _ (by rw [hhand]; exact hf)) a
      · rename_i h9 ct hf
        split at ht
        · rename_i ci fs ho
          split at ht
          · rename_i hci
            subst hci
            obtain ⟨hct, CC, T0, N0, hC, hlk⟩ := hV.2.2.2.2.2.2.2 _ _ _ _ hf
            exact mr_catch hts hown hK hhand hf ho hC hct hlk (mv_sound hV hN hL hE hgood hi n y fb lb _ _ ht p l e R s m args below meth c C hfb hlb)
          · cases ht
        · cases ht
    obtain ⟨pc, lo, st, hp, cb, sb⟩ := S
    unfold mv_run at h
    split at h
    · rename_i S' hnat
      exact mr_nat hV hN hL hx htr hb hml hts hus hown hK (hstr y) hX hfb hlb hnat (mv_sound hV hN hL hE hgood hi n y fb lb S' E h p l e R s m args below meth c C hfb hlb)
    split at h
    · cases h
    · rename_i S' hex
      have k := mv_sound hV hN hL hE hgood hi n y fb lb S' E h p l e R s m args below meth c C hfb hlb
      obtain ⟨i, len, hI, h3⟩ := mv_exec_go hex
      exact mr_ins hx hb rfl hts hown hname hK hV hL hE (hstr y) hi (hV.1 _ _ _ _ hI) h3 k
    · rename_i z as r len hex
      split at h
      · rename_i hroom
        obtain ⟨hr1, hr2, hr3⟩ := hroom
        obtain ⟨rfl, hMz, ig, hI, harr⟩ := mv_exec_call (base := base) (kt := kt) (dA := dA) (D := D) hex hV
        have hdg := hV.1 _ _ _ _ hI
        intro H ls locs cells slots I T hT X
        subst hT
        obtain ⟨mk, vm₁, X₁, hnm, arr⟩ := harr X C I
        obtain ⟨i1, i2, i3, i4, i5, i6, i7⟩ := I
        dsimp only at i1 i2 i3 i4 i5 i6 i7 arr hdg h
        obtain ⟨mk', methk, ck, hn1, hm1, hc1, hcd, hcl, hcr, hck, hch, -⟩ := mv_meth hMz hts
        cases hnm.symm.trans hn1
        have hal : s.vm.Alike (T.setVm vm₁).vm := X₁.warmed.alike
        have hm2 : (T.setVm vm₁).vm.method? mk = some methk := by rw [hal.method?]; exact hm1
        have hnU : (T.setVm vm₁).methodNamed? (Nm z) = some mk := X₁.named hnm
        have hpk : (T.setVm vm₁).plainMethod mk := State.plainMethod.of_named hMz.2.1 hnU hm2
        obtain ⟨R', hR'⟩ : ∃ R' : Room, R' = { frames := fb - 1, cells := cb, slots := sb, locals := lb - ((r.map fun v => v.category).sum + (mv_gL G z + 11)) } := ⟨_, rfl⟩
        have hsz : ls.size = c.maxLocals := i1.1.trans hml.symm
        obtain ⟨g, hg⟩ : ∃ g : JFrame, g = F0 m pc ls (r.map (mv_v (mv_ad base kt))) := ⟨_, rfl⟩
        obtain ⟨av, hav⟩ : ∃ av : Array Value, av = (as.map (mv_v (mv_ad base kt))).toArray := ⟨_, rfl⟩
        obtain ⟨Xin, hdo⟩ := X₁.into (g := g) (by rw [hg]) (by rw [hg]; exact hsz) (by rw [hg, hb]; exact hdg) (mk := mk) av (R' := R') hm2 hc1 hck hpk (by rw [hR']; show fb - 1 + 1 ≤ R.frames; omega) (by rw [hR', hg]; show 2 * 0 + ((r.map (mv_v (mv_ad base kt))).map fun v => v.category).sum + (ck.maxLocals + 11) + (lb - _) ≤ R.locals; rw [mv_cats, hcl]; omega) (by rw [hR']; exact i5) (by rw [hR']; exact i6)
        obtain ⟨s', hs'⟩ : ∃ s' : State, s' = (T.setVm vm₁).calling g mk av := ⟨_, rfl⟩
        have hvm' : s'.vm = (T.setVm vm₁).vm := by rw [hs']; rfl
        have hheap' : s'.heap = T.heap := by rw [hs']; rfl
        have hW' : s.WarmedH s'.vm := by rw [hvm']; exact X₁.warmed
        have hn' : s'.methodNamed? (Nm z) = some mk := by rw [hs']; exact hnU
        have hm' : s'.vm.method? mk = some methk := by rw [hvm']; exact hm2
        have C1 : mv_C Nm Cd cl L Ts Us G base kt dA D z p e s' mk av methk ck := ⟨hx, hcd, hck, hcr, hcl, findClass_of_methodNamed hn', fun w hw => hgood w hw _ _ _ _ hW' (hts w hw), va_K.moved hW'.alike hK, by rw [hheap', i3]; omega, hch, (name_of_methodNamed hn' hm').1, fun z0 idx a ha => by
          obtain ⟨h1, tx, h2⟩ := hstr z0 idx a ha
          exact ⟨h1, tx, vk_R.warm hW' h2⟩, htr, fun w hw => (hus w hw).moved hW' fun q hq => by rw [hheap']; exact i4.2.1 q (by omega) (by show ¬ base ≤ q; omega), by rw [hheap', i3]; omega, (fun a n f hs => by
            obtain ⟨x1, x2, x3⟩ := hX.2.1 a n f hs
            exact ⟨x1, x2, (x3.moved hW'.alike).kept (by rw [hheap']; exact i4.2.1 _ (by omega) (by show ¬ base ≤ _; omega))⟩), fun a tx hs => by
            obtain ⟨x1, x2, v, x3⟩ := hX.2.2 a tx hs
            exact ⟨x1, x2, v, st_S.kept (st_S.moved hW'.alike x3) fun q h8 h9 => by rw [hheap']; exact i4.2.1 q h8 h9⟩⟩
        split at h
        · cases h
        · rename_i v hp' cb' sb' hrun
          have k1 := mv_sound hV hN hL hE hgood hi n z (fb - 1) (lb - ((r.map fun v => v.category).sum + (mv_gL G z + 11))) _ _ hrun p l e R' s' mk av (.java g :: below) methk ck C1 (by rw [hR']; exact Nat.le_refl _) (by rw [hR']; exact Nat.le_refl _)
          have k2 := mv_sound hV hN hL hE hgood hi n y fb lb _ _ h p l e R s m args below meth c C hfb hlb
          rw [← hs'] at Xin
          obtain ⟨TT, hTT⟩ : ∃ TT : State, TT = ((T.setVm vm₁).setTop g).pushFrame (.java (entryFrame mk av ck.maxLocals)) := ⟨_, rfl⟩
          have hdo2 := hdo []
          rw [← hTT] at Xin hdo2
          have hTh : TT.heap = T.heap := by rw [hTT]; rfl
          have hgoL : (lg_sl (as.map (mv_v (mv_ad base kt)))).length ≤ mv_gL G z := by rw [mv_sl_len]; exact hr3
          have hent : entryFrame mk av ck.maxLocals = F0 mk 0 ((lg_sl (as.map (mv_v (mv_ad base kt))) ++ List.replicate (mv_gL G z - (lg_sl (as.map (mv_v (mv_ad base kt)))).length) Slot.unset).toArray) [] := by rw [hav, hcl]; exact lg_entry_eq mk _ _
          have Iin : mv_inv base (mv_ad base kt) dA D cl (mv_gL G z) R' s' (0, lv_args 0 as, [], hp, cb, sb) T.heap ((lg_sl (as.map (mv_v (mv_ad base kt))) ++ List.replicate (mv_gL G z - (lg_sl (as.map (mv_v (mv_ad base kt)))).length) Slot.unset).toArray) [] 0 0 := by
            refine ⟨?_, i2, i3, ?_, ?_, ?_, i7⟩
            · show lv_has _ _ (mv_l (mv_ad base kt) (lv_args 0 as))
              rw [mv_args_l]
              exact lv_entry _ hgoL
            · rw [hheap']
              exact va_S.rf
            · rw [hR']
              show 0 + cb ≤ cb
              omega
            · rw [hR']
              show 0 + sb ≤ sb
              omega
          obtain ⟨t, hst, o, hrn, hend, ho, hP1, hz1, hold, hW1, ⟨L1, kk, nn, hk1, hn1, hsame, hL1⟩, hbig⟩ := k1 T.heap _ [] 0 0 Iin TT hTh Xin
          have hk1' : kk + cb' ≤ cb := by rw [hR'] at hk1; exact hk1
          have hn1' : nn + sb' ≤ sb := by rw [hR'] at hn1; exact hn1
          subst ho
          rw [hs'] at hW1 hsame
          obtain ⟨T2, X2, -, -, ht⟩ := X₁.outOf (g := g) (by rw [hg]) (by rw [hg, hb]; exact hdg) hend hW1 hsame
          have hh : T2.heap = t.heap := by rw [ht]; rfl
          have I2 : mv_inv base (mv_ad base kt) dA D cl (mv_gL G y) R s (pc + 3, lo, v.toList ++ r, hp', cb', sb') t.heap ls (locs ++ L1) (cells + kk) (slots + nn) := by
            refine ⟨i1, hP1, hz1, ⟨?_, ?_, ?_⟩, ?_, ?_, hbig⟩
            · have h9 := X2.same.2.1
              show s.heap.size ≤ t.heap.size
              rw [← hh]
              exact h9
            · intro q h8 h9
              have e1 := hold q (by omega)
              rw [hheap'] at e1
              rw [e1]
              exact i4.2.1 q h8 h9
            · intro q hq
              rcases List.mem_append.mp hq with hq | hq
              · exact i4.2.2 q hq
              · exact hL1 q hq
            · show cells + kk + cb' ≤ R.cells
              omega
            · show slots + nn + sb' ≤ R.slots
              omega
          obtain ⟨t2, h2, q2⟩ := k2 t.heap ls (locs ++ L1) (cells + kk) (slots + nn) I2 T2 hh X2
          refine ⟨t2, arr t2 ?_, q2⟩
          rw [hent] at hdo2
          rw [← hg, ← hav, hdo2]
          refine Steps.trans (mv_weaken hst) ?_
          rw [ht]
          have hfr : ({ g with pc := g.pc + 3, stack := (v.map (mv_v (mv_ad base kt))).toList ++ g.stack } : JFrame) = F0 m (pc + 3) ls ((v.toList ++ r).map (mv_v (mv_ad base kt))) := by
            rw [hg]
            cases v <;> rfl
          rw [hfr]
          exact h2
        · rename_i a hp' cb' sb' hrun
          have k1 := mv_sound hV hN hL hE hgood hi n z (fb - 1) (lb - ((r.map fun v => v.category).sum + (mv_gL G z + 11))) _ _ hrun p l e R' s' mk av (.java g :: below) methk ck C1 (by rw [hR']; exact Nat.le_refl _) (by rw [hR']; exact Nat.le_refl _)
          have k2 := take _ _ _ _ _ _ _ h
          rw [← hs'] at Xin
          obtain ⟨TT, hTT⟩ : ∃ TT : State, TT = ((T.setVm vm₁).setTop g).pushFrame (.java (entryFrame mk av ck.maxLocals)) := ⟨_, rfl⟩
          have hdo2 := hdo []
          rw [← hTT] at Xin hdo2
          have hTh : TT.heap = T.heap := by rw [hTT]; rfl
          have hgoL : (lg_sl (as.map (mv_v (mv_ad base kt)))).length ≤ mv_gL G z := by rw [mv_sl_len]; exact hr3
          have hent : entryFrame mk av ck.maxLocals = F0 mk 0 ((lg_sl (as.map (mv_v (mv_ad base kt))) ++ List.replicate (mv_gL G z - (lg_sl (as.map (mv_v (mv_ad base kt)))).length) Slot.unset).toArray) [] := by rw [hav, hcl]; exact lg_entry_eq mk _ _
          have Iin : mv_inv base (mv_ad base kt) dA D cl (mv_gL G z) R' s' (0, lv_args 0 as, [], hp, cb, sb) T.heap ((lg_sl (as.map (mv_v (mv_ad base kt))) ++ List.replicate (mv_gL G z - (lg_sl (as.map (mv_v (mv_ad base kt)))).length) Slot.unset).toArray) [] 0 0 := by
            refine ⟨?_, i2, i3, ?_, ?_, ?_, i7⟩
            · show lv_has _ _ (mv_l (mv_ad base kt) (lv_args 0 as))
              rw [mv_args_l]
              exact lv_entry _ hgoL
            · rw [hheap']
              exact va_S.rf
            · rw [hR']
              show 0 + cb ≤ cb
              omega
            · rw [hR']
              show 0 + sb ≤ sb
              omega
          obtain ⟨t, hst, o, hrn, hend, ho, hP1, hz1, hold, hW1, ⟨L1, kk, nn, hk1, hn1, hsame, hL1⟩, hbig⟩ := k1 T.heap _ [] 0 0 Iin TT hTh Xin
          have hk1' : kk + cb' ≤ cb := by rw [hR'] at hk1; exact hk1
          have hn1' : nn + sb' ≤ sb := by rw [hR'] at hn1; exact hn1
          subst ho
          rw [hs'] at hW1 hsame
          obtain ⟨T2, X2, -, -, ht⟩ := X₁.outOfThrown (g := g) (by rw [hg]) hend hW1 hsame
          have hh : T2.heap = t.heap := by rw [ht]; rfl
          have I2 : mv_inv base (mv_ad base kt) dA D cl (mv_gL G y) R s (pc, lo, [], hp', cb', sb') t.heap ls (locs ++ L1) (cells + kk) (slots + nn) := by
            refine ⟨i1, hP1, hz1, ⟨?_, ?_, ?_⟩, ?_, ?_, hbig⟩
            · have h9 := X2.same.2.1
              show s.heap.size ≤ t.heap.size
              rw [← hh]
              exact h9
            · intro q h8 h9
              have e1 := hold q (by omega)
              rw [hheap'] at e1
              rw [e1]
              exact i4.2.1 q h8 h9
            · intro q hq
              rcases List.mem_append.mp hq with hq | hq
              · exact i4.2.2 q hq
              · exact hL1 q hq
            · show cells + kk + cb' ≤ R.cells
              omega
            · show slots + nn + sb' ≤ R.slots
              omega
          obtain ⟨t2, h2, q2⟩ := k2 t.heap ls (locs ++ L1) (cells + kk) (slots + nn) (r.map (mv_v (mv_ad base kt))) I2 T2 hh X2
          refine ⟨t2, arr t2 ?_, q2⟩
          rw [hent] at hdo2
          rw [← hg, ← hav, hdo2]
          refine Steps.trans (mv_weaken hst) ?_
          rw [ht, hg]
          exact h2
      · cases h
    · rename_i v hex
      cases h
      rcases mv_exec_ret hex with ⟨hI, h3⟩ | ⟨hI, h3⟩ | ⟨hI, h3⟩
      · exact mr_iret hx hb hlocks hret hbase (hV.1 _ _ _ _ hI) h3
      · exact mr_aret hx hb hlocks hret hbase (hV.1 _ _ _ _ hI) h3
      · exact mr_vret hx hb hlocks hret hbase (hV.1 _ _ _ _ hI) h3
    · rename_i a hex
      obtain ⟨hI, h3⟩ := mv_exec_throw hex
      exact mr_throw hx hb (hV.1 _ _ _ _ hI) h3 (take a pc lo st hp cb sb h)
end MVY
