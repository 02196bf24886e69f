/-! the law's start: what the tables' words give of the first state -/
theorem mt_str {own tx : String} {k : Nat} {A : Array Value} {s : State} (h : (Cond.stringRef own k tx).before A s = true) : ∃ a, vk_R own k tx a s := by
  have h1 := h
  simp only [Cond.before, Cond.holds, Cond.value, beq_iff_eq] at h1
  rw [Option.map_eq_some_iff] at h1
  obtain ⟨c0, -, h1⟩ := h1
  rw [Bool.and_eq_true] at h1
  obtain ⟨-, h1⟩ := h1
  cases hr : s.resolvedAt? own k with
  | none => rw [hr] at h1; cases h1
  | some r =>
    rw [hr] at h1
    cases r with
    | string a =>
      refine ⟨a, vk_R.of (A := A) h ?_⟩
      simp only [Term.eval]
      simp only [State.resolvedAt?] at hr
      cases hc : s.vm.findClass own with
      | none => rw [hc] at hr; cases hr
      | some c =>
        rw [hc] at hr
        cases hk : s.vm.classes[c]? with
        | none => simp [hk] at hr
        | some kk =>
          simp [hk] at hr ⊢
          rw [hr]
          rfl
    | _ => cases h1
theorem mt_kept_ls {o n d : String} {A : Array Value} {s : State} (h : (Cond.laysStatic o n d).before A s = true) : mv_kept s.heap.size (.laysStatic o n d) s := by
  intro args' s' hW hh
  have h1 : (Cond.laysStatic o n d).before A (s.setVm s'.vm) = true := Cond.before_shiftedFace (State.Shifted.of_warmed hW) _ rfl h
  have e1 : (s.setVm s'.vm).fieldFound? o n d = s'.fieldFound? o n d := rfl
  simp only [Cond.before, Cond.holds, Cond.value, beq_iff_eq, State.vm_setVm, e1] at h1 ⊢
  cases hc : s'.vm.findClass o with
  | none => rw [hc] at h1; cases h1
  | some c =>
    cases hf : s'.fieldFound? o n d with
    | none => rw [hc, hf] at h1; cases h1
    | some q =>
      obtain ⟨c', k, i, f⟩ := q
      rw [hc, hf] at h1
      dsimp only at h1 ⊢
      rw [Option.map_eq_some_iff] at h1
      obtain ⟨cell, h2, h3⟩ := h1
      rw [Option.bind_eq_some_iff] at h2
      obtain ⟨a, h4, h5⟩ := h2
      have h5 : s.heap[a]? = some cell := h5
      rw [Option.map_eq_some_iff]
      refine ⟨cell, ?_, h3⟩
      rw [Option.bind_eq_some_iff]
      exact ⟨a, h4, by rw [hh a (Array.getElem?_eq_some_iff.mp h5).1]; exact h5⟩
theorem mt_kept_ir {o n d : String} {A : Array Value} {s : State} (h : (Cond.isRef (.static o n d)).before A s = true) : mv_kept s.heap.size (.isRef (.static o n d)) s := by
  intro args' s' hW hh
  have h1 : (Cond.isRef (.static o n d)).before A (s.setVm s'.vm) = true := Cond.before_shiftedFace (State.Shifted.of_warmed hW) _ rfl h
  have e1 : (s.setVm s'.vm).fieldNamed? o n d true = s'.fieldNamed? o n d true := rfl
  simp only [Cond.before, Cond.holds, Cond.value, beq_iff_eq, Term.eval, e1] at h1 ⊢
  cases hf : s'.fieldNamed? o n d true with
  | none => rw [hf] at h1; cases h1
  | some q =>
    obtain ⟨c', k, i⟩ := q
    rw [hf] at h1
    simp only [Option.bind_eq_bind, Option.bind_some] at h1 ⊢
    cases hs : k.statics with
    | none => rw [hs] at h1; cases h1
    | some a =>
      rw [hs] at h1
      simp only [Option.bind_some] at h1 ⊢
      have e2 : (s.setVm s'.vm).heap[a]? = s.heap[a]? := rfl
      rw [e2] at h1
      cases hc : s.heap[a]? with
      | none => rw [hc] at h1; cases h1
      | some cell =>
        rw [hc] at h1
        rw [hh a (Array.getElem?_eq_some_iff.mp hc).1, hc]
        exact h1
/-- the classes are known -/
theorem mt_known {s : State} {args : Array Value} (hts : ∀ w ∈ mt_Tg, w.before args s = true) : ∃ D : va_G, ∀ (c : Nat) (q : vw_C), mt_cl[c]? = some q → u_Kn s q.1 q.2.1 q.2.2 (D.1 c) (D.2 c) := by
  have h : ∀ c, ∃ (cC : ClassId) (iS : Nat → Nat), c < mt_k.length → u_Kn s (mt_cn c) (mt_T c) (mt_fl c).length cC iS := by
    intro c
    by_cases hc : c < mt_k.length
    · obtain ⟨q, hq1, hq2, hq3⟩ := mt_k_at hc
      have h5 := mt_kk hc
      unfold mt_okk at h5
      rw [hq1] at h5
      simp only [Bool.and_eq_true] at h5
      obtain ⟨⟨⟨-, h5⟩, -⟩, -⟩ := h5
      obtain ⟨cC, iS, h6⟩ := u_known hts (mt_ws_in hc) (hts _ (mt_g (mt_in_mem h5) rfl))
      exact ⟨cC, iS, fun _ => h6⟩
    · exact ⟨0, fun _ => 0, fun h => absurd h hc⟩
  refine ⟨(fun c => Classical.choose (h c), fun c => Classical.choose (Classical.choose_spec (h c))), fun c q hq => ?_⟩
  obtain ⟨h1, h2⟩ := mt_cl_of hq
  subst h2
  exact Classical.choose_spec (Classical.choose_spec (h c)) h1
def mt_okLb : FieldType → Bool
  | .int => mt_mem (.arrayClass .int)
  | .byte => mt_mem (.arrayClass .byte)
  | .boolean => mt_mem (.arrayClass .boolean)
  | .object C => mt_mem (.arrayOver (.object C))
  | .array t => mt_mem (.arrayOver (.array t))
  | _ => false
set_option maxRecDepth 100000 in
theorem mt_okL_all : mt_L.all mt_okLb = true := by decide +kernel
theorem mt_arr {s : State} {args : Array Value} (hts : ∀ w ∈ mt_Tg, w.before args s = true) {ty : FieldType} (h : mt_okLb ty = true) : ∃ cA : ClassId, ArrOfT s cA ty ∧ va_RA s cA ty := by
  have prim : ∀ ty : FieldType, (∀ cA, va_RA s cA ty ↔ s.vm.findClass ("[" ++ ty.toString) = some cA) → mt_mem (.arrayClass ty) = true → ∃ cA : ClassId, ArrOfT s cA ty ∧ va_RA s cA ty := by
    intro ty hR hm
    obtain ⟨cA, kA, comp, h1, h2, h3⟩ := Cond.arrayClass_spec (hts _ (mt_g (mt_mem_mem hm) rfl))
    exact ⟨cA, fun n z => ⟨fun k h => (by cases h), kA, h2, comp, h3⟩, (hR cA).mpr h1⟩
  unfold mt_okLb at h
  split at h
  · exact prim _ (fun _ => Iff.rfl) h
  · exact prim _ (fun _ => Iff.rfl) h
  · exact prim _ (fun _ => Iff.rfl) h
  · obtain ⟨comp, c, k, hc, hi, hk, hkind, hn⟩ := Cond.arrayOver_spec (hts _ (mt_g (mt_mem_mem h) rfl))
    exact ⟨c, fun n z => ⟨fun k h => (by cases h), k, hk, comp, hkind⟩, k, comp, hk, hkind, hc, hn⟩
  · obtain ⟨comp, c, k, hc, hi, hk, hkind, hn⟩ := arrayOverA_spec (hts _ (mt_g (mt_mem_mem h) rfl))
    exact ⟨c, fun n z => ⟨fun k h => (by cases h), k, hk, comp, hkind⟩, hn⟩
  · cases h
theorem mt_arrs {s : State} {args : Array Value} (hts : ∀ w ∈ mt_Tg, w.before args s = true) : ∃ dA : Nat → Nat, ∀ (k : Nat) (q : ClassId × FieldType), (mv_tys dA mt_L)[k]? = some q → ArrOfT s q.1 q.2 ∧ va_RA s q.1 q.2 := by
  have h : ∀ t : Nat, ∃ cA : ClassId, ∀ ty, mt_L[t]? = some ty → ArrOfT s cA ty ∧ va_RA s cA ty := by
    intro t
    cases ht : mt_L[t]? with
    | none => exact ⟨0, fun ty h => by cases h⟩
    | some ty =>
      obtain ⟨cA, h1⟩ := mt_arr hts (List.all_eq_true.mp mt_okL_all ty (List.mem_of_getElem? ht))
      exact ⟨cA, fun ty' h => by cases h; exact h1⟩
  refine ⟨fun t => Classical.choose (h t), fun k q hq => ?_⟩
  have h1 := List.mem_of_getElem? hq
  unfold mv_tys at h1
  obtain ⟨t, -, h2⟩ := List.mem_filterMap.mp h1
  rw [Option.map_eq_some_iff] at h2
  obtain ⟨ty, h3, h4⟩ := h2
  subst h4
  exact Classical.choose_spec (h t) ty h3
def mt_uj (j : Nat) : Option (Nat × Nat × String) := (List.range mt_U.length).findSome? fun o => ((mt_U.getD o []).find? (fun e => Nat.beq e.2.1 j)).map fun e => (o, e.1, e.2.2.1)
set_option maxRecDepth 100000 in
theorem mt_oku_all : mt_all mt_U (fun o e => decide (mt_uj e.2.1 = some (o, e.1, e.2.2.1)) && mt_in e.2.2.2 (.stringRef (mt_own o) e.1 e.2.2.1)) = true := by decide +kernel
theorem mt_strs {s : State} {args : Array Value} (hts : ∀ w ∈ mt_Ts, w.before args s = true) : ∃ ka : Nat → Nat, ∀ (o : Nat) (e : Nat × Nat × String × (Nat × Nat)), e ∈ mt_U.getD o [] → vk_R (mt_own o) e.1 e.2.2.1 (ka e.2.1) s := by
  have h : ∀ j : Nat, ∃ a : Nat, ∀ (o : Nat) (e : Nat × Nat × String × (Nat × Nat)), e ∈ mt_U.getD o [] → e.2.1 = j → vk_R (mt_own o) e.1 e.2.2.1 a s := by
    intro j
    cases hj : mt_uj j with
    | none => exact ⟨0, fun o e he hj' => by
        have h1 := mt_all_of mt_oku_all he
        rw [Bool.and_eq_true] at h1
        have h2 := of_decide_eq_true h1.1
        rw [hj', hj] at h2
        cases h2⟩
    | some q =>
      by_cases hx : ∃ (o : Nat) (e : Nat × Nat × String × (Nat × Nat)), e ∈ mt_U.getD o [] ∧ e.2.1 = j
      · obtain ⟨o, e, he, hje⟩ := hx
        have h1 := mt_all_of mt_oku_all he
        rw [Bool.and_eq_true] at h1
        obtain ⟨a, ha⟩ := mt_str (hts _ (mt_in_mem h1.2))
        refine ⟨a, fun o' e' he' hj' => ?_⟩
        have h1' := mt_all_of mt_oku_all he'
        rw [Bool.and_eq_true] at h1'
        have h2 := of_decide_eq_true h1.1
        have h2' := of_decide_eq_true h1'.1
        rw [hje] at h2
        rw [hj', h2] at h2'
        have h3 := Option.some.inj h2'
        have h4 : o = o' := congrArg (fun q => q.1) h3
        have h5 : e.1 = e'.1 := congrArg (fun q => q.2.1) h3
        have h6 : e.2.2.1 = e'.2.2.1 := congrArg (fun q => q.2.2) h3
        rw [← h4, ← h5, ← h6]
        exact ha
      · exact ⟨0, fun o e he hje => absurd ⟨o, e, he, hje⟩ hx⟩
  exact ⟨fun j => Classical.choose (h j), fun o e he => Classical.choose_spec (h e.2.1) o e he rfl⟩
/-- the constants of text, by their pointers -/
theorem mt_T_ok {n : Nat} {f : Nat → Int32} {s : State} {b : Nat} {ka : Nat → Nat} (h : ∀ (o : Nat) (e : Nat × Nat × String × (Nat × Nat)), e ∈ mt_U.getD o [] → vk_R (mt_own o) e.1 e.2.2.1 (ka e.2.1) s) (z : Nat) : mv_okT mt_Nm (mt_G n f) (fun q => if q = 0 then b else ka (q - 1)) s z := by
  intro idx a ha
  have ha : (match mt_pick mt_K z idx with | some e => some (Value.int (Int32.ofInt e.1)) | none => (mt_pick mt_U z idx).map fun e => Value.ref (mv_big + 1 + e.1)) = some (.ref a) := ha
  split at ha
  · cases ha
  · rw [Option.map_eq_some_iff] at ha
    obtain ⟨⟨j, tx, p⟩, h1, h2⟩ := ha
    have h2 : mv_big + 1 + j = a := Value.ref.inj h2
    subst h2
    have h3 := h _ _ (mt_pick_of h1)
    have e1 : mv_big + 1 + j - mv_big = j + 1 := by omega
    refine ⟨by omega, tx, ?_⟩
    rw [mt_cls, e1]
    exact h3
/-! what is given at the start of the texts -/
def mt_gv : List Jvm.Cond := flatC (Jvm.Cond.and given_1 narrow_1)
def mt_xw (own : String) (k : Nat) (bs : List Int32) : List Jvm.Cond :=
  [.exactly (.string own k) "java/lang/String", .eq (.field (.string own k) "java/lang/String" "coder" "B") (.int 0), .arrayOf (.field (.string own k) "java/lang/String" "value" "[B") .byte, .eq (.length (.field (.string own k) "java/lang/String" "value" "[B")) (.int (Int32.ofNat bs.length))] ++ (List.range bs.length).map fun j => .eq (.elem (.field (.string own k) "java/lang/String" "value" "[B") (.int (Int32.ofNat j))) (.int (bs.getD j 0))
def mt_xok (e : Nat × Nat × Nat × List Int32) : Bool := decide ((mt_gv.drop e.2.2.1).take (4 + e.2.2.2.length) = mt_xw (mt_own e.1) e.2.1 e.2.2.2) && Nat.blt e.2.2.2.length 1000
set_option maxRecDepth 100000 in
theorem mt_xok_all : mt_TX.all mt_xok = true := by decide +kernel
/-- the numbers of the texts are those of the constants -/
def mt_xnum (o : Nat) (e : Nat × Nat × String × (Nat × Nat)) : Bool := match mt_TX[e.2.1]? with
  | some q => decide (mt_uj e.2.1 = some (q.1, q.2.1, e.2.2.1)) && Nat.beq q.1 o && Nat.beq q.2.1 e.1
  | none => false
def mt_xin (j : Nat) : Bool := match mt_TX[j]?, mt_uj j with
  | some q, some u => (mt_U.getD u.1 []).any fun e => Nat.beq e.2.1 j && Nat.beq e.1 q.2.1 && Nat.beq u.1 q.1
  | _, _ => false
set_option maxRecDepth 100000 in
theorem mt_xin_all : (List.range mt_TX.length).all mt_xin = true := by decide +kernel
theorem mt_xS {s : State} {args : Array Value} (hgv : (Jvm.Cond.and given_1 narrow_1).before args s = true) (hts : ∀ w ∈ mt_Ts, w.before args s = true) {ka : Nat → Nat} (hka : ∀ (o : Nat) (e : Nat × Nat × String × (Nat × Nat)), e ∈ mt_U.getD o [] → vk_R (mt_own o) e.1 e.2.2.1 (ka e.2.1) s) {j : Nat} {e : Nat × Nat × Nat × List Int32} (hj : mt_TX[j]? = some e) :
    e.2.2.2.length < 2 ^ 31 ∧ ∃ v : Nat, st_SA (fun q => s.heap.size ≤ q) (ka j) v e.2.2.2.length (fun i => e.2.2.2.getD i 0) s s.heap := by
  have hlt : j < mt_TX.length := (List.getElem?_eq_some_iff.mp hj).1
  have h1 := List.all_eq_true.mp mt_xin_all j (List.mem_range.mpr hlt)
  have h2 := List.all_eq_true.mp mt_xok_all e (List.mem_of_getElem? hj)
  unfold mt_xin at h1
  rw [hj] at h1
  split at h1
  · rename_i q u hq hu
    cases hq
    obtain ⟨e2, he2, h3⟩ := List.any_eq_true.mp h1
    simp only [Bool.and_eq_true] at h3
    obtain ⟨⟨h3, h4⟩, h5⟩ := h3
    have h3 := Nat.eq_of_beq_eq_true h3
    have h4 := Nat.eq_of_beq_eq_true h4
    have h5 := Nat.eq_of_beq_eq_true h5
    have hR := hka u.1 e2 he2
    rw [h3, h4, h5] at hR
    unfold mt_xok at h2
    rw [Bool.and_eq_true] at h2
    have h6 := of_decide_eq_true h2.1
    have h7 : e.2.2.2.length < 1000 := Nat.le_of_ble_eq_true h2.2
    refine ⟨by omega, ?_⟩
    have hall : ∀ w ∈ mt_xw (mt_own e.1) e.2.1 e.2.2.2, w.before args s = true := by
      intro w hw
      rw [← h6] at hw
      exact flat_of_before _ hgv w (List.mem_of_mem_drop (List.mem_of_mem_take hw))
    have hA : ∀ a : Nat, a < s.heap.size → ¬ s.heap.size ≤ a := fun a h => Nat.not_le.mpr h
    have i1 := hall (.exactly (.string (mt_own e.1) e.2.1) "java/lang/String") (by simp [mt_xw])
    have i2 := hall (.eq (.field (.string (mt_own e.1) e.2.1) "java/lang/String" "coder" "B") (.int 0)) (by simp [mt_xw])
    have i3 := hall (.arrayOf (.field (.string (mt_own e.1) e.2.1) "java/lang/String" "value" "[B") .byte) (by simp [mt_xw])
    have i4 := hall (.eq (.length (.field (.string (mt_own e.1) e.2.1) "java/lang/String" "value" "[B")) (.int (Int32.ofNat e.2.2.2.length))) (by simp [mt_xw])
    have i5 : ∀ k : Nat, k < e.2.2.2.length → (Cond.eq (.elem (.field (.string (mt_own e.1) e.2.1) "java/lang/String" "value" "[B") (.int (Int32.ofNat k))) (.int (e.2.2.2.getD k 0))).before args s = true := fun k hk => hall _ (List.mem_append.mpr (Or.inr (List.mem_map.mpr ⟨k, List.mem_range.mpr hk, rfl⟩)))
    obtain ⟨a, c, cA, kA, q1, q2, q3, q4, q5, q6, -⟩ := Cond.exactly_spec (args := args) (first := s) (o := none) (s := s) (idx := []) (t := .string (mt_own e.1) e.2.1) (cls := "java/lang/String") i1
    have ea : a = ka j := by
      have z1 := hR.2
      have z2 : (Term.string (mt_own e.1) e.2.1).eval args s none [] s = (Term.string (mt_own e.1) e.2.1).eval #[] s none [] s := rfl
      rw [z2, z1] at q1
      exact (Value.ref.inj (Option.some.inj q1)).symm
    subst ea
    obtain ⟨t, ht, hT⟩ := va_Tof (f := fun k => .int (e.2.2.2.getD k 0)) (A := fun q => s.heap.size ≤ q) (by omega) i3 (va_eqt i4) (fun k hk => va_eqt (i5 k hk)) hA
    have hg := flat_of_before _ hgv
    have hc : (Cond.eq (.static "java/lang/String" "COMPACT_STRINGS" "Z") (.int 1)).before args s = true := hg _ (by decide +kernel)
    have hf : (Cond.isRef (.static st_P "SIOOBE_FORMATTER" st_F)).before args s = true := hg _ (by decide +kernel)
    obtain ⟨fm, f1, f2⟩ := Cond.isRef_spec hf
    exact ⟨t, ⟨cA, q3, q5, by rw [q6]; exact q2, hA _ (Array.getElem?_eq_some_iff.mp q3).1⟩, vk_OFof q1 (va_eqt i2) hA, vk_OFof q1 ht hA, hT, va_Zof (hts _ (mt_mem_mem (by decide +kernel))) (hts _ (mt_mem_mem (by decide +kernel))) (va_eqt hc) hA, fm, f2, va_Zof (hts _ (mt_mem_mem (by decide +kernel))) (hts _ (mt_mem_mem (by decide +kernel))) f1 hA⟩
  · cases h1
