/-! the claim, out of the small machine's run of the law -/
theorem mt_ch_t1 {j i : Nat} {w : Jvm.Cond} (hj : j < 16) (h : (mt_ch j)[i]? = some w) : w ∈ tables_1 := by
  have h1 : w ∈ mt_ch j := List.mem_of_getElem? h
  have h2 : w ∈ mt_ch j → w ∈ tables_1 := by
    unfold mt_ch tables_1
    split <;> intro h <;> first | (exact absurd h List.not_mem_nil) | (exact absurd hj (by decide)) | simp only [List.mem_append, h, true_or, or_true]
  exact h2 h1
theorem mt_pv_ok : ∀ q ∈ mt_pv, (q.1.cls ≠ "java/lang/invoke/MethodHandle" ∧ q.1.cls ≠ "java/lang/invoke/VarHandle") ∧ Cond.instantiable q.1.cls q.2 ∈ tables_1 ∧ Cond.privateMethod q.1 ∈ tables_1 ∧ Cond.instanceMethod q.1 ∈ tables_1 := by
  intro q hq
  obtain ⟨v, hv, rfl⟩ := List.mem_map.mp hq
  have h := List.all_eq_true.mp mt_okv_all v hv
  unfold mt_okv at h
  simp only [Bool.and_eq_true] at h
  obtain ⟨⟨⟨⟨⟨⟨h1, h2⟩, h3⟩, h4⟩, h5⟩, h6⟩, h7⟩ := h
  exact ⟨(mt_M_ok 0 (fun _ => 0) h7).2.2, mt_ch_t1 (mt_lt h4) (of_decide_eq_true h1), mt_ch_t1 (mt_lt h5) (of_decide_eq_true h2), mt_ch_t1 (mt_lt h6) (of_decide_eq_true h3)⟩
def R_law : String := "RefactorHouseLaw"
def lw_P (b : Addr) (xs : List Int32) (args : Array Value) (s : State) : Prop := args = #[.ref b] ∧ s.IntsAt b xs ∧ xs.length ≤ 3072 ∧ (Jvm.Cond.and given_1 narrow_1).before args s = true
def lw_Q (_ : Array Value) (s : State) (o : Outcome) (t : State) : Prop := o = .returned (some (.int 1)) ∧ Framed s o t [] 601024 7293034
def lw_Z (below : List Frame) (a : Array Value) (s : State) : State → Prop := fun t => ∃ o, t.status = .running ∧ Ended t below o ∧ lw_Q a s o t
def lw_At (p : Program) (e : Env) (s : State) (m : MethodId) (meth : Method) (c : Code) (b L : Nat) (xs : Nat → Int32) : Prop :=
  p.tables.exec = Jvm.exec ∧ c.code = code ∧ meth.sig.returnType = ret ∧ c.maxLocals = 4 ∧ s.vm.findClass R_law = some m.cls ∧ (∀ w ∈ mt_Ts, w.before #[Value.ref b] s = true) ∧ va_X b L xs s s.heap ∧ b < s.heap.size ∧ meth.locks = false ∧ (Jvm.Cond.and given_1 narrow_1).before #[Value.ref b] s = true ∧ e.platform.stackTraces = false ∧ c.exceptionTable.toList = [] ∧ meth.name = "law"
/-- where the small machine stands at the law's entry -/
def mt_S0 : mv_S := (0, [(0, .ref mv_big)], [], [], 601024, 7293034)
/-- the small machine's run of the law over the script ends with true -/
def mt_true (L : Nat) (xs : Nat → Int32) : Prop := ∃ (n : Nat) (hp : List va_E) (cb sb : Nat), mv_run (mt_G L xs) n 0 2048 84000 mt_S0 = some (.inr (some (.int 1)), hp, cb, sb)
set_option maxRecDepth 100000 in
theorem mt_law0 : (mt_inf 0).1 = 4 ∧ (mt_inf 0).2.1 = some .boolean ∧ mt_gH 0 = [] ∧ mt_Nm 0 = ⟨"RefactorHouseLaw", "law", "([I)Z"⟩ := by decide +kernel
theorem mt_start {p : Program} {e : Env} {s : State} {m : MethodId} {below : List Frame} {meth : Method} {c : Code} (l : Launch) {b L : Nat} {xs : Nat → Int32} (hrun : mt_true L xs) (C0 : lw_At p e s m meth c b L xs) : W p l e room_1 s m #[Value.ref b] below meth c s.heap [] 0 0 (lw_Z below #[Value.ref b] s) (entryFrame m ([Value.ref b] : List Value).toArray 4) := by
  obtain ⟨hx, hb, hret, hml, hown, hts, hX, hbl, hlocks, hgv, htr, hex, hname⟩ := C0
  obtain ⟨n, hp, cb, sb, hrun⟩ := hrun
  obtain ⟨q1, q2, q3, q4⟩ := mt_law0
  have htg : ∀ w ∈ mt_Tg, w.before #[Value.ref b] s = true := fun w hw => hts w (List.mem_filter.mp hw).1
  obtain ⟨D, hD⟩ := mt_known htg
  obtain ⟨dA, hA⟩ := mt_arrs htg
  obtain ⟨ka, hka⟩ := mt_strs hts
  obtain ⟨kt, hkt⟩ : ∃ kt : Nat → Nat, kt = fun q => if q = 0 then b else ka (q - 1) := ⟨_, rfl⟩
  have hflat := flat_of_before _ hgv
  have hls : ∀ {o n d : String}, Cond.laysStatic o n d ∈ tables_1 → mv_kept s.heap.size (.laysStatic o n d) s := fun hm => mt_kept_ls (hts _ (List.mem_append.mpr (Or.inr hm)))
  have hus : ∀ w ∈ mt_Us, mv_kept s.heap.size w s := by
    intro w hw
    simp only [mt_Us, List.mem_cons, List.not_mem_nil, or_false] at hw
    rcases hw with rfl | rfl | rfl | rfl
    · exact hls (by decide +kernel)
    · exact hls (by decide +kernel)
    · exact mt_kept_ir (hflat _ (by decide +kernel))
    · exact mt_kept_ir (hflat _ (by decide +kernel))
  have hC : mv_C mt_Nm mt_Cd mt_cl mt_L mt_Tg mt_Us (mt_G L xs) s.heap.size kt dA D 0 p e s m #[Value.ref b] meth c := by
    refine ⟨hx, hb, hlocks, ?_, ?_, ?_, htg, ⟨hD, hA⟩, Nat.le_refl _, ?_, ?_, ?_, htr, hus, Nat.le_refl _, ?_⟩
    · show meth.sig.returnType = (mt_inf 0).2.1
      rw [q2, hret]
      rfl
    · show c.maxLocals = (mt_inf 0).1
      rw [q1, hml]
    · rw [q4]
      exact hown
    · show c.exceptionTable.toList.map mv_proj = mt_gH 0
      rw [q3, hex]
      rfl
    · rw [q4]
      exact hname
    · rw [hkt]
      exact mt_T_ok hka
    · refine ⟨fun a k f hs => ?_, fun a tx hs => ?_⟩
      · skip
        have hs : (if a = mv_big then some (L, xs) else none) = some (k, f) := hs
        split at hs
        · rename_i ha
          cases hs
          subst ha
          have e1 : kt (mv_big - mv_big) = b := by
            rw [Nat.sub_self, hkt]
            rfl
          rw [e1]
          exact ⟨Nat.le_refl _, hbl, hX⟩
        · cases hs
      · have hs : (if a ≤ mv_big then none else (mt_TX[a - (mv_big + 1)]?).map fun e => e.2.2.2) = some tx := hs
        split at hs
        · cases hs
        · rename_i ha
          rw [Option.map_eq_some_iff] at hs
          obtain ⟨e9, h9, rfl⟩ := hs
          obtain ⟨g1, v, g2⟩ := mt_xS hgv hts hka h9
          have e1 : kt (a - mv_big) = ka (a - (mv_big + 1)) := by
            rw [hkt]
            show (if a - mv_big = 0 then b else ka (a - mv_big - 1)) = _
            rw [if_neg (by omega), show a - mv_big - 1 = a - (mv_big + 1) by omega]
          rw [e1]
          exact ⟨by omega, g1, v, g2⟩
  have hi : ∀ i j, i < mv_big → j < mv_big → mv_ad s.heap.size kt i = mv_ad s.heap.size kt j → i = j := by
    intro i j h1 h2 h
    rw [mv_ad, if_pos h1, mv_ad, if_pos h2] at h
    omega
  have hK := mv_sound (base := s.heap.size) (kt := kt) (dA := dA) (D := D) (mt_G_ok L xs) (mt_N8_ok L xs) (mt_gL_ok L xs) (mt_gE_ok L xs) mt_good hi n 0 2048 84000 mt_S0 _ hrun p l e room_1 s m #[Value.ref b] below meth c hC (Nat.le_refl _) (Nat.le_refl _)
  have hb0 : mv_ad s.heap.size kt mv_big = b := by
    rw [mv_ad_big (Nat.le_refl _), Nat.sub_self, hkt]
    rfl
  have hent : entryFrame m ([Value.ref b] : List Value).toArray 4 = F0 m 0 ((lg_sl ([.ref b]) ++ List.replicate (4 - (lg_sl ([.ref b])).length) Slot.unset).toArray) [] := lg_entry_eq m _ _
  have hl := lv_entry ([.ref b]) (n := 4) (Nat.le_of_ble_eq_true rfl)
  rw [hent]
  have hW := hK s.heap ((lg_sl ([.ref b]) ++ List.replicate (4 - (lg_sl ([.ref b])).length) Slot.unset).toArray) [] 0 0 ⟨by
    show lv_has _ (mt_inf 0).1 [(0, .ref (mv_ad s.heap.size kt mv_big))]
    rw [hb0, q1]
    exact hl, fun k q h => by simp [mt_S0, mv_w] at h, rfl, va_S.rf, Nat.le_of_ble_eq_true rfl, Nat.le_of_ble_eq_true rfl, Nat.le_of_ble_eq_true rfl⟩
  refine mv_mono (fun t ht => ?_) hW
  obtain ⟨o, h1, h2, h3, -, -, -, h7, ⟨L1, k, n1, h8, h9, h10, h11⟩, -⟩ := ht
  have h3 : o = .returned (some (.int 1)) := h3
  refine ⟨o, h1, h2, h3, ⟨_, h3⟩, h7, ?_⟩
  have h8 : k + cb ≤ 601024 := h8
  have h9 : n1 + sb ≤ 7293034 := h9
  exact h10.weaken (fun y hy hlt => absurd (h11 y hy) (Nat.not_le.mpr hlt)) (by omega) (by omega)
