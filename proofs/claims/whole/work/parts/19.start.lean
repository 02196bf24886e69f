/-! the law's start: what the tables' words give of the first state -/
theorem mt_str {own tx : String} {k : Nat} {A : Array Value} {s : State} (h : (Cond.stringRef own k tx).before A s = true) : ∃ a, vk_R own k tx a s := by
  have h1 := h
  simp only [Cond.before, Cond.holds, Cond.value, beq_iff_eq] at h1
  rw [Option.map_eq_some_iff] at h1
  obtain ⟨c0, -, h1⟩ := h1
  rw [Bool.and_eq_true] at h1
  obtain ⟨-, h1⟩ := h1
  cases hr : s.resolvedAt? own k with
  | none => rw [hr] at h1; cases h1
  | some r =>
    rw [hr] at h1
    cases r with
    | string a =>
      refine ⟨a, vk_R.of (A := A) h ?_⟩
      simp only [Term.eval]
      simp only [State.resolvedAt?] at hr
      cases hc : s.vm.findClass own with
      | none => rw [hc] at hr; cases hr
      | some c =>
        rw [hc] at hr
        cases hk : s.vm.classes[c]? with
        | none => simp [hk] at hr
        | some kk =>
          simp [hk] at hr ⊢
          rw [hr]
          rfl
    | _ => cases h1
theorem mt_kept_ls {o n d : String} {A : Array Value} {s : State} (h : (Cond.laysStatic o n d).before A s = true) : mv_kept s.heap.size (.laysStatic o n d) s := by
  intro args' s' hW hh
  have h1 : (Cond.laysStatic o n d).before A (s.setVm s'.vm) = true := Cond.before_shiftedFace (State.Shifted.of_warmed hW) _ rfl h
  have e1 : (s.setVm s'.vm).fieldFound? o n d = s'.fieldFound? o n d := rfl
  simp only [Cond.before, Cond.holds, Cond.value, beq_iff_eq, State.vm_setVm, e1] at h1 ⊢
  cases hc : s'.vm.findClass o with
  | none => rw [hc] at h1; cases h1
  | some c =>
    cases hf : s'.fieldFound? o n d with
    | none => rw [hc, hf] at h1; cases h1
    | some q =>
      obtain ⟨c', k, i, f⟩ := q
      rw [hc, hf] at h1
      dsimp only at h1 ⊢
      rw [Option.map_eq_some_iff] at h1
      obtain ⟨cell, h2, h3⟩ := h1
      rw [Option.bind_eq_some_iff] at h2
      obtain ⟨a, h4, h5⟩ := h2
      have h5 : s.heap[a]? = some cell := h5
      rw [Option.map_eq_some_iff]
      refine ⟨cell, ?_, h3⟩
      rw [Option.bind_eq_some_iff]
      exact ⟨a, h4, by rw [hh a (Array.getElem?_eq_some_iff.mp h5).1]; exact h5⟩
theorem mt_kept_ir {o n d : String} {A : Array Value} {s : State} (h : (Cond.isRef (.static o n d)).before A s = true) : mv_kept s.heap.size (.isRef (.static o n d)) s := by
  intro args' s' hW hh
  have h1 : (Cond.isRef (.static o n d)).before A (s.setVm s'.vm) = true := Cond.before_shiftedFace (State.Shifted.of_warmed hW) _ rfl h
  have e1 : (s.setVm s'.vm).fieldNamed? o n d true = s'.fieldNamed? o n d true := rfl
  simp only [Cond.before, Cond.holds, Cond.value, beq_iff_eq, Term.eval, e1] at h1 ⊢
  cases hf : s'.fieldNamed? o n d true with
  | none => rw [hf] at h1; cases h1
  | some q =>
    obtain ⟨c', k, i⟩ := q
    rw [hf] at h1
    simp only [Option.bind_eq_bind, Option.bind_some] at h1 ⊢
    cases hs : k.statics with
    | none => rw [hs] at h1; cases h1
    | some a =>
      rw [hs] at h1
      simp only [Option.bind_some] at h1 ⊢
      have e2 : (s.setVm s'.vm).heap[a]? = s.heap[a]? := rfl
      rw [e2] at h1
      cases hc : s.heap[a]? with
      | none => rw [hc] at h1; cases h1
      | some cell =>
        rw [hc] at h1
        rw [hh a (Array.getElem?_eq_some_iff.mp hc).1, hc]
        exact h1
/-- the classes are known -/
theorem mt_known {s : State} {args : Array Value} (hts : ∀ w ∈ mt_Tg, w.before args s = true) : ∃ D : va_G, ∀ (c : Nat) (q : vw_C), mt_cl[c]? = some q → u_Kn s q.1 q.2.1 q.2.2 (D.1 c) (D.2 c) := by
  have h : ∀ c, ∃ (cC : ClassId) (iS : Nat → Nat), c < mt_k.length → u_Kn s (mt_cn c) (mt_T c) (mt_fl c).length cC iS := by
    intro c
    by_cases hc : c < mt_k.length
    · obtain ⟨q, hq1, hq2, hq3⟩ := mt_k_at hc
      have h5 := mt_kk hc
      unfold mt_okk at h5
      rw [hq1] at h5
      simp only [Bool.and_eq_true] at h5
      obtain ⟨⟨⟨-, h5⟩, -⟩, -⟩ := h5
      obtain ⟨cC, iS, h6⟩ := u_known hts (mt_ws_in hc) (hts _ (mt_g (mt_in_mem h5) rfl))
      exact ⟨cC, iS, fun _ => h6⟩
    · exact ⟨0, fun _ => 0, fun h => absurd h hc⟩
  refine ⟨(fun c => Classical.choose (h c), fun c => Classical.choose (Classical.choose_spec (h c))), fun c q hq => ?_⟩
  obtain ⟨h1, h2⟩ := mt_cl_of hq
  subst h2
  exact Classical.choose_spec (Classical.choose_spec (h c)) h1
