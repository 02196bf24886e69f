/-! the small machine: arrays of arrays -/
/-- n rows of k numbers, behind the pointers below q -/
def mv_rows (t1 k : Nat) (n : Nat) : List va_E := List.replicate n (.inl (t1, k, .inl (fun _ => 0)))
def mv_outer (t n q w : Nat) : va_E := .inl (t, n, .inr (.inr (.inr (.inr (fun i => if i < n then some (q + i * w) else none)))))
def mv_grid2 (t t1 n k q : Nat) : List va_E := mv_outer t n (q + 1) 1 :: mv_rows t1 k n
def mv_blocks (t1 t2 k j q : Nat) : Nat → List va_E
  | 0 => []
  | i + 1 => mv_blocks t1 t2 k j q i ++ mv_grid2 t1 t2 k j (q + i * (k + 1))
def mv_grid3 (t t1 t2 n k j q : Nat) : List va_E := mv_outer t n (q + 1) (k + 1) :: mv_blocks t1 t2 k j (q + 1) n
def mv_multi (G : mv_G) (y pc : Nat) (l : List (Nat × Value)) (st : List Value) (hp : List va_E) (cb sb idx d : Nat) : Option mv_R := match mv_gM G y idx with
  | some (t, t1, t2) => match st with
    | .int k :: .int n :: r => if d = 2 then
        if t2 = 0 ∧ ¬ n < 0 ∧ ¬ k < 0 ∧ n.toNatClampNeg ≤ 65536 ∧ k.toNatClampNeg ≤ 65536 ∧ 1 + n.toNatClampNeg ≤ cb ∧ n.toNatClampNeg + n.toNatClampNeg * k.toNatClampNeg ≤ sb then
          some (.inl (pc + 4, l, .ref hp.length :: r, hp ++ mv_grid2 t t1 n.toNatClampNeg k.toNatClampNeg hp.length, cb - (1 + n.toNatClampNeg), sb - (n.toNatClampNeg + n.toNatClampNeg * k.toNatClampNeg)))
        else none
      else match r with
        | .int z :: r => if d = 3 ∧ 0 < t2 ∧ ¬ z < 0 ∧ ¬ n < 0 ∧ ¬ k < 0 ∧ z.toNatClampNeg ≤ 65536 ∧ n.toNatClampNeg ≤ 65536 ∧ k.toNatClampNeg ≤ 65536 ∧ 1 + z.toNatClampNeg * (n.toNatClampNeg + 1) ≤ cb ∧ z.toNatClampNeg + z.toNatClampNeg * (n.toNatClampNeg + n.toNatClampNeg * k.toNatClampNeg) ≤ sb then
            some (.inl (pc + 4, l, .ref hp.length :: r, hp ++ mv_grid3 t t1 t2 z.toNatClampNeg n.toNatClampNeg k.toNatClampNeg hp.length, cb - (1 + z.toNatClampNeg * (n.toNatClampNeg + 1)), sb - (z.toNatClampNeg + z.toNatClampNeg * (n.toNatClampNeg + n.toNatClampNeg * k.toNatClampNeg))))
          else none
        | _ => none
    | _ => none
  | none => none
theorem mv_grid2_len (t t1 n k q : Nat) : (mv_grid2 t t1 n k q).length = 1 + n := by
  unfold mv_grid2 mv_rows
  rw [List.length_cons, List.length_replicate]
  omega
theorem mv_blocks_len (t1 t2 k j q : Nat) : ∀ n, (mv_blocks t1 t2 k j q n).length = n * (k + 1)
  | 0 => by rw [Nat.zero_mul]; rfl
  | n + 1 => by
    unfold mv_blocks
    rw [List.length_append, mv_blocks_len t1 t2 k j q n, mv_grid2_len, Nat.succ_mul]
    omega
theorem mv_blocks_at (t1 t2 k j q : Nat) : ∀ (n x : Nat) (e : va_E), (mv_blocks t1 t2 k j q n)[x]? = some e → ∃ i r, i < n ∧ x = i * (k + 1) + r ∧ (mv_grid2 t1 t2 k j (q + i * (k + 1)))[r]? = some e
  | 0, x, e, h => by simp [mv_blocks] at h
  | n + 1, x, e, h => by
    unfold mv_blocks at h
    by_cases hx : x < n * (k + 1)
    · rw [List.getElem?_append_left (by rw [mv_blocks_len]; exact hx)] at h
      obtain ⟨i, r, h1, h2, h3⟩ := mv_blocks_at t1 t2 k j q n x e h
      exact ⟨i, r, by omega, h2, h3⟩
    · rw [List.getElem?_append_right (by rw [mv_blocks_len]; omega), mv_blocks_len] at h
      exact ⟨n, x - n * (k + 1), by omega, by omega, h⟩
theorem mv_grid2_at {t t1 n k q r : Nat} {e : va_E} (h : (mv_grid2 t t1 n k q)[r]? = some e) : (r = 0 ∧ e = mv_outer t n (q + 1) 1) ∨ ∃ x, x < n ∧ r = x + 1 ∧ e = .inl (t1, k, .inl (fun _ => 0)) := by
  unfold mv_grid2 mv_rows at h
  cases r with
  | zero =>
    cases h
    exact Or.inl ⟨rfl, rfl⟩
  | succ x =>
    rw [List.getElem?_cons_succ, List.getElem?_replicate] at h
    split at h
    · rename_i hx
      cases h
      exact Or.inr ⟨x, hx, rfl, rfl⟩
    · cases h
/-- the outer row of a grid, its first i places laid, w apart -/
def mv_oC (c : ClassId) (N h0 w : Nat) : Nat → Cell
  | 0 => { cls := c, slots := Array.replicate N .null, vm := .none }
  | i + 1 => (mv_oC c N h0 w i).setSlot i (.ref (h0 + 1 + i * w))
theorem mv_oC_eq (c : ClassId) (N h0 w : Nat) : ∀ i : Nat, mv_oC c N h0 w i = arrV c N (fun j => if j < i then .ref (h0 + 1 + j * w) else .null)
  | 0 => by
    show ({ cls := c, slots := Array.replicate N .null, vm := .none } : Cell) = _
    rw [arrV_new]
    refine congrArg (arrV c N) (funext fun j => ?_)
    simp
  | i + 1 => by
    show (mv_oC c N h0 w i).setSlot i (.ref (h0 + 1 + i * w)) = _
    rw [mv_oC_eq c N h0 w i, arrV_store]
    refine congrArg (arrV c N) (funext fun j => ?_)
    by_cases e : j = i
    · subst e
      simp [updV]
    · by_cases h : j < i
      · simp [updV, e, h, Nat.lt_succ_of_lt h]
      · simp [updV, e, h, show ¬ j < i + 1 by omega]
theorem mv_outer1 (c : ClassId) (N h0 : Nat) : ∀ i : Nat, Jvm.Free.Multi.outerC c N h0 i = mv_oC c N h0 1 i
  | 0 => rfl
  | i + 1 => by
    show (Jvm.Free.Multi.outerC c N h0 i).setSlot i (.ref (h0 + 1 + i)) = (mv_oC c N h0 1 i).setSlot i (.ref (h0 + 1 + i * 1))
    rw [mv_outer1 c N h0 i, Nat.mul_one]
theorem mv_oC_facts (c : ClassId) (N h0 w i : Nat) : (mv_oC c N h0 w i).cls = c ∧ (mv_oC c N h0 w i).vm = .none ∧ (mv_oC c N h0 w i).slots.size = N := by
  rw [mv_oC_eq]
  exact ⟨rfl, rfl, arrV_size _ _ _⟩
/-- an outer row in the small machine's words -/
theorem mv_outer_cell {base : Nat} {kt dA : Nat → Nat} {D : va_G} {cl : List vw_C} {H1 : Heap} {a t n q w h0 : Nat} (h : H1[a]? = some (mv_oC (dA t) n h0 w n)) (hq : ∀ i, i < n → mv_ad base kt (q + i * w) = h0 + 1 + i * w) : va_at D cl (a, mv_e (mv_ad base kt) dA (mv_outer t n q w)) H1 := by
  show H1[a]? = some (vp_cell (dA t) (n, .inr (.inr (.inr (.inr (fun i => (if i < n then some (q + i * w) else none).map (mv_ad base kt)))))))
  rw [h, mv_oC_eq, vp_cell_q]
  congr 2
  funext j
  by_cases hj : j < n
  · rw [if_pos hj, if_pos hj, Option.map_some, hq j hj]
    rfl
  · rw [if_neg hj, if_neg hj]
    rfl
theorem mv_inner_cell {base : Nat} {kt dA : Nat → Nat} {D : va_G} {cl : List vw_C} {H1 : Heap} {a t k : Nat} {dv : Value} (hd : dv = .int 0) (h : H1[a]? = some (Jvm.Free.Multi.innerC (dA t) k dv)) : va_at D cl (a, mv_e (mv_ad base kt) dA (.inl (t, k, .inl (fun _ => 0)))) H1 := by
  show H1[a]? = some (vp_cell (dA t) (k, .inl (fun _ => 0)))
  rw [h, vp_cell_i, hd]
  show some ({ cls := dA t, slots := Array.replicate k (.int 0), vm := .none } : Cell) = _
  rw [arrV_new]
/-! grids of three dimensions, in the real machine -/
def mv_f3 (s : State) (c c1 c2 : ClassId) (N K M : Nat) (dv : Value) : Nat → State
  | 0 => s.pushCell (mv_oC c N s.heap.size (K + 1) 0)
  | i + 1 => (Jvm.Free.Multi.fill (mv_f3 s c c1 c2 N K M dv i) c1 c2 K M dv K).setCell s.heap.size (mv_oC c N s.heap.size (K + 1) (i + 1))
theorem mv_f3_facts (s : State) (c c1 c2 : ClassId) (N K M : Nat) (dv : Value) : ∀ i, (mv_f3 s c c1 c2 N K M dv i).heap.size = s.heap.size + 1 + i * (K + 1) ∧ (mv_f3 s c c1 c2 N K M dv i).heap[s.heap.size]? = some (mv_oC c N s.heap.size (K + 1) i) ∧ (mv_f3 s c c1 c2 N K M dv i).vm = s.vm ∧ (mv_f3 s c c1 c2 N K M dv i).slotsUsed = s.slotsUsed + N + i * (K + K * M)
  | 0 => ⟨by simp [mv_f3], by simp [mv_f3], rfl, by simp [mv_f3, mv_oC]⟩
  | i + 1 => by
    obtain ⟨a, b, d, u⟩ := mv_f3_facts s c c1 c2 N K M dv i
    obtain ⟨f1, f2, f3, f4⟩ := Jvm.Free.Multi.fill_facts (mv_f3 s c c1 c2 N K M dv i) c1 c2 K M dv K
    have hlt : s.heap.size < (mv_f3 s c c1 c2 N K M dv i).heap.size := by omega
    have fo := Jvm.Free.Multi.fill_old (mv_f3 s c c1 c2 N K M dv i) c1 c2 K M dv hlt K
    have hb' : (Jvm.Free.Multi.fill (mv_f3 s c c1 c2 N K M dv i) c1 c2 K M dv K).heap[s.heap.size]? = some (mv_oC c N s.heap.size (K + 1) i) := fo.trans b
    refine ⟨?_, State.heap_setCell_self hb', ?_, ?_⟩
    · show ((Jvm.Free.Multi.fill (mv_f3 s c c1 c2 N K M dv i) c1 c2 K M dv K).setCell _ _).heap.size = _
      rw [size_setCell, f1, a, Nat.succ_mul]
      omega
    · show (Jvm.Free.Multi.fill (mv_f3 s c c1 c2 N K M dv i) c1 c2 K M dv K).vm = _
      rw [f3, d]
    · show (Jvm.Free.Multi.fill (mv_f3 s c c1 c2 N K M dv i) c1 c2 K M dv K).slotsUsed = _
      rw [f4, u, Nat.succ_mul]
      omega
theorem mv_f3_old (s : State) (c c1 c2 : ClassId) (N K M : Nat) (dv : Value) {a : Addr} (ha : a < s.heap.size) : ∀ i, (mv_f3 s c c1 c2 N K M dv i).heap[a]? = s.heap[a]?
  | 0 => State.heap_pushCell_of_lt _ _ ha
  | i + 1 => by
    have f1 := (mv_f3_facts s c c1 c2 N K M dv i).1
    show ((Jvm.Free.Multi.fill (mv_f3 s c c1 c2 N K M dv i) c1 c2 K M dv K).setCell s.heap.size _).heap[a]? = _
    have hlt : a < (mv_f3 s c c1 c2 N K M dv i).heap.size := Nat.lt_of_lt_of_le ha (by rw [f1]; omega)
    rw [State.heap_setCell_other (Nat.ne_of_gt ha), Jvm.Free.Multi.fill_old (mv_f3 s c c1 c2 N K M dv i) c1 c2 K M dv hlt K]
    exact mv_f3_old s c c1 c2 N K M dv ha i
theorem mv_f3_rows (s : State) (c c1 c2 : ClassId) (N K M : Nat) (dv : Value) : ∀ i j, j < i → (mv_f3 s c c1 c2 N K M dv i).heap[s.heap.size + 1 + j * (K + 1)]? = some (mv_oC c1 K (s.heap.size + 1 + j * (K + 1)) 1 K) ∧ ∀ x, x < K → (mv_f3 s c c1 c2 N K M dv i).heap[s.heap.size + 1 + j * (K + 1) + 1 + x]? = some (Jvm.Free.Multi.innerC c2 M dv)
  | 0, _, h => absurd h (Nat.not_lt_zero _)
  | i + 1, j, h => by
    have f1 := (mv_f3_facts s c c1 c2 N K M dv i).1
    obtain ⟨g1, g2, -, -⟩ := Jvm.Free.Multi.fill_facts (mv_f3 s c c1 c2 N K M dv i) c1 c2 K M dv K
    have goal : ∀ a, a ≠ s.heap.size → (mv_f3 s c c1 c2 N K M dv (i + 1)).heap[a]? = (Jvm.Free.Multi.fill (mv_f3 s c c1 c2 N K M dv i) c1 c2 K M dv K).heap[a]? := fun a ha => State.heap_setCell_other (Ne.symm ha)
    rcases Nat.lt_or_ge j i with hj | hj
    · obtain ⟨r1, r2⟩ := mv_f3_rows s c c1 c2 N K M dv i j hj
      have hm : (j + 1) * (K + 1) ≤ i * (K + 1) := Nat.mul_le_mul_right _ hj
      rw [Nat.succ_mul] at hm
      refine ⟨?_, fun x hx => ?_⟩
      · rw [goal (s.heap.size + 1 + j * (K + 1)) (by omega), Jvm.Free.Multi.fill_old (mv_f3 s c c1 c2 N K M dv i) c1 c2 K M dv (show s.heap.size + 1 + j * (K + 1) < (mv_f3 s c c1 c2 N K M dv i).heap.size by rw [f1]; omega) K]
        exact r1
      · rw [goal (s.heap.size + 1 + j * (K + 1) + 1 + x) (by omega), Jvm.Free.Multi.fill_old (mv_f3 s c c1 c2 N K M dv i) c1 c2 K M dv (show s.heap.size + 1 + j * (K + 1) + 1 + x < (mv_f3 s c c1 c2 N K M dv i).heap.size by rw [f1]; omega) K]
        exact r2 x hx
    · have e : j = i := by omega
      subst e
      refine ⟨?_, fun x hx => ?_⟩
      · rw [goal (s.heap.size + 1 + j * (K + 1)) (by omega), ← f1, g2, mv_outer1]
      · rw [goal (s.heap.size + 1 + j * (K + 1) + 1 + x) (by omega), ← f1]
        exact Jvm.Free.Multi.fill_inner (mv_f3 s c c1 c2 N K M dv j) c1 c2 K M dv K x hx
theorem mv_f3_setTop (s : State) (f : JFrame) (c c1 c2 : ClassId) (N K M : Nat) (dv : Value) : ∀ i, mv_f3 (s.setTop f) c c1 c2 N K M dv i = (mv_f3 s c c1 c2 N K M dv i).setTop f
  | 0 => rfl
  | i + 1 => by simp only [mv_f3, mv_f3_setTop s f c c1 c2 N K M dv i, Jvm.Free.Multi.fill_setTop, State.heap_setTop, State.setCell_setTop]
theorem mv_stand3 {p : Program} {l : Launch} {e : Env} {R : Room} {s : State} {m : MethodId} {args : Array Value} {below : List Frame} {meth : Method} {c : Code} {T : State} {locs : List Loc} {cells slots : Nat} (X : Stand p l e R s m args below meth c T locs cells slots) (cA c1 c2 : ClassId) (N K M : Nat) (dv : Value) :
    ∀ i, ∃ locs', (∀ q ∈ locs', q ∈ locs ∨ T.heap.size ≤ q.base) ∧ Stand p l e R s m args below meth c (mv_f3 T cA c1 c2 N K M dv i) locs' (cells + 1 + i * (K + 1)) (slots + N + i * (K + K * M))
  | 0 => by
    have h := X.pushed (mv_oC cA N T.heap.size (K + 1) 0)
    rw [(mv_oC_facts cA N T.heap.size (K + 1) 0).2.2] at h
    exact ⟨locs, fun q hq => Or.inl hq, by simpa [mv_f3] using h⟩
  | i + 1 => by
    obtain ⟨locs', hl, Xi⟩ := mv_stand3 X cA c1 c2 N K M dv i
    obtain ⟨f1, f2, f3, f4⟩ := mv_f3_facts T cA c1 c2 N K M dv i
    have hlt0 : T.heap.size < (mv_f3 T cA c1 c2 N K M dv i).heap.size := by rw [f1]; omega
    have h2 := Xi.filled c1 c2 K M dv K
    have hcell : (Jvm.Free.Multi.fill (mv_f3 T cA c1 c2 N K M dv i) c1 c2 K M dv K).heap[T.heap.size]? = some (mv_oC cA N T.heap.size (K + 1) i) := (Jvm.Free.Multi.fill_old (mv_f3 T cA c1 c2 N K M dv i) c1 c2 K M dv hlt0 K).trans f2
    have h3 := h2.stored hcell i (.ref (T.heap.size + 1 + i * (K + 1)))
    refine ⟨(locs' ++ (List.range K).map fun j => ⟨(mv_f3 T cA c1 c2 N K M dv i).heap.size, j⟩) ++ [⟨T.heap.size, i⟩], fun q hq => ?_, ?_⟩
    rotate_left
    · have e3 : cells + 1 + (i + 1) * (K + 1) = cells + 1 + i * (K + 1) + 1 + K := by rw [Nat.succ_mul]; omega
      have e4 : slots + N + (i + 1) * (K + K * M) = slots + N + i * (K + K * M) + K + K * M := by rw [Nat.succ_mul]; omega
      rw [e3, e4]
      exact h3
    · rcases List.mem_append.mp hq with hq | hq
      · rcases List.mem_append.mp hq with hq | hq
        · exact hl q hq
        · obtain ⟨j, -, rfl⟩ := List.mem_map.mp hq
          exact Or.inr (Nat.le_of_lt hlt0)
      · have := List.mem_singleton.mp hq
        subst this
        exact Or.inr (Nat.le_refl _)
theorem mv_make3 {Et : CtlPost} {e : Env} {d : Bool} {acts : List Action} {s : State} {c c1 c2 cc : ClassId} {k0 k1 k2 : Class} {t0 t1 type : FieldType} {n k m : Int32} (hk : s.vm.classes[c]? = some k0) (hkind : k0.kind = .array c1 t0) (href : t0.isReference = true)
    (hk1 : s.vm.classes[c1]? = some k1) (hkind1 : k1.kind = .array c2 t1) (href1 : t1.isReference = true) (hk2 : s.vm.classes[c2]? = some k2) (hkind2 : k2.kind = .array cc type) (hn : ¬ n < 0) (hkk : ¬ k < 0) (hm : ¬ m < 0)
    (hl0 : ¬ n.toNatClampNeg > e.platform.arrayLengthLimit) (hh0 : ¬ n.toNatClampNeg * componentBytes t0 > e.platform.maxHeapBytes)
    (hl1 : ¬ k.toNatClampNeg > e.platform.arrayLengthLimit) (hh1 : ¬ k.toNatClampNeg * componentBytes t1 > e.platform.maxHeapBytes)
    (hl2 : ¬ m.toNatClampNeg > e.platform.arrayLengthLimit) (hh2 : ¬ m.toNatClampNeg * componentBytes type > e.platform.maxHeapBytes)
    (hdf : fits type (defaultValue type) = true) (hdd : (defaultValue type).isDefault = true)
    (hc : s.heap.size + 1 + n.toNatClampNeg * (k.toNatClampNeg + 1) ≤ e.platform.maxCells) (hs : s.slotsUsed + n.toNatClampNeg + n.toNatClampNeg * (k.toNatClampNeg + k.toNatClampNeg * m.toNatClampNeg) ≤ e.platform.maxSlots)
    {Q : Addr → Pre} (hq : ∀ d' acts', Q s.heap.size d' acts' (mv_f3 s c c1 c2 n.toNatClampNeg k.toNatClampNeg m.toNatClampNeg (defaultValue type) n.toNatClampNeg)) :
    wp (multianewarray.make c [n, k, m]) Q Et e d acts s := by
  have hfind : ([k, m].find? (· < 0)) = none := by simp [hkk, hm]
  rw [multianewarray.make]
  simp only [wp_bind', W.ite, hn, if_false, wp_pure', W.theClass, hk, hkind, Option.some.injEq, exists_eq_left']
  refine Jvm.Free.Multi.wp_newArray hk hkind hl0 hh0 (Jvm.Free.Multi.refFits href _ (Or.inl rfl)) rfl (by omega) (by omega) ?_
  simp only [hfind]
  rw [ite_self, wp_bind', Std.Legacy.Range.forIn_eq_forIn_range']
  have hsz : ([:n.toNatClampNeg] : Std.Legacy.Range).size = n.toNatClampNeg := by simp [Std.Legacy.Range.size]
  rw [hsz]
  show wp (forIn (List.range' 0 n.toNatClampNeg 1) PUnit.unit _) _ Et e d acts _
  refine wp_forIn_inv (fun rest s' => ∃ i, i ≤ n.toNatClampNeg ∧ rest = List.range' i (n.toNatClampNeg - i) ∧ s' = mv_f3 s c c1 c2 n.toNatClampNeg k.toNatClampNeg m.toNatClampNeg (defaultValue type) i) _ _ ⟨0, Nat.zero_le _, rfl, rfl⟩ ?_ ?_
  · rintro x rest s' d' acts' Q' ⟨i, hi, hl, rfl⟩ hnext
    have hlt : i < n.toNatClampNeg := by
      rcases Nat.lt_or_ge i n.toNatClampNeg with h | h
      · exact h
      · rw [show n.toNatClampNeg - i = 0 from by omega] at hl; simp at hl
    obtain ⟨rfl, hrest⟩ : x = i ∧ rest = List.range' (i + 1) (n.toNatClampNeg - (i + 1)) := by
      rw [show n.toNatClampNeg - i = (n.toNatClampNeg - (i + 1)) + 1 from by omega, List.range'_succ] at hl
      exact ⟨(List.cons.inj hl).1, (List.cons.inj hl).2⟩
    obtain ⟨f1, f2, f3, f4⟩ := mv_f3_facts s c c1 c2 n.toNatClampNeg k.toNatClampNeg m.toNatClampNeg (defaultValue type) x
    obtain ⟨o1, o2, o3⟩ := mv_oC_facts c n.toNatClampNeg s.heap.size (k.toNatClampNeg + 1) x
    have hmul : x * (k.toNatClampNeg + 1) + (k.toNatClampNeg + 1) ≤ n.toNatClampNeg * (k.toNatClampNeg + 1) := by
      have := Nat.mul_le_mul_right (k.toNatClampNeg + 1) (show x + 1 ≤ n.toNatClampNeg from hlt)
      rw [Nat.succ_mul] at this; exact this
    have hmul2 : x * (k.toNatClampNeg + k.toNatClampNeg * m.toNatClampNeg) + (k.toNatClampNeg + k.toNatClampNeg * m.toNatClampNeg) ≤ n.toNatClampNeg * (k.toNatClampNeg + k.toNatClampNeg * m.toNatClampNeg) := by
      have := Nat.mul_le_mul_right (k.toNatClampNeg + k.toNatClampNeg * m.toNatClampNeg) (show x + 1 ≤ n.toNatClampNeg from hlt)
      rw [Nat.succ_mul] at this; exact this
    simp only [wp_bind']
    refine Jvm.Free.Multi.wp_make2 (by rw [f3]; exact hk1) hkind1 href1 (by rw [f3]; exact hk2) hkind2 hkk hm hl1 hh1 hl2 hh2 hdf hdd (by rw [f1]; omega) (by rw [f4]; omega) (fun d9 acts9 => ?_)
    have hlt0 : s.heap.size < (mv_f3 s c c1 c2 n.toNatClampNeg k.toNatClampNeg m.toNatClampNeg (defaultValue type) x).heap.size := by rw [f1]; omega
    have fvm := (Jvm.Free.Multi.fill_facts (mv_f3 s c c1 c2 n.toNatClampNeg k.toNatClampNeg m.toNatClampNeg (defaultValue type) x) c1 c2 k.toNatClampNeg m.toNatClampNeg (defaultValue type) k.toNatClampNeg).2.2.1
    simp only [wp_bind', W.writeLoc, wp_pure']
    refine ⟨mv_oC c n.toNatClampNeg s.heap.size (k.toNatClampNeg + 1) x, (Jvm.Free.Multi.fill_old _ c1 c2 _ _ _ hlt0 _).trans f2, by rw [o2]; simp, by rw [o3]; exact hlt, ?_, hnext _ _ _ ⟨x + 1, hlt, hrest, ?_⟩⟩
    · rw [o1, o2]
      simp [State.fitsSlot, State.slotType?, fvm, f3, hk, hkind, Jvm.Free.Multi.refFits href _ (Or.inr ⟨_, rfl⟩)]
    · rw [f1]; rfl
  · rintro s' d' acts' ⟨i, hi, hl, rfl⟩
    have hiN : i = n.toNatClampNeg := by
      rcases Nat.lt_or_ge i n.toNatClampNeg with h | h
      · rw [show n.toNatClampNeg - i = (n.toNatClampNeg - (i + 1)) + 1 from by omega, List.range'_succ] at hl; cases hl
      · omega
    subst hiN
    simp only [wp_pure']
    exact hq _ _
theorem mv_multianewarray3 {p : Program} {l : Launch} {e : Env} {R : Room} {s : State} {m : MethodId} {args : Array Value} {below : List Frame} {meth : Method} {c : Code} {T : State} {locs : List Loc} {cells slots : Nat} (X : Stand p l e R s m args below meth c T locs cells slots) (hexec : p.tables.exec = Jvm.exec) {own : String} {index : Nat} {ty : FieldType}
    (hown : s.vm.findClass own = some m.cls) (hclink : (Cond.classLink own index ("[" ++ (FieldType.array (.array ty)).toString)).before args s = true)
    (hover : (Cond.arrayOver (.array (.array ty))).before args s = true) (hover2 : (Cond.arrayOver (.array ty)).before args s = true) (harr : (Cond.arrayClass ty).before args s = true) (hstr : ("[" ++ (FieldType.array ty).toString) = (FieldType.array (.array ty)).toString)
    {g : JFrame} (hg : g.method = m) (hdg : decode c.code g.pc = .ok (.multianewarray index 3, 4)) {n k z : Int32} {rest : List Value} (hstack : g.stack = .int k :: .int n :: .int z :: rest)
    (hz : ¬ z < 0) (hn : ¬ n < 0) (hk : ¬ k < 0) (hb0 : z.toNatClampNeg * 4 ≤ 536870912) (hb1 : n.toNatClampNeg * 4 ≤ 536870912) (hb2 : k.toNatClampNeg * componentBytes ty ≤ 536870912) (hb3 : k.toNatClampNeg ≤ 536870912)
    (hdf : fits ty (defaultValue ty) = true) (hdd : (defaultValue ty).isDefault = true)
    (hcells : cells + (1 + z.toNatClampNeg * (n.toNatClampNeg + 1)) ≤ R.cells) (hslots : slots + (z.toNatClampNeg + z.toNatClampNeg * (n.toNatClampNeg + n.toNatClampNeg * k.toNatClampNeg)) ≤ R.slots) :
    ∃ (vm₁ : Vm) (cA c1 c2 : ClassId) (locs' : List Loc), (∀ q ∈ locs', q ∈ locs ∨ T.heap.size ≤ q.base) ∧ s.vm.findClass ("[" ++ (FieldType.array (.array ty)).toString) = some cA ∧ s.vm.findClass ("[" ++ (FieldType.array ty).toString) = some c1 ∧ s.vm.findClass (FieldType.array ty).toString = some c2 ∧
      Stand p l e R s m args below meth c (mv_f3 (T.setVm vm₁) cA c1 c2 z.toNatClampNeg n.toNatClampNeg k.toNatClampNeg (defaultValue ty) z.toNatClampNeg) locs' (cells + 1 + z.toNatClampNeg * (n.toNatClampNeg + 1)) (slots + z.toNatClampNeg + z.toNatClampNeg * (n.toNatClampNeg + n.toNatClampNeg * k.toNatClampNeg)) ∧
      ∀ target, Steps p.tables e below ((mv_f3 (T.setVm vm₁) cA c1 c2 z.toNatClampNeg n.toNatClampNeg k.toNatClampNeg (defaultValue ty) z.toNatClampNeg).setTop { g with pc := g.pc + 4, stack := .ref T.heap.size :: rest }) target →
        Steps p.tables e below (T.setTop g) target := by
  subst hg
  have hpl : e.platform.magicAccessors = ({} : Platform).magicAccessors := by rw [X.admits.platform]
  obtain ⟨c1, cA, kA, hc1, hkA, hkindA, hnameA⟩ := Cond.arrayOver_specA hover
  obtain ⟨c2, c1', kB, hc2, hkB, hkindB, hnameB⟩ := Cond.arrayOver_specA hover2
  have e1 : c1' = c1 := by
    rw [hstr] at hnameB
    exact Option.some.inj (hnameB.symm.trans hc1)
  subst e1
  obtain ⟨comp', kC, cc, hcomp', hkC, hkindC⟩ := Cond.arrayClass_spec harr
  have ecomp : comp' = c2 := Option.some.inj (hcomp'.symm.trans hc2)
  subst ecomp
  obtain ⟨c0, hfc0, hcl⟩ := Cond.classLink_spec hown hclink e.platform hpl
  cases hnameA.symm.trans hfc0
  obtain ⟨hg₁, hwarm₁, hready₁⟩ := State.classEntry (e := e) X.warmed hcl
  generalize T.vm.noted g.method.cls index (.cls cA) = vm₁ at hg₁ hwarm₁ hready₁
  have hal : s.vm.Alike vm₁ := hwarm₁.alike
  obtain ⟨kA₁, hkA₁, heA⟩ := hal.2.2 _ _ hkA
  obtain ⟨kB₁, hkB₁, heB⟩ := hal.2.2 _ _ hkB
  obtain ⟨kC₁, hkC₁, heC⟩ := hal.2.2 _ _ hkC
  have hkindA₁ : kA₁.kind = .array c1' (.array (.array ty)) := by rw [heA]; exact hkindA
  have hkindB₁ : kB₁.kind = .array comp' (.array ty) := by rw [heB]; exact hkindB
  have hkindC₁ : kC₁.kind = .array cc ty := by rw [heC]; exact hkindC
  have X₁ := X.noted hwarm₁
  obtain ⟨hr1, hr2⟩ := X.roomAbove hcells hslots
  obtain ⟨locs', hlocs, XF⟩ := mv_stand3 X₁ cA c1' comp' z.toNatClampNeg n.toNatClampNeg k.toNatClampNeg (defaultValue ty) z.toNatClampNeg
  refine ⟨vm₁, cA, c1', comp', locs', hlocs, hnameA, hnameB, hc2, XF, fun target hrest => ?_⟩
  have hl0 : ¬ z.toNatClampNeg > e.platform.arrayLengthLimit := by rw [Launch.admits_arrayLengthLimit X.admits]; omega
  have hh0 : ¬ z.toNatClampNeg * componentBytes (.array (.array ty)) > e.platform.maxHeapBytes := by
    rw [Launch.admits_maxHeapBytes X.admits]; show ¬ z.toNatClampNeg * 4 > 536870912; omega
  have hl1 : ¬ n.toNatClampNeg > e.platform.arrayLengthLimit := by rw [Launch.admits_arrayLengthLimit X.admits]; omega
  have hh1 : ¬ n.toNatClampNeg * componentBytes (.array ty) > e.platform.maxHeapBytes := by
    rw [Launch.admits_maxHeapBytes X.admits]; show ¬ n.toNatClampNeg * 4 > 536870912; omega
  have hl2 : ¬ k.toNatClampNeg > e.platform.arrayLengthLimit := by rw [Launch.admits_arrayLengthLimit X.admits]; omega
  have hh2 : ¬ k.toNatClampNeg * componentBytes ty > e.platform.maxHeapBytes := by rw [Launch.admits_maxHeapBytes X.admits]; omega
  jvm_step X.here [hexec, hdg]
  simp only [multianewarray.sem, wp_bind', W.resolveClassAt_links (State.method?_setTop g X.here.top) hg₁]
  rw [W.popN, if_neg (by decide)]
  refine ⟨g, State.topJava?_setTop' (s := T.setVm vm₁) g X.here.top, [.int z, .int n, .int k], rest, rfl, hstack, ?_⟩
  simp only [List.mapM_cons, List.mapM_nil, wp_bind', wp_pure']
  refine mv_make3 (k0 := kA₁) (k1 := kB₁) (k2 := kC₁) (c1 := c1') (c2 := comp') (cc := cc) (t0 := .array (.array ty)) (t1 := .array ty) (type := ty) hkA₁ hkindA₁ rfl hkB₁ hkindB₁ rfl hkC₁ hkindC₁ hz hn hk hl0 hh0 hl1 hh1 hl2 hh2 hdf hdd (by show T.heap.size + 1 + _ ≤ _; omega) (by show T.slotsUsed + _ + _ ≤ _; omega) (fun d' acts' => ?_)
  have eS : ((T.setTop g).setVm vm₁).setTop { g with stack := rest } = (T.setVm vm₁).setTop { g with stack := rest } := by
    show ((T.setVm vm₁).setTop g).setTop _ = _
    rw [State.setTop_setTop]
  rw [eS, mv_f3_setTop]
  simp only [wp_bind', W.mark, W.pushRef, State.topJava?_setTop' _ XF.here.top, Option.some.injEq, exists_eq_left', State.setTop_setTop, State.heap_setTop]
  intro acts
  simp [jvm, XF.here.top]
  exact hrest
section MVM
variable {base : Nat} {kt dA : Nat → Nat} {D : va_G} {cl : List vw_C} {nL : Nat} {p : Program} {l : Launch} {e : Env} {R : Room} {s : State} {m : MethodId} {args : Array Value} {below : List Frame} {meth : Method} {c : Code} {Q : State → Prop} {cc : ByteArray} {G : mv_G} {y pc : Nat} {lo : List (Nat × Value)} {st : List Value} {hp : List va_E} {cb sb : Nat} {S : mv_S} {Nm : Nat → MethodName} {Ts : List Cond} {L : List FieldType}
theorem mv_inv_news {H H1 : Heap} {ls : Array Slot} {locs locs' : List Loc} {cells slots pc' n : Nat} {st' : List Value} (I : mv_inv base (mv_ad base kt) dA D cl nL R s (pc, lo, st, hp, cb, sb) H ls locs cells slots) {es : List va_E} (hc : es.length ≤ cb) (hs : n ≤ sb) (he1 : 1 ≤ es.length)
    (he : ∀ (j : Nat) (e1 : va_E), es[j]? = some e1 → va_at D cl (H.size + j, mv_e (mv_ad base kt) dA e1) H1) (z : H1.size = H.size + es.length) (oq : ∀ q : Nat, q < H.size → H1[q]? = H[q]?) (hl : ∀ q ∈ locs', base ≤ q.base) : mv_inv base (mv_ad base kt) dA D cl nL R s (pc', lo, st', hp ++ es, cb - es.length, sb - n) H1 ls locs' (cells + es.length) (slots + n) ∧ mv_ad base kt hp.length = H.size := by
  obtain ⟨i1, i2, i3, i4, i5, i6, i7⟩ := I
  dsimp only at i1 i2 i3 i4 i5 i6 i7
  have hz : mv_ad base kt hp.length = H.size := by
    rw [mv_ad, if_pos (by omega), i3]
  refine ⟨⟨i1, ?_, ?_, ⟨?_, ?_, hl⟩, ?_, ?_, ?_⟩, hz⟩
  · show va_P D cl (mv_w (mv_ad base kt) dA 0 (hp ++ es)) H1
    rw [mv_w_app]
    refine (i2.kept (fun k q hk => oq q.1 ((i2 k q hk).lt))).app (fun k q hk => ?_)
    obtain ⟨e1, h1, rfl⟩ := mv_w_of hk
    have hk2 : k < es.length := (List.getElem?_eq_some_iff.mp h1).1
    have h2 := he k e1 h1
    have h3 : mv_ad base kt (0 + hp.length + k) = H.size + k := by
      rw [mv_ad, if_pos (by omega), i3]
      omega
    rw [h3]
    exact h2
  · show H1.size = base + (hp ++ es).length
    rw [z, i3, List.length_append]
    omega
  · have := i4.1
    omega
  · intro q h1 h2
    exact (oq q (Nat.lt_of_lt_of_le h1 i4.1)).trans (i4.2.1 q h1 h2)
  · show cells + es.length + (cb - es.length) ≤ R.cells
    omega
  · show slots + n + (sb - n) ≤ R.slots
    omega
  · show (hp ++ es).length + (cb - es.length) ≤ mv_big
    rw [List.length_append]
    omega
theorem mr_multi2 (hx : p.tables.exec = Jvm.exec) (hb : c.code = cc) {own : String} (hown : s.vm.findClass own = some m.cls) (hK : va_K D cl (mv_tys dA L) s) {idx t t1 : Nat} (hdg : decode cc pc = .ok (.multianewarray idx 2, 4)) {ty : FieldType} (hty : ty = .int ∨ ty = .byte) (har : (Cond.arrayClass ty).before args s = true) (hL0 : L[t]? = some (.array ty)) (hL1 : L[t1]? = some ty) (hov : (Cond.arrayOver (.array ty)).before args s = true) (hlk : (Cond.classLink own idx ("[" ++ (FieldType.array ty).toString)).before args s = true) {k n : Int32} {r : List Value}
    (hc : ¬ n < 0 ∧ ¬ k < 0 ∧ n.toNatClampNeg ≤ 65536 ∧ k.toNatClampNeg ≤ 65536 ∧ 1 + n.toNatClampNeg ≤ cb ∧ n.toNatClampNeg + n.toNatClampNeg * k.toNatClampNeg ≤ sb)
    (kk : mv_K base (mv_ad base kt) dA D cl nL p l e R s m args below meth c Q (pc + 4, lo, .ref hp.length :: r, hp ++ mv_grid2 t t1 n.toNatClampNeg k.toNatClampNeg hp.length, cb - (1 + n.toNatClampNeg), sb - (n.toNatClampNeg + n.toNatClampNeg * k.toNatClampNeg))) : mv_K base (mv_ad base kt) dA D cl nL p l e R s m args below meth c Q (pc, lo, .int k :: .int n :: r, hp, cb, sb) := by
  intro H ls locs cells slots I T hT X
  subst hT
  obtain ⟨hn, hk, hn2, hk2, hc1, hc2⟩ := hc
  have I5 : cells + cb ≤ R.cells := I.2.2.2.2.1
  have I6 : slots + sb ≤ R.slots := I.2.2.2.2.2.1
  have hcb : componentBytes ty ≤ 4 := by rcases hty with rfl | rfl <;> decide
  have hd0 : defaultValue ty = .int 0 := by rcases hty with rfl | rfl <;> rfl
  have hb2 : k.toNatClampNeg * componentBytes ty ≤ 536870912 := Nat.le_trans (Nat.mul_le_mul hk2 hcb) (by decide)
  obtain ⟨vm₁, cA, comp, hW, hfA, hfC, -, -, X', step⟩ := X.multianewarray2F hx hown hlk hov har (g := F0 m pc ls (.int k :: .int n :: r.map (mv_v (mv_ad base kt)))) rfl (by rw [hb]; exact hdg) rfl hn hk (by omega) hb2 (by omega) (by rw [hd0]; rcases hty with rfl | rfl <;> rfl) (by rw [hd0]; rfl) (by omega) (by omega)
  obtain ⟨z0, hz0⟩ := mv_tys_mem (dA := dA) hL0
  obtain ⟨z1, hz1⟩ := mv_tys_mem (dA := dA) hL1
  have e0 := mv_RAof (hK.2 z0 _ hz0).2 hfA
  have e1 : comp = dA t1 := mv_RAof (hK.2 z1 _ hz1).2 (by rcases hty with rfl | rfl <;> exact hfC)
  subst e0
  subst e1
  obtain ⟨f1, f2, -, -⟩ := Jvm.Free.Multi.fill_facts (T.setVm vm₁) (dA t) (dA t1) n.toNatClampNeg k.toNatClampNeg (defaultValue ty) n.toNatClampNeg
  have fo := fun x (hx9 : x < T.heap.size) => Jvm.Free.Multi.fill_old (T.setVm vm₁) (dA t) (dA t1) n.toNatClampNeg k.toNatClampNeg (defaultValue ty) (a := x) hx9 n.toNatClampNeg
  have fi := Jvm.Free.Multi.fill_inner (T.setVm vm₁) (dA t) (dA t1) n.toNatClampNeg k.toNatClampNeg (defaultValue ty) n.toNatClampNeg
  generalize Jvm.Free.Multi.fill (T.setVm vm₁) (dA t) (dA t1) n.toNatClampNeg k.toNatClampNeg (defaultValue ty) n.toNatClampNeg = F at X' step f1 f2 fo fi
  have hTh : (T.setVm vm₁).heap = T.heap := rfl
  rw [hTh] at f1 f2 fi fo
  have hlen := mv_grid2_len t t1 n.toNatClampNeg k.toNatClampNeg hp.length
  have hadr : ∀ x, x < 1 + n.toNatClampNeg → mv_ad base kt (hp.length + x) = T.heap.size + x := fun x hx9 => by
    have h7 : hp.length + cb ≤ mv_big := I.2.2.2.2.2.2
    have h3 : T.heap.size = base + hp.length := I.2.2.1
    rw [mv_ad, if_pos (by omega), h3]
    omega
  obtain ⟨I', hz⟩ := mv_inv_news (pc' := pc + 4) (st' := .ref hp.length :: r) (H1 := F.heap) (locs' := locs) (n := n.toNatClampNeg + n.toNatClampNeg * k.toNatClampNeg) I (es := mv_grid2 t t1 n.toNatClampNeg k.toNatClampNeg hp.length) (by rw [hlen]; exact hc1) hc2 (by rw [hlen]; omega) (fun j e2 hj => by
      rcases mv_grid2_at hj with ⟨rfl, rfl⟩ | ⟨x, hx9, rfl, rfl⟩
      · refine mv_outer_cell (h0 := T.heap.size) ?_ (fun i hi => ?_)
        · rw [Nat.add_zero, f2, mv_outer1]
        · rw [show hp.length + 1 + i * 1 = hp.length + (1 + i) by omega, hadr (1 + i) (by omega)]
          omega
      · refine mv_inner_cell hd0 ?_
        rw [show T.heap.size + (x + 1) = T.heap.size + 1 + x by omega]
        exact fi x hx9) (by rw [f1, hlen]; omega) (fun q hq => fo q hq) I.2.2.2.1.2.2
  rw [hlen] at I'
  have hk9 := kk F.heap ls locs (cells + (1 + n.toNatClampNeg)) (slots + (n.toNatClampNeg + n.toNatClampNeg * k.toNatClampNeg)) I'
  rw [← Nat.add_assoc, ← Nat.add_assoc] at hk9
  obtain ⟨t9, a1, b1⟩ := hk9 F rfl X'
  refine ⟨t9, step t9 ?_, b1⟩
  have e3 : (Value.ref hp.length :: r).map (mv_v (mv_ad base kt)) = .ref T.heap.size :: r.map (mv_v (mv_ad base kt)) := by
    rw [List.map_cons]
    show Value.ref (mv_ad base kt hp.length) :: _ = _
    rw [hz]
  dsimp only at a1
  rw [e3] at a1
  exact a1
theorem mr_multi3 (hx : p.tables.exec = Jvm.exec) (hb : c.code = cc) {own : String} (hown : s.vm.findClass own = some m.cls) (hK : va_K D cl (mv_tys dA L) s) {idx t t1 t2 : Nat} (hdg : decode cc pc = .ok (.multianewarray idx 3, 4)) {ty : FieldType} (hty : ty = .int ∨ ty = .byte) (har : (Cond.arrayClass ty).before args s = true) (hL0 : L[t]? = some (.array (.array ty))) (hL1 : L[t1]? = some (.array ty)) (hL2 : L[t2]? = some ty) (hov : (Cond.arrayOver (.array (.array ty))).before args s = true) (hov2 : (Cond.arrayOver (.array ty)).before args s = true) (hlk : (Cond.classLink own idx ("[" ++ (FieldType.array (.array ty)).toString)).before args s = true) {k n z : Int32} {r : List Value}
    (hc : ¬ z < 0 ∧ ¬ n < 0 ∧ ¬ k < 0 ∧ z.toNatClampNeg ≤ 65536 ∧ n.toNatClampNeg ≤ 65536 ∧ k.toNatClampNeg ≤ 65536 ∧ 1 + z.toNatClampNeg * (n.toNatClampNeg + 1) ≤ cb ∧ z.toNatClampNeg + z.toNatClampNeg * (n.toNatClampNeg + n.toNatClampNeg * k.toNatClampNeg) ≤ sb)
    (kk : mv_K base (mv_ad base kt) dA D cl nL p l e R s m args below meth c Q (pc + 4, lo, .ref hp.length :: r, hp ++ mv_grid3 t t1 t2 z.toNatClampNeg n.toNatClampNeg k.toNatClampNeg hp.length, cb - (1 + z.toNatClampNeg * (n.toNatClampNeg + 1)), sb - (z.toNatClampNeg + z.toNatClampNeg * (n.toNatClampNeg + n.toNatClampNeg * k.toNatClampNeg)))) : mv_K base (mv_ad base kt) dA D cl nL p l e R s m args below meth c Q (pc, lo, .int k :: .int n :: .int z :: r, hp, cb, sb) := by
  intro H ls locs cells slots I T hT X
  subst hT
  obtain ⟨hz, hn, hk, hz2, hn2, hk2, hc1, hc2⟩ := hc
  have I5 : cells + cb ≤ R.cells := I.2.2.2.2.1
  have I6 : slots + sb ≤ R.slots := I.2.2.2.2.2.1
  have hcb : componentBytes ty ≤ 4 := by rcases hty with rfl | rfl <;> decide
  have hd0 : defaultValue ty = .int 0 := by rcases hty with rfl | rfl <;> rfl
  have hb2 : k.toNatClampNeg * componentBytes ty ≤ 536870912 := Nat.le_trans (Nat.mul_le_mul hk2 hcb) (by decide)
  obtain ⟨vm₁, cA, c1, c2, locs', hlocs, hfA, hfB, hfC, X', step⟩ := mv_multianewarray3 X hx hown hlk hov hov2 har (by rcases hty with rfl | rfl <;> rfl) (g := F0 m pc ls (.int k :: .int n :: .int z :: r.map (mv_v (mv_ad base kt)))) rfl (by rw [hb]; exact hdg) rfl hz hn hk (by omega) (by omega) hb2 (by omega) (by rw [hd0]; rcases hty with rfl | rfl <;> rfl) (by rw [hd0]; rfl) (by omega) (by omega)
  obtain ⟨z0, hz0⟩ := mv_tys_mem (dA := dA) hL0
  obtain ⟨z1, hz1⟩ := mv_tys_mem (dA := dA) hL1
  obtain ⟨z3, hz3⟩ := mv_tys_mem (dA := dA) hL2
  have e0 := mv_RAof (hK.2 z0 _ hz0).2 hfA
  have e1 := mv_RAof (hK.2 z1 _ hz1).2 hfB
  have e2 : c2 = dA t2 := mv_RAof (hK.2 z3 _ hz3).2 (by rcases hty with rfl | rfl <;> exact hfC)
  subst e0
  subst e1
  subst e2
  have ff := (mv_f3_facts (T.setVm vm₁) (dA t) (dA t1) (dA t2) z.toNatClampNeg n.toNatClampNeg k.toNatClampNeg (defaultValue ty) z.toNatClampNeg)
  have fo := fun x (hx9 : x < T.heap.size) => mv_f3_old (T.setVm vm₁) (dA t) (dA t1) (dA t2) z.toNatClampNeg n.toNatClampNeg k.toNatClampNeg (defaultValue ty) (a := x) hx9 z.toNatClampNeg
  have fi := mv_f3_rows (T.setVm vm₁) (dA t) (dA t1) (dA t2) z.toNatClampNeg n.toNatClampNeg k.toNatClampNeg (defaultValue ty) z.toNatClampNeg
  obtain ⟨f1, f2, -, -⟩ := ff
  generalize mv_f3 (T.setVm vm₁) (dA t) (dA t1) (dA t2) z.toNatClampNeg n.toNatClampNeg k.toNatClampNeg (defaultValue ty) z.toNatClampNeg = F at X' step f1 f2 fo fi
  have hTh : (T.setVm vm₁).heap = T.heap := rfl
  rw [hTh] at f1 f2 fi fo
  have hlen : (mv_grid3 t t1 t2 z.toNatClampNeg n.toNatClampNeg k.toNatClampNeg hp.length).length = 1 + z.toNatClampNeg * (n.toNatClampNeg + 1) := by
    unfold mv_grid3
    rw [List.length_cons, mv_blocks_len]
    omega
  have hadr : ∀ x, x < 1 + z.toNatClampNeg * (n.toNatClampNeg + 1) → mv_ad base kt (hp.length + x) = T.heap.size + x := fun x hx9 => by
    have h7 : hp.length + cb ≤ mv_big := I.2.2.2.2.2.2
    have h3 : T.heap.size = base + hp.length := I.2.2.1
    rw [mv_ad, if_pos (by omega), h3]
    omega
  have hmul : ∀ i, i < z.toNatClampNeg → i * (n.toNatClampNeg + 1) + (n.toNatClampNeg + 1) ≤ z.toNatClampNeg * (n.toNatClampNeg + 1) := fun i hi => by
    have := Nat.mul_le_mul_right (n.toNatClampNeg + 1) (show i + 1 ≤ z.toNatClampNeg from hi)
    rw [Nat.succ_mul] at this
    exact this
  obtain ⟨I', hz⟩ := mv_inv_news (pc' := pc + 4) (st' := .ref hp.length :: r) (H1 := F.heap) (locs' := locs') (n := z.toNatClampNeg + z.toNatClampNeg * (n.toNatClampNeg + n.toNatClampNeg * k.toNatClampNeg)) I (es := mv_grid3 t t1 t2 z.toNatClampNeg n.toNatClampNeg k.toNatClampNeg hp.length) (by rw [hlen]; exact hc1) hc2 (by rw [hlen]; omega) (fun j e2 hj => by
      cases j with
      | zero =>
        cases hj
        refine mv_outer_cell (h0 := T.heap.size) ?_ (fun i hi => ?_)
        · rw [Nat.add_zero, f2]
        · have := hmul i hi
          rw [show hp.length + 1 + i * (n.toNatClampNeg + 1) = hp.length + (1 + i * (n.toNatClampNeg + 1)) by omega, hadr _ (by omega)]
          omega
      | succ x =>
        have hj2 : (mv_blocks t1 t2 n.toNatClampNeg k.toNatClampNeg (hp.length + 1) z.toNatClampNeg)[x]? = some e2 := by
          unfold mv_grid3 at hj
          rw [List.getElem?_cons_succ] at hj
          exact hj
        obtain ⟨i, r9, hi, rfl, h9⟩ := mv_blocks_at _ _ _ _ _ _ _ _ hj2
        have hmi := hmul i hi
        obtain ⟨g1, g2⟩ := fi i hi
        rcases mv_grid2_at h9 with ⟨rfl, rfl⟩ | ⟨x, hx9, rfl, rfl⟩
        · refine mv_outer_cell (h0 := T.heap.size + 1 + i * (n.toNatClampNeg + 1)) ?_ (fun i9 hi9 => ?_)
          · rw [show T.heap.size + (i * (n.toNatClampNeg + 1) + 0 + 1) = T.heap.size + 1 + i * (n.toNatClampNeg + 1) by omega]
            exact g1
          · rw [show hp.length + 1 + i * (n.toNatClampNeg + 1) + 1 + i9 * 1 = hp.length + (1 + i * (n.toNatClampNeg + 1) + 1 + i9) by omega, hadr _ (by omega)]
            omega
        · refine mv_inner_cell hd0 ?_
          rw [show T.heap.size + (i * (n.toNatClampNeg + 1) + (x + 1) + 1) = T.heap.size + 1 + i * (n.toNatClampNeg + 1) + 1 + x by omega]
          exact g2 x hx9) (by rw [f1, hlen]; omega) (fun q hq => fo q hq) (fun q hq => by
      rcases hlocs q hq with h9 | h9
      · exact I.2.2.2.1.2.2 q h9
      · have h3 : T.heap.size = base + hp.length := I.2.2.1
        show base ≤ q.base
        have h8 : T.heap.size ≤ q.base := h9
        omega)
  rw [hlen] at I'
  have hk9 := kk F.heap ls locs' (cells + (1 + z.toNatClampNeg * (n.toNatClampNeg + 1))) (slots + (z.toNatClampNeg + z.toNatClampNeg * (n.toNatClampNeg + n.toNatClampNeg * k.toNatClampNeg))) I'
  rw [← Nat.add_assoc, ← Nat.add_assoc] at hk9
  obtain ⟨t9, a1, b1⟩ := hk9 F rfl X'
  refine ⟨t9, step t9 ?_, b1⟩
  have e3 : (Value.ref hp.length :: r).map (mv_v (mv_ad base kt)) = .ref T.heap.size :: r.map (mv_v (mv_ad base kt)) := by
    rw [List.map_cons]
    show Value.ref (mv_ad base kt hp.length) :: _ = _
    rw [hz]
  dsimp only at a1
  rw [e3] at a1
  exact a1
theorem mr_multi (hx : p.tables.exec = Jvm.exec) (hb : c.code = cc) (hts : ∀ w ∈ Ts, w.before args s = true) {own : String} (hown : s.vm.findClass own = some m.cls) (hK : va_K D cl (mv_tys dA L) s) {idx d : Nat} (hdg : decode cc pc = .ok (.multianewarray idx d, 4)) (hok : ∀ t t1 t2, mv_gM G y idx = some (t, t1, t2) → mv_okGr L Ts own idx t t1 t2)
    (h : mv_multi G y pc lo st hp cb sb idx d = some (.inl S)) (k : mv_K base (mv_ad base kt) dA D cl nL p l e R s m args below meth c Q S) : mv_K base (mv_ad base kt) dA D cl nL p l e R s m args below meth c Q (pc, lo, st, hp, cb, sb) := by
  unfold mv_multi at h
  split at h
  · rename_i t t1 t2 hM
    obtain ⟨ty, hty, har, hg⟩ := hok _ _ _ hM
    split at h
    · rename_i k0 n r
      split at h
      · rename_i hd
        subst hd
        split at h
        · rename_i hc
          cases h
          rcases hg with ⟨-, g1, g2, g3, g4⟩ | ⟨g0, -⟩
          · exact mr_multi2 hx hb hown hK hdg hty (hts _ har) g1 g2 (hts _ g3) (hts _ g4) hc.2 k
          · omega
        · cases h
      · split at h
        · rename_i z r0
          split at h
          · rename_i hc
            obtain ⟨rfl, hc⟩ := hc
            cases h
            rcases hg with ⟨g0, -⟩ | ⟨-, g1, g2, g3, g4, g5, g6⟩
            · omega
            · exact mr_multi3 hx hb hown hK hdg hty (hts _ har) g1 g2 g3 (hts _ g4) (hts _ g5) (hts _ g6) hc.2 k
          · cases h
        · cases h
    · cases h
  · cases h
end MVM
