/-! the small machine: fields and arrays -/
section
variable (G : mv_G) (y pc : Nat) (l : List (Nat × Value)) (st : List Value) (hp : List va_E) (cb sb : Nat)
def mv_get (idx : Nat) : Option mv_R := match st with
  | .ref a :: r => match hp[a]?, mv_gF G y idx with
    | some (.inr (ci, fs)), some (cj, k) => if ci = cj then match fs[k]? with
        | some v => some (.inl (pc + 3, l, v :: r, hp, cb, sb))
        | none => none
      else none
    | _, _ => none
  | _ => none
def mv_put (idx : Nat) : Option mv_R := match st with
  | v :: .ref a :: r => match hp[a]?, mv_gF G y idx with
    | some (.inr (ci, fs)), some (cj, k) => match mv_gT G cj k with
      | some ty => if ci = cj ∧ narrow ty v = v ∧ fits ty v = true ∧ k < fs.length ∧ (mv_gP G cj k = true → mv_gQ G y cj = true) then some (.inl (pc + 3, l, r, hp.set a (.inr (ci, fs.set k v)), cb, sb)) else none
      | none => none
    | _, _ => none
  | _ => none
def mv_new (idx : Nat) : Option mv_R := match mv_gN G y idx with
  | some ci => if 1 ≤ cb ∧ mv_gZ G ci ≤ sb then some (.inl (pc + 3, l, .ref hp.length :: st, hp ++ [.inr (ci, mv_gD G ci)], cb - 1, sb - mv_gZ G ci)) else none
  | none => none
def mv_prim : ArrayType → Option Nat
  | .int => some 0
  | .byte => some 1
  | .boolean => some 2
  | _ => none
def mv_newa (at_ : ArrayType) : Option mv_R := match st with
  | .int n :: r => match mv_prim at_ with
    | some t => if ¬ n < 0 ∧ n.toNatClampNeg ≤ 134217728 ∧ 1 ≤ cb ∧ n.toNatClampNeg ≤ sb then some (.inl (pc + 2, l, .ref hp.length :: r, hp ++ [.inl (t, n.toNatClampNeg, .inl (fun _ => 0))], cb - 1, sb - n.toNatClampNeg)) else none
    | none => none
  | _ => none
def mv_anew (idx : Nat) : Option mv_R := match st with
  | .int n :: r => match mv_gA G y idx with
    | some t => if ¬ n < 0 ∧ n.toNatClampNeg ≤ 134217728 ∧ 1 ≤ cb ∧ n.toNatClampNeg ≤ sb then some (.inl (pc + 3, l, .ref hp.length :: r, hp ++ [.inl (t, n.toNatClampNeg, .inr (.inr (.inr (.inr (fun _ => none)))))], cb - 1, sb - n.toNatClampNeg)) else none
    | none => none
  | _ => none
def mv_out (i : Int32) (n : Nat) : Bool := decide (i < 0 ∨ n ≤ i.toNatClampNeg)
def mv_iald : Option mv_R := match st with
  | .int i :: .ref a :: r => match hp[a]? with
    | some (.inl (0, n, .inl f)) => if mv_out i n = true then none else some (.inl (pc + 1, l, .int (f i.toNatClampNeg) :: r, hp, cb, sb))
    | _ => none
  | _ => none
def mv_bald : Option mv_R := match st with
  | .int i :: .ref a :: r => match hp[a]? with
    | some (.inl (t, n, .inl f)) => if (t = 1 ∨ t = 2) ∧ mv_out i n = false then some (.inl (pc + 1, l, .int (f i.toNatClampNeg) :: r, hp, cb, sb)) else none
    | _ => none
  | _ => none
def mv_aald : Option mv_R := match st with
  | .int i :: .ref a :: r => match hp[a]? with
    | some (.inl (t, n, .inr (.inr (.inr (.inr g))))) => match mv_gY G t with
      | some ty => if ty.isReference = true ∧ mv_out i n = false then some (.inl (pc + 1, l, va_rf (g i.toNatClampNeg) :: r, hp, cb, sb)) else none
      | none => none
    | _ => none
  | _ => none
def mv_iast : Option mv_R := match st with
  | .int x :: .int i :: .ref a :: r => match hp[a]? with
    | some (.inl (0, n, .inl f)) => if mv_out i n = true then none else some (.inl (pc + 1, l, r, hp.set a (.inl (0, n, .inl (upd f i.toNatClampNeg x))), cb, sb))
    | _ => none
  | _ => none
def mv_bast : Option mv_R := match st with
  | .int x :: .int i :: .ref a :: r => match hp[a]? with
    | some (.inl (t, n, .inl f)) => if mv_out i n = false then
        if t = 1 then some (.inl (pc + 1, l, r, hp.set a (.inl (t, n, .inl (upd f i.toNatClampNeg (vp_nar .byte x)))), cb, sb))
        else if t = 2 then some (.inl (pc + 1, l, r, hp.set a (.inl (t, n, .inl (upd f i.toNatClampNeg (vp_nar .boolean x)))), cb, sb)) else none
      else none
    | _ => none
  | _ => none
def mv_alen : Option mv_R := match st with
  | .ref a :: r => match hp[a]? with
    | some (.inl (t, n, _)) => match mv_gY G t with
      | some _ => some (.inl (pc + 1, l, .int (Int32.ofNat n) :: r, hp, cb, sb))
      | none => none
    | _ => none
  | _ => none
end
/-! rows of it -/
def mv_tys (dA : Nat → Nat) (L : List FieldType) : List (ClassId × FieldType) := (List.range L.length).filterMap (fun t => (L[t]?).map (fun ty => (dA t, ty)))
theorem mv_tys_mem {dA : Nat → Nat} {L : List FieldType} {t : Nat} {ty : FieldType} (h : L[t]? = some ty) : ∃ k : Nat, (mv_tys dA L)[k]? = some (dA t, ty) := by
  have : (dA t, ty) ∈ mv_tys dA L := List.mem_filterMap.mpr ⟨t, List.mem_range.mpr (List.getElem?_eq_some_iff.mp h).1, by rw [h]; rfl⟩
  exact List.mem_iff_getElem?.mp this
theorem mv_D {base : Nat} {kt dA : Nat → Nat} {hp : List va_E} (h : hp.length ≤ mv_big) : va_D (fun q => base ≤ q) (mv_w (mv_ad base kt) dA 0 hp) := by
  have key : ∀ (i : Nat) (q : Nat × va_E), (mv_w (mv_ad base kt) dA 0 hp)[i]? = some q → q.1 = base + i := by
    intro i q hq
    obtain ⟨e, he, rfl⟩ := mv_w_of hq
    have hi : i < hp.length := (List.getElem?_eq_some_iff.mp he).1
    show mv_ad base kt (0 + i) = base + i
    rw [Nat.zero_add, mv_ad, if_pos (by omega)]
  refine ⟨fun i j a b hi hj hab => ?_, fun k q hk => ?_⟩
  · have h1 := key i a hi
    have h2 := key j b hj
    omega
  · have h1 := key k q hk
    show base ≤ q.1
    omega
section MVH
variable {base : Nat} {kt dA : Nat → Nat} {D : va_G} {cl : List vw_C} {nL : Nat} {p : Program} {l : Launch} {e : Env} {R : Room} {s : State} {m : MethodId} {args : Array Value} {below : List Frame} {meth : Method} {c : Code} {Q : State → Prop} {cc : ByteArray} {G : mv_G} {y pc : Nat} {lo : List (Nat × Value)} {st : List Value} {hp : List va_E} {cb sb : Nat} {S : mv_S}
theorem mv_inv_at {H : Heap} {ls : Array Slot} {locs : List Loc} {cells slots : Nat} (I : mv_inv base (mv_ad base kt) dA D cl nL R s (pc, lo, st, hp, cb, sb) H ls locs cells slots) {a : Nat} {e0 : va_E} (h : hp[a]? = some e0) : va_at D cl (mv_ad base kt a, mv_e (mv_ad base kt) dA e0) H ∧ mv_ad base kt a = base + a ∧ a < hp.length := by
  have h1 := I.2.1 a _ (mv_w_at (ad := mv_ad base kt) (dA := dA) hp 0 a e0 h)
  rw [Nat.zero_add] at h1
  have hl : a < hp.length := (List.getElem?_eq_some_iff.mp h).1
  have h7 : hp.length + cb ≤ mv_big := I.2.2.2.2.2.2
  refine ⟨h1, ?_, hl⟩
  rw [mv_ad, if_pos (by omega)]
theorem mv_inv_put {H H1 : Heap} {ls : Array Slot} {locs : List Loc} {cells slots pc' : Nat} {st' : List Value} (I : mv_inv base (mv_ad base kt) dA D cl nL R s (pc, lo, st, hp, cb, sb) H ls locs cells slots) {a k : Nat} {e0 e1 : va_E} (h : hp[a]? = some e0)
    (he : va_at D cl (mv_ad base kt a, mv_e (mv_ad base kt) dA e1) H1) (z : H1.size = H.size) (oq : ∀ q : Nat, q ≠ mv_ad base kt a → H1[q]? = H[q]?) : mv_inv base (mv_ad base kt) dA D cl nL R s (pc', lo, st', hp.set a e1, cb, sb) H1 ls (locs ++ [⟨mv_ad base kt a, k⟩]) cells slots := by
  obtain ⟨-, ha, hal⟩ := mv_inv_at I h
  obtain ⟨i1, i2, i3, i4, i5, i6, i7⟩ := I
  dsimp only at i1 i2 i3 i4 i5 i6 i7
  have hD := mv_D (base := base) (kt := kt) (dA := dA) (hp := hp) (by omega)
  have hw := mv_w_at (ad := mv_ad base kt) (dA := dA) hp 0 a e0 h
  refine ⟨i1, ?_, ?_, ?_, i5, i6, ?_⟩
  · show va_P D cl (mv_w (mv_ad base kt) dA 0 (hp.set a e1)) H1
    rw [← mv_w_set]
    rw [Nat.zero_add] at hw ⊢
    exact i2.set hD hw he oq
  · show H1.size = base + (hp.set a e1).length
    rw [List.length_set, z, i3]
  · exact i4.put z oq (by show base ≤ _; rw [ha]; omega)
  · show (hp.set a e1).length + cb ≤ mv_big
    rw [List.length_set]
    exact i7
theorem mv_inv_new {H H1 : Heap} {ls : Array Slot} {locs : List Loc} {cells slots pc' n : Nat} {st' : List Value} (I : mv_inv base (mv_ad base kt) dA D cl nL R s (pc, lo, st, hp, cb, sb) H ls locs cells slots) {e1 : va_E} (hc : 1 ≤ cb) (hs : n ≤ sb)
    (he : va_at D cl (H.size, mv_e (mv_ad base kt) dA e1) H1) (z : H1.size = H.size + 1) (oq : ∀ q : Nat, q < H.size → H1[q]? = H[q]?) : mv_inv base (mv_ad base kt) dA D cl nL R s (pc', lo, st', hp ++ [e1], cb - 1, sb - n) H1 ls locs (cells + 1) (slots + n) ∧ mv_ad base kt hp.length = H.size := by
  obtain ⟨i1, i2, i3, i4, i5, i6, i7⟩ := I
  dsimp only at i1 i2 i3 i4 i5 i6 i7
  have hz : mv_ad base kt hp.length = H.size := by
    rw [mv_ad, if_pos (by omega), i3]
  refine ⟨⟨i1, ?_, ?_, ⟨?_, ?_, i4.2.2⟩, ?_, ?_, ?_⟩, hz⟩
  · show va_P D cl (mv_w (mv_ad base kt) dA 0 (hp ++ [e1])) H1
    rw [mv_w_app]
    refine (i2.kept (fun k q hk => oq q.1 ((i2 k q hk).lt))).app (fun k q hk => ?_)
    have hz0 : k < 1 := (List.getElem?_eq_some_iff.mp hk).1
    rw [show k = 0 by omega] at hk
    cases hk
    show va_at D cl (mv_ad base kt (0 + hp.length), _) H1
    rw [Nat.zero_add, hz]
    exact he
  · show H1.size = base + (hp ++ [e1]).length
    rw [z, i3, List.length_append]
    rfl
  · have := i4.1
    omega
  · intro q h1 h2
    exact (oq q (Nat.lt_of_lt_of_le h1 i4.1)).trans (i4.2.1 q h1 h2)
  · show cells + 1 + (cb - 1) ≤ R.cells
    omega
  · show slots + n + (sb - n) ≤ R.slots
    omega
  · show (hp ++ [e1]).length + (cb - 1) ≤ mv_big
    rw [List.length_append]
    show hp.length + 1 + _ ≤ _
    omega
/-- what a field's constant pool number means -/
def mv_okF (cl : List vw_C) (Ts : List Cond) (own : String) (idx ci k : Nat) : Prop := ∃ (C : String) (T : u_T) (N : Nat), cl[ci]? = some (C, T, N) ∧ k < N ∧ (∀ w ∈ u_ws C T N, w ∈ Ts) ∧ (Cond.fieldLink own idx (T k).1 (T k).2.1 (T k).2.2.1 ∈ Ts ∨ ∃ host : String, Cond.fieldLinkNest own idx (T k).1 (T k).2.1 (T k).2.2.1 host ∈ Ts)
theorem mr_get (hx : p.tables.exec = Jvm.exec) (hb : c.code = cc) {Ts : List Cond} (hts : ∀ w ∈ Ts, w.before args s = true) {own : String} (hown : s.vm.findClass own = some m.cls) {tys : List (ClassId × FieldType)} (hK : va_K D cl tys s) {idx : Nat} (hdg : decode cc pc = .ok (.getfield idx, 3)) (hok : ∀ ci k, mv_gF G y idx = some (ci, k) → mv_okF cl Ts own idx ci k)
    (h : mv_get G y pc lo st hp cb sb idx = some (.inl S)) (k : mv_K base (mv_ad base kt) dA D cl nL p l e R s m args below meth c Q S) : mv_K base (mv_ad base kt) dA D cl nL p l e R s m args below meth c Q (pc, lo, st, hp, cb, sb) := by
  intro H ls locs cells slots I
  unfold mv_get at h
  split at h
  · rename_i a r
    split at h
    · rename_i ci fs cj k0 he hf
      split at h
      · rename_i hc
        subst hc
        split at h
        · rename_i v hv
          cases h
          obtain ⟨C, T, N, h1, h2, h3, h4⟩ := hok _ _ hf
          have hw := mv_w_at (ad := mv_ad base kt) (dA := dA) hp 0 a _ he
          rw [Nat.zero_add] at hw
          have hv' : (fs.map (mv_v (mv_ad base kt)))[k0]? = some (mv_v (mv_ad base kt) v) := by rw [List.getElem?_map, hv]; rfl
          rcases h4 with h4 | ⟨host, h4⟩
          · exact va_get hx hb hts h3 hown hK I.2.1 a hw h1 k0 h2 (hts _ h4) (fun _ h => h) hv' hdg (k H ls locs cells slots I)
          · exact va_getN hx hb hts h3 hown hK I.2.1 a hw h1 k0 h2 (hts _ h4) (fun _ h => h) hv' hdg (k H ls locs cells slots I)
        · cases h
      · cases h
    · cases h
  · cases h
theorem mr_iald (hx : p.tables.exec = Jvm.exec) (hb : c.code = cc) {L : List FieldType} (hK : va_K D cl (mv_tys dA L) s) (h0 : L[0]? = some .int) (hdg : decode cc pc = .ok (.iaload, 1))
    (h : mv_iald pc lo st hp cb sb = some (.inl S)) (k : mv_K base (mv_ad base kt) dA D cl nL p l e R s m args below meth c Q S) : mv_K base (mv_ad base kt) dA D cl nL p l e R s m args below meth c Q (pc, lo, st, hp, cb, sb) := by
  intro H ls locs cells slots I
  unfold mv_iald at h
  split at h
  · rename_i i a r
    split at h
    · rename_i n f he
      split at h
      · cases h
      · rename_i ho
        cases h
        have hw := mv_w_at (ad := mv_ad base kt) (dA := dA) hp 0 a _ he
        rw [Nat.zero_add] at hw
        obtain ⟨t0, ht0⟩ := mv_tys_mem (dA := dA) h0
        exact va_iald hx hb hK I.2.1 a t0 hw ht0 (fun q => ho (decide_eq_true q)) hdg (k H ls locs cells slots I)
    · cases h
  · cases h
theorem mr_bald (hx : p.tables.exec = Jvm.exec) (hb : c.code = cc) {L : List FieldType} (hK : va_K D cl (mv_tys dA L) s) (h1 : L[1]? = some .byte) (h2 : L[2]? = some .boolean) (hdg : decode cc pc = .ok (.baload, 1))
    (h : mv_bald pc lo st hp cb sb = some (.inl S)) (k : mv_K base (mv_ad base kt) dA D cl nL p l e R s m args below meth c Q S) : mv_K base (mv_ad base kt) dA D cl nL p l e R s m args below meth c Q (pc, lo, st, hp, cb, sb) := by
  intro H ls locs cells slots I
  unfold mv_bald at h
  split at h
  · rename_i i a r
    split at h
    · rename_i t n f he
      split at h
      · rename_i ho
        cases h
        have hw := mv_w_at (ad := mv_ad base kt) (dA := dA) hp 0 a _ he
        rw [Nat.zero_add] at hw
        obtain ⟨hq, ho⟩ := ho
        rcases hq with rfl | rfl
        · obtain ⟨t0, ht0⟩ := mv_tys_mem (dA := dA) h1
          exact va_bald hx hb hK I.2.1 a t0 hw ht0 (fun q => of_decide_eq_false ho q) hdg (k H ls locs cells slots I)
        · obtain ⟨t0, ht0⟩ := mv_tys_mem (dA := dA) h2
          exact va_zald hx hb hK I.2.1 a t0 hw ht0 (fun q => of_decide_eq_false ho q) hdg (k H ls locs cells slots I)
      · cases h
    · cases h
  · cases h
theorem mv_v_rf (ad : Nat → Nat) (o : Option Nat) : mv_v ad (va_rf o) = va_rf (o.map ad) := by cases o <;> rfl
theorem mr_aald (hx : p.tables.exec = Jvm.exec) (hb : c.code = cc) {L : List FieldType} (hK : va_K D cl (mv_tys dA L) s) (hY : ∀ t ty, mv_gY G t = some ty → L[t]? = some ty) (hdg : decode cc pc = .ok (.aaload, 1))
    (h : mv_aald G pc lo st hp cb sb = some (.inl S)) (k : mv_K base (mv_ad base kt) dA D cl nL p l e R s m args below meth c Q S) : mv_K base (mv_ad base kt) dA D cl nL p l e R s m args below meth c Q (pc, lo, st, hp, cb, sb) := by
  intro H ls locs cells slots I
  unfold mv_aald at h
  split at h
  · rename_i i a r
    split at h
    · rename_i t n g he
      split at h
      · rename_i ty hty
        split at h
        · rename_i ho
          cases h
          obtain ⟨hr, ho⟩ := ho
          have hin := of_decide_eq_false ho
          obtain ⟨t0, ht0⟩ := mv_tys_mem (dA := dA) (hY _ _ hty)
          obtain ⟨hat, -, -⟩ := mv_inv_at I he
          have hlt : i.toNatClampNeg < n := Nat.not_le.mp fun q => hin (Or.inr q)
          have hk := k H ls locs cells slots I
          refine W.aald (v := va_rf ((g i.toNatClampNeg).map (mv_ad base kt))) (ty := ty) hx hb hat ((hK.2 t0 _ ht0).1 n (fun j => va_rf ((g j).map (mv_ad base kt)))) hr (fun q => by cases q) (by show ¬ (i < 0 ∨ (arrV _ _ _).slots.size ≤ _); rw [arrV_size]; exact hin) (by show (arrV _ _ _).slots[_]? = _; rw [arrV_read _ _ hlt]) rfl rfl hdg ?_
          have e1 : (va_rf (g i.toNatClampNeg) :: r).map (mv_v (mv_ad base kt)) = va_rf ((g i.toNatClampNeg).map (mv_ad base kt)) :: r.map (mv_v (mv_ad base kt)) := by rw [List.map_cons, mv_v_rf]
          dsimp only at hk
          rw [e1] at hk
          exact hk
        · cases h
      · cases h
    · cases h
  · cases h
theorem mr_alen (hx : p.tables.exec = Jvm.exec) (hb : c.code = cc) {L : List FieldType} (hK : va_K D cl (mv_tys dA L) s) (hY : ∀ t ty, mv_gY G t = some ty → L[t]? = some ty) (hdg : decode cc pc = .ok (.arraylength, 1))
    (h : mv_alen G pc lo st hp cb sb = some (.inl S)) (k : mv_K base (mv_ad base kt) dA D cl nL p l e R s m args below meth c Q S) : mv_K base (mv_ad base kt) dA D cl nL p l e R s m args below meth c Q (pc, lo, st, hp, cb, sb) := by
  intro H ls locs cells slots I
  unfold mv_alen at h
  split at h
  · rename_i a r
    split at h
    · rename_i t n z he
      split at h
      · rename_i ty hty
        cases h
        obtain ⟨t0, ht0⟩ := mv_tys_mem (dA := dA) (hY _ _ hty)
        have hw := mv_w_at (ad := mv_ad base kt) (dA := dA) hp 0 a _ he
        rw [Nat.zero_add] at hw
        rcases z with z | z | z | z | z <;> exact va_alen hx hb hK I.2.1 a t0 hw ht0 rfl hdg (k H ls locs cells slots I)
      · cases h
    · cases h
  · cases h
end MVH
