/-! the small machine: constants; stores of references; the premises on the tables -/
section
variable (G : mv_G) (y pc : Nat) (l : List (Nat × Value)) (st : List Value) (hp : List va_E) (cb sb : Nat)
def mv_ldc (idx len : Nat) : Option mv_R := match mv_gK G y idx with
  | some (.int v) => some (.inl (pc + len, l, .int v :: st, hp, cb, sb))
  | some (.ref a) => some (.inl (pc + len, l, .ref a :: st, hp, cb, sb))
  | _ => none
def mv_aast : Option mv_R := match st with
  | v :: .int i :: .ref a :: r => match hp[a]? with
    | some (.inl (t, n, .inr (.inr (.inr (.inr g))))) => match mv_gE G t with
      | some ci => if mv_out i n = false then match v with
          | .null => some (.inl (pc + 1, l, r, hp.set a (.inl (t, n, .inr (.inr (.inr (.inr (va_up g i.toNatClampNeg none)))))), cb, sb))
          | .ref b => match hp[b]? with
            | some (.inr (cj, _)) => if cj = ci then some (.inl (pc + 1, l, r, hp.set a (.inl (t, n, .inr (.inr (.inr (.inr (va_up g i.toNatClampNeg (some b))))))), cb, sb)) else none
            | _ => none
          | _ => none
        else none
      | none => none
    | _ => none
  | _ => none
end
/-- the types of arrays -/
def mv_okL (L : List FieldType) (Ts : List Cond) (G : mv_G) : Prop := L[0]? = some .int ∧ L[1]? = some .byte ∧ L[2]? = some .boolean ∧ Cond.arrayClass .int ∈ Ts ∧ Cond.arrayClass .byte ∈ Ts ∧ Cond.arrayClass .boolean ∈ Ts ∧ (∀ t ty, mv_gY G t = some ty → L[t]? = some ty) ∧ ∀ t t2, mv_gB G t = some t2 → ∃ ty : FieldType, (ty = .byte ∨ ty = .array .byte) ∧ L[t]? = some (.array ty) ∧ L[t2]? = some ty ∧ Cond.arrayOver (.array ty) ∈ Ts
/-- the class of the places of an array of objects -/
def mv_okE (cl : List vw_C) (L : List FieldType) (G : mv_G) : Prop := ∀ t ci, mv_gE G t = some ci → ∃ (C : String) (T : u_T) (N : Nat), cl[ci]? = some (C, T, N) ∧ L[t]? = some (.object C)
/-- constants of text, as a state has them -/
def mv_okT (Nm : Nat → MethodName) (G : mv_G) (kt : Nat → Nat) (s : State) (y : Nat) : Prop := ∀ idx a, mv_gK G y idx = some (.ref a) → mv_big ≤ a ∧ ∃ tx : String, vk_R (Nm y).cls idx tx (kt (a - mv_big)) s
def mv_okQ (Nm : Nat → MethodName) (cl : List vw_C) (Ts : List Cond) (y idx ci k : Nat) : Prop := ∃ (C : String) (T : u_T) (N : Nat), cl[ci]? = some (C, T, N) ∧ (T k).1 = (Nm y).cls ∧ Cond.fieldLink (Nm y).cls idx (T k).1 (T k).2.1 (T k).2.2.1 ∈ Ts ∧ (Nm y).name = "<init>"
theorem mv_okP_of {Nm : Nat → MethodName} {cl : List vw_C} {Ts : List Cond} {y idx ci k : Nat} {meth : Method} (hname : meth.name = (Nm y).name) (h : mv_okQ Nm cl Ts y idx ci k) : mv_okP cl Ts meth (Nm y).cls idx ci k := by
  obtain ⟨C, T, N, h1, h2, h3, h4⟩ := h
  exact ⟨C, T, N, h1, h2, h3, hname.trans h4⟩
/-- a constant pool number of arrays of arrays: of two dimensions (types t, t1), or of three -/
def mv_okGr (L : List FieldType) (Ts : List Cond) (own : String) (idx t t1 t2 : Nat) : Prop := ∃ ty : FieldType, (ty = .int ∨ ty = .byte) ∧ Cond.arrayClass ty ∈ Ts ∧ ((t2 = 0 ∧ L[t]? = some (.array ty) ∧ L[t1]? = some ty ∧ Cond.arrayOver (.array ty) ∈ Ts ∧ Cond.classLink own idx ("[" ++ (FieldType.array ty).toString) ∈ Ts) ∨ (0 < t2 ∧ L[t]? = some (.array (.array ty)) ∧ L[t1]? = some (.array ty) ∧ L[t2]? = some ty ∧ Cond.arrayOver (.array (.array ty)) ∈ Ts ∧ Cond.arrayOver (.array ty) ∈ Ts ∧ Cond.classLink own idx ("[" ++ (FieldType.array (.array ty)).toString) ∈ Ts))
/-- the tables are right: instructions; fields; new; new arrays; constants; arrays of arrays; calls; handlers -/
def mv_okG (Nm : Nat → MethodName) (Cd : Nat → ByteArray) (cl : List vw_C) (L : List FieldType) (Ts : List Cond) (G : mv_G) : Prop :=
  (∀ y pc i n, mv_gI G y pc = some (i, n) → decode (Cd y) pc = .ok (i, n)) ∧
  (∀ y idx ci k, mv_gF G y idx = some (ci, k) → mv_okF cl Ts (Nm y).cls idx ci k ∧ mv_okC cl Ts G ci ∧ (mv_gP G ci k = true → mv_gQ G y ci = true → mv_okQ Nm cl Ts y idx ci k)) ∧
  (∀ y idx ci, mv_gN G y idx = some ci → mv_okC cl Ts G ci ∧ ∀ (C : String) (T : u_T) (N : Nat), cl[ci]? = some (C, T, N) → Cond.classLink (Nm y).cls idx C ∈ Ts ∧ Cond.instantiable C (mv_gZ G ci) ∈ Ts ∧ Cond.initialized C ∈ Ts) ∧
  (∀ y idx t, mv_gA G y idx = some t → (∃ C : String, L[t]? = some (.object C) ∧ Cond.classLink (Nm y).cls idx C ∈ Ts ∧ Cond.arrayOver (.object C) ∈ Ts) ∨ ∃ ty : FieldType, L[t]? = some (.array ty) ∧ Cond.classLink (Nm y).cls idx (FieldType.array ty).toString ∈ Ts ∧ Cond.arrayOver (.array ty) ∈ Ts) ∧
  (∀ y idx v, mv_gK G y idx = some (.int v) → Cond.constant (Nm y).cls idx v ∈ Ts) ∧
  (∀ y idx t t1 t2, mv_gM G y idx = some (t, t1, t2) → mv_okGr L Ts (Nm y).cls idx t t1 t2) ∧
  (∀ y idx kd z n, mv_gC G y idx = some (kd, z, n) → (kd = 0 ∨ kd = 1 → mv_okM Nm Cd Ts G z ∧ mv_okS Nm Ts (Nm y).cls idx z n) ∧ (kd = 2 ∨ kd = 3 → mv_okM Nm Cd Ts G z ∧ mv_okV Nm cl Ts G (Nm y).cls idx z n) ∧ (kd = 4 ∨ kd = 5 → mv_okM Nm Cd Ts G z ∧ mv_okI Nm Cd Ts G (Nm y).cls idx z n)) ∧
  (∀ y pc h ct, mv_hand (mv_gH G y) pc = some (h, ct) → ct ≠ 0 ∧ ∃ (C : String) (T : u_T) (N : Nat), cl[mv_gX G]? = some (C, T, N) ∧ Cond.classLink (Nm y).cls ct C ∈ Ts)
section MVL
variable {base : Nat} {kt dA : Nat → Nat} {D : va_G} {cl : List vw_C} {nL : Nat} {p : Program} {l : Launch} {e : Env} {R : Room} {s : State} {m : MethodId} {args : Array Value} {below : List Frame} {meth : Method} {c : Code} {Q : State → Prop} {cc : ByteArray} {G : mv_G} {y pc : Nat} {lo : List (Nat × Value)} {st : List Value} {hp : List va_E} {cb sb : Nat} {S : mv_S} {Nm : Nat → MethodName} {Ts : List Cond} {L : List FieldType}
theorem mv_ldcwS {H : Heap} {locs : List Loc} {cells slots : Nat} {ls : Array Slot} {rest : List Value} (hx : p.tables.exec = Jvm.exec) (hb : c.code = cc) {own tx : String} {index q : Nat} (hown : s.vm.findClass own = some m.cls) (hZ : vk_R own index tx q s) (hdg : decode cc pc = .ok (.ldc_w index, 3))
    (k : W p l e R s m args below meth c H locs cells slots Q (F0 m (pc + 3) ls (.ref q :: rest))) : W p l e R s m args below meth c H locs cells slots Q (F0 m pc ls rest) := by
  intro T hT X
  obtain ⟨t, a1, b1⟩ := k T hT X
  obtain ⟨kk, cf, i, a', hk, hcf, hcp, -, hr, hev'⟩ := Cond.stringRef_spec hown hZ.1
  cases hZ.2.symm.trans hev'
  obtain ⟨k', hk', he⟩ := X.warmed.alike.2.2 _ _ hk
  have hr' : k'.resolved[index]? = some (some (.string q)) := by
    rcases X.warmed.entry hk hk' index with h | ⟨h, -⟩
    · rw [h]; exact hr
    · rw [hr] at h; cases h
  refine ⟨t, ?_, b1⟩
  jvm_step X.here [X.here.top, hx, hb, hdg, ldc_w.wp_string (e := e) (s := T) (f := F0 m pc ls rest) X.here.top hk' (by rw [he]; exact hcf) hcp hr']
  exact a1
theorem mv_ldc_v {idx len : Nat} (hok : ∀ v, mv_gK G y idx = some (.int v) → Cond.constant (Nm y).cls idx v ∈ Ts) (hT : ∀ a, mv_gK G y idx = some (.ref a) → mv_big ≤ a ∧ ∃ tx : String, vk_R (Nm y).cls idx tx (kt (a - mv_big)) s) (h : mv_ldc G y pc lo st hp cb sb idx len = some (.inl S)) : (∃ v, S = (pc + len, lo, .int v :: st, hp, cb, sb) ∧ Cond.constant (Nm y).cls idx v ∈ Ts) ∨ ∃ (a : Nat) (tx : String), S = (pc + len, lo, .ref a :: st, hp, cb, sb) ∧ mv_ad base kt a = kt (a - mv_big) ∧ vk_R (Nm y).cls idx tx (kt (a - mv_big)) s := by
  unfold mv_ldc at h
  split at h
  · rename_i v hv
    cases h
    exact Or.inl ⟨v, rfl, hok _ hv⟩
  · rename_i a hv
    cases h
    obtain ⟨h1, tx, h2⟩ := hT _ hv
    exact Or.inr ⟨a, tx, rfl, by rw [mv_ad, if_neg (by omega)], h2⟩
  · cases h
theorem mr_ldc (hx : p.tables.exec = Jvm.exec) (hb : c.code = cc) (hts : ∀ w ∈ Ts, w.before args s = true) (hown : s.vm.findClass (Nm y).cls = some m.cls) {idx : Nat} (hdg : decode cc pc = .ok (.ldc idx, 2)) (hok : ∀ v, mv_gK G y idx = some (.int v) → Cond.constant (Nm y).cls idx v ∈ Ts) (hT : ∀ a, mv_gK G y idx = some (.ref a) → mv_big ≤ a ∧ ∃ tx : String, vk_R (Nm y).cls idx tx (kt (a - mv_big)) s)
    (h : mv_ldc G y pc lo st hp cb sb idx 2 = some (.inl S)) (k : mv_K base (mv_ad base kt) dA D cl nL p l e R s m args below meth c Q S) : mv_K base (mv_ad base kt) dA D cl nL p l e R s m args below meth c Q (pc, lo, st, hp, cb, sb) := by
  intro H ls locs cells slots I
  rcases mv_ldc_v (base := base) hok hT h with ⟨v, rfl, hc⟩ | ⟨a, tx, rfl, ha, hc⟩
  · exact lv_ldc hx hb hown (hts _ hc) hdg (k H ls locs cells slots I)
  · have hk := k H ls locs cells slots I
    refine va_ldcS hx hb hown hc hdg ?_
    rw [← ha]
    exact hk
theorem mr_ldcw (hx : p.tables.exec = Jvm.exec) (hb : c.code = cc) (hts : ∀ w ∈ Ts, w.before args s = true) (hown : s.vm.findClass (Nm y).cls = some m.cls) {idx : Nat} (hdg : decode cc pc = .ok (.ldc_w idx, 3)) (hok : ∀ v, mv_gK G y idx = some (.int v) → Cond.constant (Nm y).cls idx v ∈ Ts) (hT : ∀ a, mv_gK G y idx = some (.ref a) → mv_big ≤ a ∧ ∃ tx : String, vk_R (Nm y).cls idx tx (kt (a - mv_big)) s)
    (h : mv_ldc G y pc lo st hp cb sb idx 3 = some (.inl S)) (k : mv_K base (mv_ad base kt) dA D cl nL p l e R s m args below meth c Q S) : mv_K base (mv_ad base kt) dA D cl nL p l e R s m args below meth c Q (pc, lo, st, hp, cb, sb) := by
  intro H ls locs cells slots I
  rcases mv_ldc_v (base := base) hok hT h with ⟨v, rfl, hc⟩ | ⟨a, tx, rfl, ha, hc⟩
  · exact lv_ldcw hx hb hown (hts _ hc) hdg (k H ls locs cells slots I)
  · have hk := k H ls locs cells slots I
    refine mv_ldcwS hx hb hown hc hdg ?_
    rw [← ha]
    exact hk
theorem mv_up_map (f : Nat → Option Nat) (k : Nat) (v : Option Nat) (ad : Nat → Nat) : (fun i => (va_up f k v i).map ad) = va_up (fun i => (f i).map ad) k (v.map ad) := by
  funext i
  unfold va_up
  split <;> rfl
theorem mr_aast (hx : p.tables.exec = Jvm.exec) (hb : c.code = cc) (hK : va_K D cl (mv_tys dA L) s) (hE : mv_okE cl L G) (hdg : decode cc pc = .ok (.aastore, 1))
    (h : mv_aast G pc lo st hp cb sb = some (.inl S)) (k : mv_K base (mv_ad base kt) dA D cl nL p l e R s m args below meth c Q S) : mv_K base (mv_ad base kt) dA D cl nL p l e R s m args below meth c Q (pc, lo, st, hp, cb, sb) := by
  intro H ls locs cells slots I
  unfold mv_aast at h
  split at h
  · rename_i v i a r
    split at h
    · rename_i t n g he
      split at h
      · rename_i ci hci
        split at h
        · rename_i ho
          have hin : vp_in i n := fun q => of_decide_eq_false ho q
          have hlt : i.toNatClampNeg < n := Nat.not_le.mp fun q => hin (Or.inr q)
          have h0 : ¬ i < 0 := fun q => hin (Or.inl q)
          obtain ⟨C, T0, N, hC, hLt⟩ := hE _ _ hci
          obtain ⟨t0, ht0⟩ := mv_tys_mem (dA := dA) hLt
          obtain ⟨hat, -, -⟩ := mv_inv_at I he
          have fin : ∀ (H1 : Heap) (o : Option Nat) (i9 : Nat), H1[mv_ad base kt a]? = some ((vp_cell (dA t) (n, .inr (.inr (.inr (.inr (fun i => (g i).map (mv_ad base kt))))))).setSlot i.toNatClampNeg (va_rf (o.map (mv_ad base kt)))) → H1.size = H.size → (∀ q : Nat, q ≠ mv_ad base kt a → H1[q]? = H[q]?) → mv_inv base (mv_ad base kt) dA D cl nL R s (pc + 1, lo, r, hp.set a (.inl (t, n, .inr (.inr (.inr (.inr (va_up g i.toNatClampNeg o)))))), cb, sb) H1 ls (locs ++ [⟨mv_ad base kt a, i9⟩]) cells slots := by
            intro H1 o i9 e1 z oq
            refine mv_inv_put I he ?_ z oq
            show H1[mv_ad base kt a]? = some (vp_cell (dA t) (n, .inr (.inr (.inr (.inr (fun j => (va_up g i.toNatClampNeg o j).map (mv_ad base kt)))))))
            rw [e1, mv_up_map, vp_cell_q, vp_cell_q, arrV_store]
            congr 2
            funext q
            by_cases hq : q = i.toNatClampNeg
            · subst hq
              simp [updV, va_up]
            · simp [updV, va_up, hq]
          split at h
          · cases h
            refine va_WaastN (C := C) hx hb hat ((hK.2 t0 _ ht0).1 n (fun j => va_rf ((g j).map (mv_ad base kt)))) (fun q => by cases q) (by show ¬ (i < 0 ∨ (arrV _ _ _).slots.size ≤ _); rw [arrV_size]; exact hin) rfl rfl hdg fun H1 e1 z oq => k H1 ls _ cells slots (fin H1 none _ e1 z oq)
          · rename_i b
            split at h
            · rename_i cj fs hb0
              split at h
              · rename_i hcj
                subst hcj
                cases h
                obtain ⟨hbt, -, -⟩ := mv_inv_at I hb0
                obtain ⟨rr, r1, cellV, g1, g2, g3, -⟩ := hbt
                have hcls := (hK.1 cj _ hC).2
                obtain ⟨kA, comp, k1, k2, k3, -⟩ := (hK.2 t0 _ ht0).2
                have hcomp : comp = D.1 cj := Option.some.inj (k3.symm.trans hcls.1)
                subst hcomp
                obtain ⟨kC, hkC, -⟩ := hcls.2
                refine W.aast hx hb hat (fun q h => by cases h) (fun h => by cases h) k1 k2 rfl hkC ⟨h0, by show _ < (arrV _ _ _).slots.size; rw [arrV_size]; exact hlt⟩ g1 (fun q h => by rw [g3] at h; cases h) (by rw [g2]; exact hkC) (by rw [g2]; exact va_assign hcls) rfl rfl hdg fun H1 e1 z oq => k H1 ls _ cells slots (fin H1 (some b) _ e1 z oq)
              · cases h
            · cases h
          · cases h
        · cases h
      · cases h
    · cases h
  · cases h
end MVL
