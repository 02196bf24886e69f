/-! the small machine: stores, and what makes cells -/
theorem mv_nar {ad : Nat → Nat} {ty : FieldType} {v : Value} (h : narrow ty v = v) : narrow ty (mv_v ad v) = mv_v ad v := by
  cases v with
  | ref a => cases ty <;> rfl
  | _ => exact h
theorem mv_fit {ad : Nat → Nat} {ty : FieldType} {v : Value} (h : fits ty v = true) : fits ty (mv_v ad v) = true := by
  cases v with
  | ref a => cases ty <;> first | rfl | cases h
  | _ => exact h
/-- what is to be known of a class -/
def mv_okC (cl : List vw_C) (Ts : List Cond) (G : mv_G) (ci : Nat) : Prop := ∃ (C : String) (T : u_T) (N : Nat) (ty0 : Nat → FieldType), cl[ci]? = some (C, T, N) ∧ (∀ w ∈ u_ws C T N, w ∈ Ts) ∧ (∀ k, k < N → parseFieldDescriptor (T k).2.2.1 = some (ty0 k)) ∧ (∀ a, a < N → ∀ b, b < N → a ≠ b → (T a).2.1 ≠ (T b).2.1) ∧ (∀ k, k < N → mv_gT G ci k = some (ty0 k)) ∧ (∀ k, k < N → mv_gP G ci k = (T k).2.2.2) ∧ (∀ j, j < N → defaultValue (ty0 j) = vp_V (mv_gD G ci) j) ∧ ∀ ad : Nat → Nat, (mv_gD G ci).map (mv_v ad) = mv_gD G ci
/-- a final field's put, in a constructor of its own class -/
def mv_okP (cl : List vw_C) (Ts : List Cond) (meth : Method) (own : String) (idx ci k : Nat) : Prop := ∃ (C : String) (T : u_T) (N : Nat), cl[ci]? = some (C, T, N) ∧ (T k).1 = own ∧ Cond.fieldLink own idx (T k).1 (T k).2.1 (T k).2.2.1 ∈ Ts ∧ meth.name = "<init>"
section MVH2
variable {base : Nat} {kt dA : Nat → Nat} {D : va_G} {cl : List vw_C} {nL : Nat} {p : Program} {l : Launch} {e : Env} {R : Room} {s : State} {m : MethodId} {args : Array Value} {below : List Frame} {meth : Method} {c : Code} {Q : State → Prop} {cc : ByteArray} {G : mv_G} {y pc : Nat} {lo : List (Nat × Value)} {st : List Value} {hp : List va_E} {cb sb : Nat} {S : mv_S}
theorem mr_put (hx : p.tables.exec = Jvm.exec) (hb : c.code = cc) {Ts : List Cond} (hts : ∀ w ∈ Ts, w.before args s = true) {own : String} (hown : s.vm.findClass own = some m.cls) {tys : List (ClassId × FieldType)} (hK : va_K D cl tys s) {idx : Nat} (hdg : decode cc pc = .ok (.putfield idx, 3)) (hok : ∀ ci k, mv_gF G y idx = some (ci, k) → mv_okF cl Ts own idx ci k) (hokC : ∀ ci k, mv_gF G y idx = some (ci, k) → mv_okC cl Ts G ci) (hokP : ∀ ci k, mv_gF G y idx = some (ci, k) → mv_gP G ci k = true → mv_gQ G y ci = true → mv_okP cl Ts meth own idx ci k)
    (h : mv_put G y pc lo st hp cb sb idx = some (.inl S)) (k : mv_K base (mv_ad base kt) dA D cl nL p l e R s m args below meth c Q S) : mv_K base (mv_ad base kt) dA D cl nL p l e R s m args below meth c Q (pc, lo, st, hp, cb, sb) := by
  intro H ls locs cells slots I
  unfold mv_put at h
  split at h
  · rename_i v a r
    split at h
    · rename_i ci fs cj k0 he hf
      split at h
      · rename_i ty hty
        split at h
        · rename_i hc
          obtain ⟨rfl, hnar, hfit, hlen, hfinal⟩ := hc
          cases h
          obtain ⟨C, T, N, h1, h2, h3, h4⟩ := hok _ _ hf
          obtain ⟨C', T', N', ty0, g1, -, g3, g4, g5, g6, -, -⟩ := hokC _ _ hf
          cases h1.symm.trans g1
          have hty0 : ty = ty0 k0 := by
            have := g5 k0 h2
            rw [hty] at this
            exact Option.some.inj this
          obtain ⟨hat, -, -⟩ := mv_inv_at I he
          have hap := va_apart (own := own) hts h3 ty0 g3 g4 hK h1
          obtain ⟨rr, r1, cell, q1, q2, q3, q4⟩ := hat
          have hr : rr = (C, T, N) := Option.some.inj (r1.symm.trans h1)
          subst hr
          obtain ⟨hS, hfc, kC, hkC, hkind⟩ := hK.1 ci _ h1
          obtain ⟨cf, kf, fi, f, hi, hsl⟩ := hS k0 h2
          have hst := (u_facts hfc hkC (u_lays hts h3 h2) hi).1
          have hd : parseFieldDescriptor (T k0).2.2.1 = some ty := by rw [hty0]; exact g3 k0 h2
          have hlen' : k0 < (fs.map (mv_v (mv_ad base kt))).length := by rw [List.length_map]; exact hlen
          have fin : ∀ (H1 : Heap) (x : Cell), H1[mv_ad base kt a]? = some (cell.setSlot (D.2 ci k0) (mv_v (mv_ad base kt) v)) → H1.size = H.size → (∀ q : Nat, q ≠ mv_ad base kt a → H1[q]? = H[q]?) → ∀ i9 : Nat, mv_inv base (mv_ad base kt) dA D cl nL R s (pc + 3, lo, r, hp.set a (.inr (ci, fs.set k0 v)), cb, sb) H1 ls (locs ++ [⟨mv_ad base kt a, i9⟩]) cells slots := by
            intro H1 x e1 z oq i9
            refine mv_inv_put I he ?_ z oq
            show va_at D cl (mv_ad base kt a, .inr (ci, (fs.set k0 v).map (mv_v (mv_ad base kt)))) H1
            rw [List.map_set]
            exact ⟨_, h1, t_OB.to (V := updV (vp_V (fs.map (mv_v (mv_ad base kt)))) k0 (mv_v (mv_ad base kt) v)) ⟨_, e1, q2, q3, t_set q4 hap h2 _⟩ (fun j _ => vp_updV_set hlen' _ j)⟩
          have hlay := hts _ (h3 _ (u_in_lay h2))
          unfold u_lay at hlay
          by_cases hfin : (T k0).2.2.2 = true
          · obtain ⟨C2, T2, N2, p1, p2, p3, p4⟩ := hokP _ _ hf (by rw [g6 k0 h2]; exact hfin) (hfinal (by rw [g6 k0 h2]; exact hfin))
            cases h1.symm.trans p1
            rw [if_pos hfin] at hlay
            have hcf : m.cls = cf := by
              obtain ⟨_, _, c', _, _, _, -, -, hf', -, -, -, hown2, -⟩ := Cond.laysFinal_spec hlay
              have e1 : c' = cf := by have := hi.symm.trans hf'; simp at this; exact this.1.symm
              rw [p2] at hown2
              rw [← e1]; exact Option.some.inj (hown.symm.trans hown2)
            have h6 := u_fits hfc hkC hkind (Or.inr hlay) hi hd (mv_nar hnar) (mv_fit (ad := mv_ad base kt) hfit)
            refine W.putFinK hx hb hown (hts _ p3) hi hst hcf p4 (by rw [q2]; exact h6) q1 q3 (by rw [hsl]; exact k2_hasslot (q4 k0 h2)) rfl rfl hdg fun H' e1 e2 e3 => ?_
            rw [hsl] at e1 ⊢
            exact k H' ls _ cells slots (fin H' cell e1 e2 e3 _)
          · rw [if_neg hfin] at hlay
            have h6 := u_store hfc hkC hkind hlay hi hd (mv_nar hnar) (mv_fit (ad := mv_ad base kt) hfit)
            rcases h4 with h4 | ⟨host, h4⟩
            · refine W.putK hx hb (f := f) ⟨hown, hts _ h4, ⟨_, _, _, hi⟩, hst⟩ (by rw [q2]; exact h6) q1 q3 (by rw [hsl]; exact k2_hasslot (q4 k0 h2)) rfl rfl hdg fun H' e1 e2 e3 => ?_
              rw [hsl] at e1 ⊢
              exact k H' ls _ cells slots (fin H' cell e1 e2 e3 _)
            · refine va_WputK hx hb (f := f) hown (hts _ h4) hi hst (by rw [q2]; exact h6) q1 q3 (by rw [hsl]; exact k2_hasslot (q4 k0 h2)) rfl rfl hdg fun H' e1 e2 e3 => ?_
              rw [hsl] at e1 ⊢
              exact k H' ls _ cells slots (fin H' cell e1 e2 e3 _)
        · cases h
      · cases h
    · cases h
  · cases h
theorem mr_iast (hx : p.tables.exec = Jvm.exec) (hb : c.code = cc) {L : List FieldType} (hK : va_K D cl (mv_tys dA L) s) (h0 : L[0]? = some .int) (hdg : decode cc pc = .ok (.iastore, 1))
    (h : mv_iast pc lo st hp cb sb = some (.inl S)) (k : mv_K base (mv_ad base kt) dA D cl nL p l e R s m args below meth c Q S) : mv_K base (mv_ad base kt) dA D cl nL p l e R s m args below meth c Q (pc, lo, st, hp, cb, sb) := by
  intro H ls locs cells slots I
  unfold mv_iast at h
  split at h
  · rename_i x i a r
    split at h
    · rename_i n f he
      split at h
      · cases h
      · rename_i ho
        cases h
        obtain ⟨t0, ht0⟩ := mv_tys_mem (dA := dA) h0
        obtain ⟨hat, -, -⟩ := mv_inv_at I he
        have hin : vp_in i n := fun q => ho (decide_eq_true q)
        refine W.iast hx hb hat ((hK.2 t0 _ ht0).1 n (fun j => .int (f j))) (fun q => by cases q) (by show ¬ (i < 0 ∨ (arrV _ _ _).slots.size ≤ _); rw [arrV_size]; exact hin) rfl rfl hdg fun H1 e1 z oq => k H1 ls _ cells slots (mv_inv_put I he ?_ z oq)
        show H1[mv_ad base kt a]? = some (vp_cell (dA 0) (n, .inl (upd f i.toNatClampNeg x)))
        rw [e1]
        show some ((vp_cell (dA 0) (n, .inl f)).setSlot _ _) = _
        rw [vp_cell_i, vp_cell_i, arrV_store]
        congr 2
        funext q
        by_cases hq : q = i.toNatClampNeg
        · subst hq
          simp [updV, upd]
        · simp [updV, upd, hq]
    · cases h
  · cases h
theorem mr_bast (hx : p.tables.exec = Jvm.exec) (hb : c.code = cc) {L : List FieldType} (hK : va_K D cl (mv_tys dA L) s) (h1 : L[1]? = some .byte) (h2 : L[2]? = some .boolean) (hdg : decode cc pc = .ok (.bastore, 1))
    (h : mv_bast pc lo st hp cb sb = some (.inl S)) (k : mv_K base (mv_ad base kt) dA D cl nL p l e R s m args below meth c Q S) : mv_K base (mv_ad base kt) dA D cl nL p l e R s m args below meth c Q (pc, lo, st, hp, cb, sb) := by
  intro H ls locs cells slots I
  unfold mv_bast at h
  split at h
  · rename_i x i a r
    split at h
    · rename_i t n f he
      split at h
      · rename_i ho
        have hin : vp_in i n := fun q => of_decide_eq_false ho q
        obtain ⟨hat, -, -⟩ := mv_inv_at I he
        split at h
        · rename_i hq
          subst hq
          cases h
          obtain ⟨t0, ht0⟩ := mv_tys_mem (dA := dA) h1
          refine W.bast hx hb hat ((hK.2 t0 _ ht0).1 n (fun j => .int (f j))) (fun q => by cases q) (by show ¬ (i < 0 ∨ (arrV _ _ _).slots.size ≤ _); rw [arrV_size]; exact hin) rfl rfl hdg fun H1 e1 z oq => k H1 ls _ cells slots (mv_inv_put I he ?_ z oq)
          show H1[mv_ad base kt a]? = some (vp_cell (dA 1) (n, .inl (upd f i.toNatClampNeg (vp_nar .byte x))))
          rw [e1]
          show some ((vp_cell (dA 1) (n, .inl f)).setSlot _ _) = _
          rw [vp_cell_i, vp_cell_i, arrV_store]
          congr 2
          funext q
          by_cases hq : q = i.toNatClampNeg
          · subst hq
            simp [updV, upd, vp_nar]
            try rfl
          · simp [updV, upd, hq]
        · split at h
          · rename_i hq
            subst hq
            cases h
            obtain ⟨t0, ht0⟩ := mv_tys_mem (dA := dA) h2
            refine W.zast hx hb hat ((hK.2 t0 _ ht0).1 n (fun j => .int (f j))) (fun q => by cases q) (by show ¬ (i < 0 ∨ (arrV _ _ _).slots.size ≤ _); rw [arrV_size]; exact hin) rfl rfl hdg fun H1 e1 z oq => k H1 ls _ cells slots (mv_inv_put I he ?_ z oq)
            show H1[mv_ad base kt a]? = some (vp_cell (dA 2) (n, .inl (upd f i.toNatClampNeg (vp_nar .boolean x))))
            rw [e1]
            show some ((vp_cell (dA 2) (n, .inl f)).setSlot _ _) = _
            rw [vp_cell_i, vp_cell_i, arrV_store]
            congr 2
            funext q
            by_cases hq : q = i.toNatClampNeg
            · subst hq
              simp [updV, upd, vp_nar]
              try rfl
            · simp [updV, upd, hq]
          · cases h
      · cases h
    · cases h
  · cases h
theorem mv_new_eq {H : Heap} {ls : Array Slot} {locs : List Loc} {cells slots : Nat} {r : List Value} (hz : mv_ad base kt hp.length = H.size) {pc' cb' sb' : Nat} {hp' : List va_E} {H1 : Heap} (k : mv_K base (mv_ad base kt) dA D cl nL p l e R s m args below meth c Q (pc', lo, .ref hp.length :: r, hp', cb', sb')) (I : mv_inv base (mv_ad base kt) dA D cl nL R s (pc', lo, .ref hp.length :: r, hp', cb', sb') H1 ls locs cells slots) : W p l e R s m args below meth c H1 locs cells slots Q (F0 m pc' ls (.ref H.size :: r.map (mv_v (mv_ad base kt)))) := by
  have h := k H1 ls locs cells slots I
  have e1 : (Value.ref hp.length :: r).map (mv_v (mv_ad base kt)) = .ref H.size :: r.map (mv_v (mv_ad base kt)) := by
    rw [List.map_cons]
    show Value.ref (mv_ad base kt hp.length) :: _ = _
    rw [hz]
  dsimp only at h
  rw [e1] at h
  exact h
theorem mr_new (hx : p.tables.exec = Jvm.exec) (hb : c.code = cc) {Ts : List Cond} (hts : ∀ w ∈ Ts, w.before args s = true) {own : String} (hown : s.vm.findClass own = some m.cls) {tys : List (ClassId × FieldType)} (hK : va_K D cl tys s) {idx : Nat} (hdg : decode cc pc = .ok (.new idx, 3)) (hokC : ∀ ci, mv_gN G y idx = some ci → mv_okC cl Ts G ci) (hokN : ∀ ci C T N, mv_gN G y idx = some ci → cl[ci]? = some (C, T, N) → Cond.classLink own idx C ∈ Ts ∧ Cond.instantiable C (mv_gZ G ci) ∈ Ts ∧ Cond.initialized C ∈ Ts)
    (h : mv_new G y pc lo st hp cb sb idx = some (.inl S)) (k : mv_K base (mv_ad base kt) dA D cl nL p l e R s m args below meth c Q S) : mv_K base (mv_ad base kt) dA D cl nL p l e R s m args below meth c Q (pc, lo, st, hp, cb, sb) := by
  intro H ls locs cells slots I
  unfold mv_new at h
  split at h
  · rename_i ci hci
    split at h
    · rename_i hc
      cases h
      obtain ⟨C, T, N, ty0, g1, g2, g3, g4, g5, g6, g7, g8⟩ := hokC _ hci
      obtain ⟨n1, n2, n3⟩ := hokN _ _ _ _ hci g1
      have hKn := hK.1 ci _ g1
      have I5 : cells + cb ≤ R.cells := I.2.2.2.2.1
      have I6 : slots + sb ≤ R.slots := I.2.2.2.2.2.1
      refine W.newcK hx hb hown (hts _ n1) (hts _ n2) (hts _ n3) rfl hdg (by omega) (by omega) hKn.2.1 rfl fun H1 kC hkC e1 z1 o1 => ?_
      obtain ⟨I', hz⟩ := mv_inv_new (pc' := pc + 3) (st' := .ref hp.length :: st) (H1 := H1) I (e1 := .inr (ci, mv_gD G ci)) hc.1 hc.2 (by
        show va_at D cl (H.size, .inr (ci, (mv_gD G ci).map (mv_v (mv_ad base kt)))) H1
        rw [g8]
        exact ⟨_, g1, (u_born ty0 hts g2 hKn hkC e1 g3).to g7⟩) z1 o1
      exact mv_new_eq hz k I'
    · cases h
  · cases h
theorem mv_RAof {ty : FieldType} {cA cB : ClassId} (h : va_RA s cA ty) (h2 : s.vm.findClass ("[" ++ ty.toString) = some cB) : cB = cA := by
  cases ty with
  | object C =>
    obtain ⟨_, _, _, _, _, h4⟩ := h
    exact Option.some.inj (h2.symm.trans h4)
  | _ => exact Option.some.inj (h2.symm.trans h)
theorem mr_newa (hx : p.tables.exec = Jvm.exec) (hb : c.code = cc) {Ts : List Cond} (hts : ∀ w ∈ Ts, w.before args s = true) {L : List FieldType} (hK : va_K D cl (mv_tys dA L) s) (h0 : L[0]? = some .int) (h1 : L[1]? = some .byte) (h2 : L[2]? = some .boolean) (a0 : Cond.arrayClass .int ∈ Ts) (a1 : Cond.arrayClass .byte ∈ Ts) (a2 : Cond.arrayClass .boolean ∈ Ts) {at_ : ArrayType} (hdg : decode cc pc = .ok (.newarray at_, 2))
    (h : mv_newa pc lo st hp cb sb at_ = some (.inl S)) (k : mv_K base (mv_ad base kt) dA D cl nL p l e R s m args below meth c Q S) : mv_K base (mv_ad base kt) dA D cl nL p l e R s m args below meth c Q (pc, lo, st, hp, cb, sb) := by
  intro H ls locs cells slots I
  unfold mv_newa at h
  split at h
  · rename_i n r
    split at h
    · rename_i t ht
      split at h
      · rename_i hc
        obtain ⟨hn, hm, hc1, hc2⟩ := hc
        cases h
        have I5 : cells + cb ≤ R.cells := I.2.2.2.2.1
        have I6 : slots + sb ≤ R.slots := I.2.2.2.2.2.1
        have fin : ∀ (ty : FieldType), L[t]? = some ty → defaultValue ty = .int 0 → newarray.typeOf at_ = ty → (Cond.arrayClass ty).before args s = true → componentBytes ty ≤ 4 → W p l e R s m args below meth c H locs cells slots Q (F0 m pc ls (.int n :: r.map (mv_v (mv_ad base kt)))) := by
          intro ty hL hdef hty har hcb
          obtain ⟨t0, ht0⟩ := mv_tys_mem (dA := dA) hL
          have hbytes : n.toNatClampNeg * componentBytes ty ≤ 536870912 := Nat.le_trans (Nat.mul_le_mul hm hcb) (by decide)
          subst hty
          refine va_newaK hx hb har rfl hdg rfl hn rfl hbytes (by omega) (by omega) rfl fun H1 cA e1 z1 o1 _ hfc => ?_
          have hcA := mv_RAof (hK.2 t0 _ ht0).2 hfc
          subst hcA
          obtain ⟨I', hz⟩ := mv_inv_new (pc' := pc + 2) (st' := .ref hp.length :: r) (H1 := H1) I (e1 := .inl (t, n.toNatClampNeg, .inl (fun _ => 0))) hc1 hc2 (by
            show H1[H.size]? = some (vp_cell (dA t) (n.toNatClampNeg, .inl (fun _ => 0)))
            rw [e1, hdef, vp_cell_i]) z1 o1
          exact mv_new_eq hz k I'
        cases at_ <;> simp [mv_prim] at ht
        · subst ht
          exact fin .boolean h2 rfl rfl (hts _ a2) (by decide)
        · subst ht
          exact fin .byte h1 rfl rfl (hts _ a1) (by decide)
        · subst ht
          exact fin .int h0 rfl rfl (hts _ a0) (by decide)
      · cases h
    · cases h
  · cases h
theorem mr_anew (hx : p.tables.exec = Jvm.exec) (hb : c.code = cc) {Ts : List Cond} (hts : ∀ w ∈ Ts, w.before args s = true) {own : String} (hown : s.vm.findClass own = some m.cls) {L : List FieldType} (hK : va_K D cl (mv_tys dA L) s) {idx : Nat} (hdg : decode cc pc = .ok (.anewarray idx, 3)) (hokA : ∀ t, mv_gA G y idx = some t → (∃ C : String, L[t]? = some (.object C) ∧ Cond.classLink own idx C ∈ Ts ∧ Cond.arrayOver (.object C) ∈ Ts) ∨ ∃ ty : FieldType, L[t]? = some (.array ty) ∧ Cond.classLink own idx (FieldType.array ty).toString ∈ Ts ∧ Cond.arrayOver (.array ty) ∈ Ts)
    (h : mv_anew G y pc lo st hp cb sb idx = some (.inl S)) (k : mv_K base (mv_ad base kt) dA D cl nL p l e R s m args below meth c Q S) : mv_K base (mv_ad base kt) dA D cl nL p l e R s m args below meth c Q (pc, lo, st, hp, cb, sb) := by
  intro H ls locs cells slots I
  unfold mv_anew at h
  split at h
  · rename_i n r
    split at h
    · rename_i t ht
      split at h
      · rename_i hc
        obtain ⟨hn, hm, hc1, hc2⟩ := hc
        cases h
        have I5 : cells + cb ≤ R.cells := I.2.2.2.2.1
        have I6 : slots + sb ≤ R.slots := I.2.2.2.2.2.1
        have fin : ∀ (ty : FieldType) (cA : ClassId), L[t]? = some ty → s.vm.findClass ("[" ++ ty.toString) = some cA → W p l e R s m args below meth c (H.push ({ cls := cA, slots := Array.replicate n.toNatClampNeg .null, vm := .none } : Cell)) locs (cells + 1) (slots + n.toNatClampNeg) Q (F0 m (pc + 3) ls (.ref H.size :: r.map (mv_v (mv_ad base kt)))) := by
          intro ty cA hL hfc
          obtain ⟨t0, ht0⟩ := mv_tys_mem (dA := dA) hL
          have hcA := mv_RAof (hK.2 t0 _ ht0).2 hfc
          subst hcA
          generalize hH1 : H.push ({ cls := dA t, slots := Array.replicate n.toNatClampNeg .null, vm := .none } : Cell) = H1
          obtain ⟨I', hz⟩ := mv_inv_new (pc' := pc + 3) (st' := .ref hp.length :: r) (H1 := H1) I (e1 := .inl (t, n.toNatClampNeg, .inr (.inr (.inr (.inr (fun _ => none)))))) hc1 hc2 (by
            show H1[H.size]? = some (vp_cell (dA t) (n.toNatClampNeg, .inr (.inr (.inr (.inr (fun _ => none))))))
            rw [← hH1, Array.getElem?_push_size, arrV_new, vp_cell_q]
            rfl) (by rw [← hH1, Array.size_push]) (fun q hq => by rw [← hH1, Array.getElem?_push, if_neg (Nat.ne_of_lt hq)])
          exact mv_new_eq hz k I'
        rcases hokA _ ht with ⟨C, hL, k1, k2⟩ | ⟨ty, hL, k1, k2⟩
        · exact W.anew hx hb hown (hts _ k1) (hts _ k2) rfl hdg rfl hn (by omega) (by omega) (by omega) fun cA _ _ f1 _ _ _ => fin _ cA hL f1
        · exact W.anewA hx hb hown (hts _ k1) (hts _ k2) rfl hdg rfl hn (by omega) (by omega) (by omega) fun cA _ _ f1 _ _ _ => fin _ cA hL f1
      · cases h
    · cases h
  · cases h
end MVH2
