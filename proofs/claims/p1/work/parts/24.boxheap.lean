/-! boxes: the instructions on the heap -/
section
variable (G : mv_G) (y pc : Nat) (l : ab_L) (st : List ab_V) (h : ab_H) (cb sb : Nat)
def ab_get (idx : Nat) : Option ab_S := match st with
  | .inl (.ref a) :: r => match ab_at h a, mv_gF G y idx with
    | some (.inr (.inr (ci, N, F))), some (cj, k) => bif Nat.beq ci cj && Nat.blt k N then ab_mk (pc + 3) l (F k :: r) h cb sb else none
    | _, _ => none
  | _ => none
/-- may this value stand in a field of this type -/
def ab_fit (ty : FieldType) : ab_V → Bool
  | .inl v => decide (narrow ty v = v) && fits ty v
  | .inr _ => decide (ty = .int)
def ab_put_ (idx : Nat) : Option ab_S := match st with
  | v :: .inl (.ref a) :: r => match ab_at h a, mv_gF G y idx with
    | some (.inr (.inr (ci, N, F))), some (cj, k) => match mv_gT G cj k with
      | some ty => bif Nat.beq ci cj && Nat.blt k N && ab_fit ty v && (!mv_gP G cj k || mv_gQ G y cj) then ab_mk (pc + 3) l r (ab_put h a (.inr (.inr (ci, N, fun j => bif Nat.beq j k then v else F j)))) cb sb else none
      | none => none
    | _, _ => none
  | _ => none
def ab_new (idx : Nat) : Option ab_S := match mv_gN G y idx with
  | some ci => bif Nat.ble 1 cb && Nat.ble (mv_gZ G ci) sb && (mv_gD G ci).all (fun v => Nat.beq v.category 1) then ab_fn (cb - 1) fun cb' => ab_fn (sb - mv_gZ G ci) fun sb' => ab_fn h.1 fun q => ab_mk (pc + 3) l (.inl (.ref q) :: st) (ab_app h (.inr (.inr (ci, (mv_gD G ci).length, fun k => .inl ((mv_gD G ci).getD k .null))))) cb' sb' else none
  | none => none
def ab_newa (at_ : ArrayType) : Option ab_S := match st with
  | .inl (.int n) :: r => match mv_prim at_ with
    | some t => if ¬ n < 0 ∧ n.toNatClampNeg ≤ 134217728 ∧ 1 ≤ cb ∧ n.toNatClampNeg ≤ sb then ab_fn (cb - 1) fun cb' => ab_fn (sb - n.toNatClampNeg) fun sb' => ab_fn n.toNatClampNeg fun len => ab_fn h.1 fun q => ab_mk (pc + 2) l (.inl (.ref q) :: r) (ab_app h (.inl (t, len, fun _ => .inl (.int 0)))) cb' sb' else none
    | none => none
  | _ => none
def ab_anew (idx : Nat) : Option ab_S := match st with
  | .inl (.int n) :: r => match mv_gA G y idx with
    | some t => if ¬ n < 0 ∧ n.toNatClampNeg ≤ 134217728 ∧ 1 ≤ cb ∧ n.toNatClampNeg ≤ sb then ab_fn (cb - 1) fun cb' => ab_fn (sb - n.toNatClampNeg) fun sb' => ab_fn n.toNatClampNeg fun len => ab_fn h.1 fun q => ab_mk (pc + 3) l (.inl (.ref q) :: r) (ab_app h (.inr (.inl (t, len, fun _ => none)))) cb' sb' else none
    | none => none
  | _ => none
def ab_iald : Option ab_S := match st with
  | .inl (.int i) :: .inl (.ref a) :: r => match ab_at h a with
    | some (.inl (t, n, F)) => bif Nat.beq t 0 && !mv_out i n then ab_mk (pc + 1) l (F i.toNatClampNeg :: r) h cb sb else none
    | _ => none
  | _ => none
def ab_bald : Option ab_S := match st with
  | .inl (.int i) :: .inl (.ref a) :: r => match ab_at h a with
    | some (.inl (t, n, F)) => bif (Nat.beq t 1 || Nat.beq t 2) && !mv_out i n then ab_mk (pc + 1) l (F i.toNatClampNeg :: r) h cb sb else none
    | _ => none
  | _ => none
def ab_aald : Option ab_S := match st with
  | .inl (.int i) :: .inl (.ref a) :: r => match ab_at h a with
    | some (.inr (.inl (t, n, g))) => match mv_gY G t with
      | some ty => bif ty.isReference && !mv_out i n then (match g i.toNatClampNeg with
        | some q => ab_fn q fun q' => ab_mk (pc + 1) l (.inl (.ref q') :: r) h cb sb
        | none => ab_mk (pc + 1) l (.inl .null :: r) h cb sb) else none
      | none => none
    | _ => none
  | _ => none
def ab_iast : Option ab_S := match st with
  | x :: .inl (.int i) :: .inl (.ref a) :: r => match ab_at h a with
    | some (.inl (t, n, F)) => bif Nat.beq t 0 && !mv_out i n && ab_int x then ab_fn i.toNatClampNeg fun j => ab_mk (pc + 1) l r (ab_put h a (.inl (t, n, fun k => bif Nat.beq k j then x else F k))) cb sb else none
    | _ => none
  | _ => none
def ab_bast : Option ab_S := match st with
  | x :: .inl (.int i) :: .inl (.ref a) :: r => match ab_at h a with
    | some (.inl (t, n, F)) => bif (Nat.beq t 1 || Nat.beq t 2) && !mv_out i n && ab_int x then ab_fn i.toNatClampNeg fun j => (match x with
        | .inl (.int v) => ab_fi (if t = 1 then vp_nar .byte v else vp_nar .boolean v) fun w => ab_mk (pc + 1) l r (ab_put h a (.inl (t, n, fun k => bif Nat.beq k j then .inl (.int w) else F k))) cb sb
        | _ => ab_mk (pc + 1) l r (ab_put h a (.inl (t, n, fun k => bif Nat.beq k j then ab_full else F k))) cb sb) else none
    | _ => none
  | _ => none
def ab_aast : Option ab_S := match st with
  | v :: .inl (.int i) :: .inl (.ref a) :: r => match ab_at h a with
    | some (.inr (.inl (t, n, g))) => match mv_gE G t with
      | some ci => bif !mv_out i n then ab_fn i.toNatClampNeg fun j => (match v with
          | .inl .null => ab_mk (pc + 1) l r (ab_put h a (.inr (.inl (t, n, va_up g j none)))) cb sb
          | .inl (.ref b) => match ab_at h b with
            | some (.inr (.inr (cj, _, _))) => bif Nat.beq cj ci then ab_mk (pc + 1) l r (ab_put h a (.inr (.inl (t, n, va_up g j (some b))))) cb sb else none
            | _ => none
          | _ => none) else none
      | none => none
    | _ => none
  | _ => none
def ab_alen : Option ab_S := match st with
  | .inl (.ref a) :: r => match ab_at h a with
    | some (.inl (t, n, _)) => (match mv_gY G t with
      | some _ => ab_fi (Int32.ofNat n) fun w => ab_mk (pc + 1) l (.inl (.int w) :: r) h cb sb
      | none => none)
    | some (.inr (.inl (t, n, _))) => (match mv_gY G t with
      | some _ => ab_fi (Int32.ofNat n) fun w => ab_mk (pc + 1) l (.inl (.int w) :: r) h cb sb
      | none => none)
    | _ => none
  | _ => none
def ab_ldc (idx len : Nat) : Option ab_S := match mv_gK G y idx with
  | some (.int v) => ab_fi v fun w => ab_mk (pc + len) l (.inl (.int w) :: st) h cb sb
  | some (.ref a) => ab_mk (pc + len) l (.inl (.ref a) :: st) h cb sb
  | _ => none
/-- a grid's cells -/
def ab_grid2 (t t1 n k q : Nat) (j : Nat) : ab_E := match j with
  | 0 => .inr (.inl (t, n, fun i => if i < n then some (q + 1 + i * 1) else none))
  | _ + 1 => .inl (t1, k, fun _ => .inl (.int 0))
def ab_grid3 (t t1 t2 n k j q : Nat) (x : Nat) : ab_E := match x with
  | 0 => .inr (.inl (t, n, fun i => if i < n then some (q + 1 + i * (k + 1)) else none))
  | z + 1 => ab_grid2 t1 t2 k j (q + 1 + z / (k + 1) * (k + 1)) (z % (k + 1))
def ab_multi (idx d : Nat) : Option ab_S := match mv_gM G y idx with
  | some (t, t1, t2) => match st with
    | .inl (.int k) :: .inl (.int n) :: r => if d = 2 then
        if t2 = 0 ∧ ¬ n < 0 ∧ ¬ k < 0 ∧ n.toNatClampNeg ≤ 65536 ∧ k.toNatClampNeg ≤ 65536 ∧ 1 + n.toNatClampNeg ≤ cb ∧ n.toNatClampNeg + n.toNatClampNeg * k.toNatClampNeg ≤ sb then
          ab_fn n.toNatClampNeg fun n' => ab_fn k.toNatClampNeg fun k' => ab_fn h.1 fun q => ab_fn (cb - (1 + n')) fun cb' => ab_fn (sb - (n' + n' * k')) fun sb' => match ab_apps h (n' + 1) (ab_grid2 t t1 n' k' q) with
            | some h' => ab_mk (pc + 4) l (.inl (.ref q) :: r) h' cb' sb'
            | none => none
        else none
      else match r with
        | .inl (.int z) :: r => if d = 3 ∧ 0 < t2 ∧ ¬ z < 0 ∧ ¬ n < 0 ∧ ¬ k < 0 ∧ z.toNatClampNeg ≤ 65536 ∧ n.toNatClampNeg ≤ 65536 ∧ k.toNatClampNeg ≤ 65536 ∧ 1 + z.toNatClampNeg * (n.toNatClampNeg + 1) ≤ cb ∧ z.toNatClampNeg + z.toNatClampNeg * (n.toNatClampNeg + n.toNatClampNeg * k.toNatClampNeg) ≤ sb then
            ab_fn z.toNatClampNeg fun z' => ab_fn n.toNatClampNeg fun n' => ab_fn k.toNatClampNeg fun k' => ab_fn h.1 fun q => ab_fn (cb - (1 + z' * (n' + 1))) fun cb' => ab_fn (sb - (z' + z' * (n' + n' * k'))) fun sb' => match ab_apps h (1 + z' * (n' + 1)) (ab_grid3 t t1 t2 z' n' k' q) with
              | some h' => ab_mk (pc + 4) l (.inl (.ref q) :: r) h' cb' sb'
              | none => none
          else none
        | _ => none
    | _ => none
  | none => none
end
section ABH
variable {G : mv_G} {y pc : Nat} {l : ab_L} {st : List ab_V} {h : ab_H} {cb sb : Nat} {lo : List (Nat × Value)} {ss : List Value} {hp : List va_E}
theorem ab_get_ok {idx : Nat} (hl : ab_gl l lo) (hs : ab_gs st ss) (hh : ab_gh h hp) : ab_ok (ab_get G y pc l st h cb sb idx) (mv_get G y pc lo ss hp cb sb idx) := by
  unfold ab_get
  split
  · rename_i a r
    obtain ⟨w1, t1, rfl, g1, hs1⟩ := ab_gs_cons hs
    rw [g1.1]
    split
    · rename_i ci N F cj k ha hf
      cases hb : (Nat.beq ci cj && Nat.blt k N) with
      | false => exact ab_ok_none
      | true =>
        rw [Bool.and_eq_true] at hb
        obtain ⟨e, he, fs, rfl, hn, hF⟩ := ab_at_ok hh ha
        unfold mv_get
        dsimp only
        rw [he, hf]
        dsimp only
        rw [if_pos (Nat.eq_of_beq_eq_true hb.1)]
        have hk : k < fs.length := by rw [hn]; exact Nat.le_of_ble_eq_true hb.2
        rw [List.getElem?_eq_getElem hk]
        exact ab_ok_mk hl ⟨hF k _ (List.getElem?_eq_getElem hk), hs1⟩ hh
    · exact ab_ok_none
  · exact ab_ok_none
theorem ab_fit_ok : ∀ {ty : FieldType} {v : ab_V} {w : Value}, ab_g v w → ab_fit ty v = true → narrow ty w = w ∧ fits ty w = true
  | ty, .inl v, w, h, hb => by
    rw [h.1]
    unfold ab_fit at hb
    rw [Bool.and_eq_true] at hb
    exact ⟨of_decide_eq_true hb.1, hb.2⟩
  | ty, .inr v, w, h, hb => by
    have e : ty = .int := of_decide_eq_true hb
    obtain ⟨x, rfl⟩ := ab_int_at h rfl
    rw [e]
    exact ⟨rfl, rfl⟩
theorem ab_put_ok_ {idx : Nat} (hl : ab_gl l lo) (hs : ab_gs st ss) (hh : ab_gh h hp) : ab_ok (ab_put_ G y pc l st h cb sb idx) (mv_put G y pc lo ss hp cb sb idx) := by
  unfold ab_put_
  split
  · rename_i v a r
    obtain ⟨w1, t1, rfl, g1, hs1⟩ := ab_gs_cons hs
    obtain ⟨w2, t2, rfl, g2, hs2⟩ := ab_gs_cons hs1
    rw [g2.1]
    split
    · rename_i ci N F cj k ha hf
      split
      · rename_i ty hty
        cases hb : (Nat.beq ci cj && Nat.blt k N && ab_fit ty v && (!mv_gP G cj k || mv_gQ G y cj)) with
        | false => exact ab_ok_none
        | true =>
          simp only [Bool.and_eq_true] at hb
          obtain ⟨⟨⟨b1, b2⟩, b3⟩, b4⟩ := hb
          obtain ⟨e, he, fs, rfl, hn, hF⟩ := ab_at_ok hh ha
          have hk : k < fs.length := by rw [hn]; exact Nat.le_of_ble_eq_true b2
          obtain ⟨f1, f2⟩ := ab_fit_ok g1 b3
          unfold mv_put
          dsimp only
          rw [he, hf]
          dsimp only
          rw [hty]
          dsimp only
          rw [if_pos ⟨Nat.eq_of_beq_eq_true b1, f1, f2, hk, fun hp => by rw [hp] at b4; simpa using b4⟩]
          refine ab_ok_mk hl hs2 (ab_put_ok hh ⟨fs.set k w1, rfl, by rw [List.length_set]; exact hn, fun j u hj => ?_⟩)
          show ab_g (bif Nat.beq j k then v else F j) u
          by_cases hkj : k = j
          · subst hkj
            rw [List.getElem?_set_self hk] at hj
            cases hj
            rw [Nat.beq_refl]
            exact g1
          · rw [List.getElem?_set_ne hkj] at hj
            cases hq : Nat.beq j k with
            | true => exact absurd (Nat.eq_of_beq_eq_true hq).symm hkj
            | false => exact hF j u hj
      · exact ab_ok_none
    · exact ab_ok_none
  · exact ab_ok_none
theorem ab_new_ok {idx : Nat} (hl : ab_gl l lo) (hs : ab_gs st ss) (hh : ab_gh h hp) : ab_ok (ab_new G y pc l st h cb sb idx) (mv_new G y pc lo ss hp cb sb idx) := by
  unfold ab_new
  split
  · rename_i ci hci
    cases hb : (Nat.ble 1 cb && Nat.ble (mv_gZ G ci) sb && (mv_gD G ci).all (fun v => Nat.beq v.category 1)) with
    | false => exact ab_ok_none
    | true =>
      simp only [Bool.and_eq_true] at hb
      obtain ⟨⟨b1, b2⟩, b3⟩ := hb
      unfold mv_new
      rw [hci]
      dsimp only
      rw [if_pos ⟨Nat.le_of_ble_eq_true b1, Nat.le_of_ble_eq_true b2⟩]
      rw [cond_true, ab_fn_eq, ab_fn_eq, ab_fn_eq, ← hh.1]
      refine ab_ok_mk hl ⟨⟨rfl, rfl⟩, hs⟩ (ab_app_ok hh ⟨_, rfl, rfl, fun k v hv => ?_⟩)
      refine ⟨?_, ?_⟩
      · rw [List.getD_eq_getElem?_getD, hv]
        rfl
      · rw [List.getD_eq_getElem?_getD, hv]
        exact Nat.eq_of_beq_eq_true (List.all_eq_true.mp b3 v (List.mem_of_getElem? hv))
  · exact ab_ok_none
theorem ab_newa_ok {at_ : ArrayType} (hl : ab_gl l lo) (hs : ab_gs st ss) (hh : ab_gh h hp) : ab_ok (ab_newa pc l st h cb sb at_) (mv_newa pc lo ss hp cb sb at_) := by
  unfold ab_newa
  split
  · rename_i n r
    obtain ⟨w1, t1, rfl, g1, hs1⟩ := ab_gs_cons hs
    rw [g1.1]
    unfold mv_newa
    dsimp only
    split
    · rename_i t ht
      rw [ht]
      dsimp only
      split
      · rename_i hc
        rw [ab_fn_eq, ab_fn_eq, ab_fn_eq, ab_fn_eq, ← hh.1]
        exact ab_ok_mk hl ⟨⟨rfl, rfl⟩, hs1⟩ (ab_app_ok hh ⟨_, rfl, fun k => ⟨rfl, rfl⟩⟩)
      · exact ab_ok_none
    · exact ab_ok_none
  · exact ab_ok_none
theorem ab_anew_ok {idx : Nat} (hl : ab_gl l lo) (hs : ab_gs st ss) (hh : ab_gh h hp) : ab_ok (ab_anew G y pc l st h cb sb idx) (mv_anew G y pc lo ss hp cb sb idx) := by
  unfold ab_anew
  split
  · rename_i n r
    obtain ⟨w1, t1, rfl, g1, hs1⟩ := ab_gs_cons hs
    rw [g1.1]
    unfold mv_anew
    dsimp only
    split
    · rename_i t ht
      rw [ht]
      dsimp only
      split
      · rename_i hc
        rw [ab_fn_eq, ab_fn_eq, ab_fn_eq, ab_fn_eq, ← hh.1]
        exact ab_ok_mk hl ⟨⟨rfl, rfl⟩, hs1⟩ (ab_app_ok hh rfl)
      · exact ab_ok_none
    · exact ab_ok_none
  · exact ab_ok_none
theorem ab_iald_ok (hl : ab_gl l lo) (hs : ab_gs st ss) (hh : ab_gh h hp) : ab_ok (ab_iald pc l st h cb sb) (mv_iald pc lo ss hp cb sb) := by
  unfold ab_iald
  split
  · rename_i i a r
    obtain ⟨w1, t1, rfl, g1, hs1⟩ := ab_gs_cons hs
    obtain ⟨w2, t2, rfl, g2, hs2⟩ := ab_gs_cons hs1
    rw [g1.1, g2.1]
    split
    · rename_i t n F ha
      cases hb : (Nat.beq t 0 && !mv_out i n) with
      | false => exact ab_ok_none
      | true =>
        rw [Bool.and_eq_true] at hb
        obtain ⟨e, he, f, rfl, hf⟩ := ab_at_ok hh ha
        have ht : t = 0 := Nat.eq_of_beq_eq_true hb.1
        subst ht
        unfold mv_iald
        dsimp only
        rw [he]
        show ab_ok _ (if mv_out i n = true then none else some (.inl (pc + 1, lo, .int (f i.toNatClampNeg) :: t2, hp, cb, sb)))
        rw [if_neg (show ¬ mv_out i n = true by have := hb.2; simpa using this)]
        exact ab_ok_mk hl ⟨hf _, hs2⟩ hh
    · exact ab_ok_none
  · exact ab_ok_none
theorem ab_bald_ok (hl : ab_gl l lo) (hs : ab_gs st ss) (hh : ab_gh h hp) : ab_ok (ab_bald pc l st h cb sb) (mv_bald pc lo ss hp cb sb) := by
  unfold ab_bald
  split
  · rename_i i a r
    obtain ⟨w1, t1, rfl, g1, hs1⟩ := ab_gs_cons hs
    obtain ⟨w2, t2, rfl, g2, hs2⟩ := ab_gs_cons hs1
    rw [g1.1, g2.1]
    split
    · rename_i t n F ha
      cases hb : ((Nat.beq t 1 || Nat.beq t 2) && !mv_out i n) with
      | false => exact ab_ok_none
      | true =>
        rw [Bool.and_eq_true, Bool.or_eq_true] at hb
        obtain ⟨e, he, f, rfl, hf⟩ := ab_at_ok hh ha
        unfold mv_bald
        dsimp only
        rw [he]
        dsimp only
        rw [if_pos ⟨hb.1.imp Nat.eq_of_beq_eq_true Nat.eq_of_beq_eq_true, by have := hb.2; simpa using this⟩]
        exact ab_ok_mk hl ⟨hf _, hs2⟩ hh
    · exact ab_ok_none
  · exact ab_ok_none
theorem ab_aald_ok (hl : ab_gl l lo) (hs : ab_gs st ss) (hh : ab_gh h hp) : ab_ok (ab_aald G pc l st h cb sb) (mv_aald G pc lo ss hp cb sb) := by
  unfold ab_aald
  split
  · rename_i i a r
    obtain ⟨w1, t1, rfl, g1, hs1⟩ := ab_gs_cons hs
    obtain ⟨w2, t2, rfl, g2, hs2⟩ := ab_gs_cons hs1
    rw [g1.1, g2.1]
    split
    · rename_i t n g ha
      split
      · rename_i ty hty
        cases hb : (ty.isReference && !mv_out i n) with
        | false => exact ab_ok_none
        | true =>
          rw [Bool.and_eq_true] at hb
          obtain ⟨e, he, h1⟩ := ab_at_ok hh ha
          have h1 : e = .inl (t, n, .inr (.inr (.inr (.inr g)))) := h1
          subst h1
          unfold mv_aald
          dsimp only
          rw [he]
          dsimp only
          rw [hty]
          dsimp only
          rw [if_pos ⟨hb.1, by have := hb.2; simpa using this⟩]
          show ab_ok (match g i.toNatClampNeg with | some q => ab_fn q fun q' => ab_mk (pc + 1) l (.inl (.ref q') :: r) h cb sb | none => ab_mk (pc + 1) l (.inl .null :: r) h cb sb) _
          cases g i.toNatClampNeg with
          | none => exact ab_ok_mk hl ⟨⟨rfl, rfl⟩, hs2⟩ hh
          | some q =>
            dsimp only
            rw [ab_fn_eq]
            exact ab_ok_mk hl ⟨⟨rfl, rfl⟩, hs2⟩ hh
      · exact ab_ok_none
    · exact ab_ok_none
  · exact ab_ok_none
theorem ab_updi {F : Nat → ab_V} {f : Nat → Int32} (hf : ∀ k, ab_g (F k) (.int (f k))) {v : ab_V} {x : Int32} (hv : ab_g v (.int x)) (j k : Nat) : ab_g (bif Nat.beq k j then v else F k) (.int (upd f j x k)) := by
  unfold upd
  cases hq : Nat.beq k j with
  | true =>
    have := Nat.eq_of_beq_eq_true hq
    simp [this]
    exact hv
  | false =>
    have hne : k ≠ j := fun q => by rw [q, Nat.beq_refl] at hq; cases hq
    simp [hne]
    exact hf k
theorem ab_iast_ok (hl : ab_gl l lo) (hs : ab_gs st ss) (hh : ab_gh h hp) : ab_ok (ab_iast pc l st h cb sb) (mv_iast pc lo ss hp cb sb) := by
  unfold ab_iast
  split
  · rename_i x i a r
    obtain ⟨w0, t0, rfl, g0, hs0⟩ := ab_gs_cons hs
    obtain ⟨w1, t1, rfl, g1, hs1⟩ := ab_gs_cons hs0
    obtain ⟨w2, t2, rfl, g2, hs2⟩ := ab_gs_cons hs1
    rw [g1.1, g2.1]
    split
    · rename_i t n F ha
      cases hb : (Nat.beq t 0 && !mv_out i n && ab_int x) with
      | false => exact ab_ok_none
      | true =>
        simp only [Bool.and_eq_true] at hb
        obtain ⟨⟨b1, b2⟩, b3⟩ := hb
        obtain ⟨e, he, f, rfl, hf⟩ := ab_at_ok hh ha
        have ht : t = 0 := Nat.eq_of_beq_eq_true b1
        subst ht
        obtain ⟨v, rfl⟩ := ab_int_at g0 b3
        unfold mv_iast
        dsimp only
        rw [he]
        show ab_ok _ (if mv_out i n = true then none else some (.inl (pc + 1, lo, t2, hp.set a (.inl (0, n, .inl (upd f i.toNatClampNeg v))), cb, sb)))
        rw [if_neg (show ¬ mv_out i n = true by simpa using b2)]
        rw [cond_true, ab_fn_eq]
        exact ab_ok_mk hl hs2 (ab_put_ok hh ⟨_, rfl, fun k => ab_updi hf g0 _ k⟩)
    · exact ab_ok_none
  · exact ab_ok_none
theorem ab_bast_ok (hl : ab_gl l lo) (hs : ab_gs st ss) (hh : ab_gh h hp) : ab_ok (ab_bast pc l st h cb sb) (mv_bast pc lo ss hp cb sb) := by
  unfold ab_bast
  split
  · rename_i x i a r
    obtain ⟨w0, t0, rfl, g0, hs0⟩ := ab_gs_cons hs
    obtain ⟨w1, t1, rfl, g1, hs1⟩ := ab_gs_cons hs0
    obtain ⟨w2, t2, rfl, g2, hs2⟩ := ab_gs_cons hs1
    rw [g1.1, g2.1]
    split
    · rename_i t n F ha
      cases hb : ((Nat.beq t 1 || Nat.beq t 2) && !mv_out i n && ab_int x) with
      | false => exact ab_ok_none
      | true =>
        simp only [Bool.and_eq_true, Bool.or_eq_true] at hb
        obtain ⟨⟨b1, b2⟩, b3⟩ := hb
        obtain ⟨e, he, f, rfl, hf⟩ := ab_at_ok hh ha
        obtain ⟨v, rfl⟩ := ab_int_at g0 b3
        have b1 : t = 1 ∨ t = 2 := b1.imp Nat.eq_of_beq_eq_true Nat.eq_of_beq_eq_true
        have hout : mv_out i n = false := by simpa using b2
        have hm : mv_bast pc lo (Value.int v :: Value.int i :: Value.ref a :: t2) hp cb sb = some (.inl (pc + 1, lo, t2, hp.set a (.inl (t, n, .inl (upd f i.toNatClampNeg (if t = 1 then vp_nar .byte v else vp_nar .boolean v)))), cb, sb)) := by
          unfold mv_bast
          dsimp only
          rw [he]
          dsimp only
          rw [if_pos hout]
          rcases b1 with rfl | rfl
          · rfl
          · rfl
        rw [hm]
        rw [cond_true, ab_fn_eq]
        split
        · rename_i v' 
          have e1 : v = _ := Value.int.inj g0.1
          rw [ab_fi_eq, ← e1]
          exact ab_ok_mk hl hs2 (ab_put_ok hh ⟨_, rfl, fun k => ab_updi hf (show ab_g (.inl (.int _)) (.int _) from ⟨rfl, rfl⟩) _ k⟩)
        · exact ab_ok_mk hl hs2 (ab_put_ok hh ⟨_, rfl, fun k => ab_updi hf (ab_full_ok _) _ k⟩)
    · exact ab_ok_none
  · exact ab_ok_none
theorem ab_aast_ok (hl : ab_gl l lo) (hs : ab_gs st ss) (hh : ab_gh h hp) : ab_ok (ab_aast G pc l st h cb sb) (mv_aast G pc lo ss hp cb sb) := by
  unfold ab_aast
  split
  · rename_i v i a r
    obtain ⟨w0, t0, rfl, g0, hs0⟩ := ab_gs_cons hs
    obtain ⟨w1, t1, rfl, g1, hs1⟩ := ab_gs_cons hs0
    obtain ⟨w2, t2, rfl, g2, hs2⟩ := ab_gs_cons hs1
    rw [g1.1, g2.1]
    split
    · rename_i t n g ha
      split
      · rename_i ci hci
        cases hb : mv_out i n with
        | true => exact ab_ok_none
        | false =>
          obtain ⟨e, he, h1⟩ := ab_at_ok hh ha
          have h1 : e = .inl (t, n, .inr (.inr (.inr (.inr g)))) := h1
          subst h1
          unfold mv_aast
          dsimp only
          rw [he]
          dsimp only
          rw [hci]
          dsimp only
          rw [if_pos hb]
          rw [Bool.not_false, cond_true, ab_fn_eq]
          split
          · rw [g0.1]
            exact ab_ok_mk hl hs2 (ab_put_ok hh rfl)
          · rename_i b
            rw [g0.1]
            split
            · rename_i cj N F hb2
              cases hq : Nat.beq cj ci with
              | false => exact ab_ok_none
              | true =>
                obtain ⟨e2, he2, fs, rfl, -⟩ := ab_at_ok hh hb2
                dsimp only
                rw [he2]
                dsimp only
                rw [if_pos (Nat.eq_of_beq_eq_true hq)]
                exact ab_ok_mk hl hs2 (ab_put_ok hh rfl)
            · exact ab_ok_none
          · exact ab_ok_none
      · exact ab_ok_none
    · exact ab_ok_none
  · exact ab_ok_none
theorem ab_alen_ok (hl : ab_gl l lo) (hs : ab_gs st ss) (hh : ab_gh h hp) : ab_ok (ab_alen G pc l st h cb sb) (mv_alen G pc lo ss hp cb sb) := by
  unfold ab_alen
  split
  · rename_i a r
    obtain ⟨w1, t1, rfl, g1, hs1⟩ := ab_gs_cons hs
    rw [g1.1]
    split
    · rename_i t n F ha
      obtain ⟨e, he, f, rfl, hf⟩ := ab_at_ok hh ha
      unfold mv_alen
      dsimp only
      rw [he]
      dsimp only
      split
      · rename_i ty hty
        rw [ab_fi_eq]
        try rw [hty]
        exact ab_ok_mk hl ⟨⟨rfl, rfl⟩, hs1⟩ hh
      · exact ab_ok_none
    · rename_i t n g ha
      obtain ⟨e, he, h1⟩ := ab_at_ok hh ha
      have h1 : e = .inl (t, n, .inr (.inr (.inr (.inr g)))) := h1
      subst h1
      unfold mv_alen
      dsimp only
      rw [he]
      dsimp only
      split
      · rename_i ty hty
        rw [ab_fi_eq]
        try rw [hty]
        exact ab_ok_mk hl ⟨⟨rfl, rfl⟩, hs1⟩ hh
      · exact ab_ok_none
    · exact ab_ok_none
  · exact ab_ok_none
theorem ab_ldc_ok {idx len : Nat} (hl : ab_gl l lo) (hs : ab_gs st ss) (hh : ab_gh h hp) : ab_ok (ab_ldc G y pc l st h cb sb idx len) (mv_ldc G y pc lo ss hp cb sb idx len) := by
  unfold ab_ldc mv_ldc
  split
  · rename_i v hv
    rw [ab_fi_eq, hv]
    exact ab_ok_mk hl ⟨⟨rfl, rfl⟩, hs⟩ hh
  · rename_i a ha
    rw [ha]
    exact ab_ok_mk hl ⟨⟨rfl, rfl⟩, hs⟩ hh
  · exact ab_ok_none
theorem ab_grid2_ok {t t1 n k q j : Nat} {e : va_E} (he : (mv_grid2 t t1 n k q)[j]? = some e) : ab_ge (ab_grid2 t t1 n k q j) e := by
  unfold mv_grid2 at he
  cases j with
  | zero =>
    cases he
    rfl
  | succ j =>
    rw [List.getElem?_cons_succ] at he
    unfold mv_rows at he
    have h1 := List.mem_of_getElem? he
    have h2 := (List.mem_replicate.mp h1).2
    exact ⟨_, h2, fun k => ⟨rfl, rfl⟩⟩
theorem ab_grid2_len (t t1 n k q : Nat) : (mv_grid2 t t1 n k q).length = n + 1 := by
  unfold mv_grid2 mv_rows
  rw [List.length_cons, List.length_replicate]
theorem ab_blocks_ok {t1 t2 k j q : Nat} : ∀ (i : Nat), (mv_blocks t1 t2 k j q i).length = i * (k + 1) ∧ ∀ (z : Nat) (e : va_E), (mv_blocks t1 t2 k j q i)[z]? = some e → ab_ge (ab_grid2 t1 t2 k j (q + z / (k + 1) * (k + 1)) (z % (k + 1))) e
  | 0 => ⟨by simp [mv_blocks], fun z e h => by simp [mv_blocks] at h⟩
  | i + 1 => by
    obtain ⟨h1, h2⟩ := ab_blocks_ok (t1 := t1) (t2 := t2) (k := k) (j := j) (q := q) i
    refine ⟨?_, fun z e h => ?_⟩
    · unfold mv_blocks
      rw [List.length_append, h1, ab_grid2_len, Nat.succ_mul]
    · unfold mv_blocks at h
      rcases Nat.lt_or_ge z (i * (k + 1)) with hz | hz
      · rw [List.getElem?_append_left (by rw [h1]; exact hz)] at h
        exact h2 z e h
      · rw [List.getElem?_append_right (by rw [h1]; exact hz), h1] at h
        have hlt : z - i * (k + 1) < k + 1 := by
          have := (List.getElem?_eq_some_iff.mp h).1
          rw [ab_grid2_len] at this
          exact this
        have e1 : z = (z - i * (k + 1)) + (k + 1) * i := by have := Nat.mul_comm (k + 1) i; omega
        have e2 : z / (k + 1) = i := by
          rw [e1, Nat.add_mul_div_left _ _ (Nat.succ_pos k), Nat.div_eq_of_lt hlt, Nat.zero_add]
        have e3 : z % (k + 1) = z - i * (k + 1) := by
          have h9 : z % (k + 1) = (z - i * (k + 1)) % (k + 1) := by
            conv => lhs; rw [e1, Nat.add_mul_mod_self_left]
          rw [h9, Nat.mod_eq_of_lt hlt]
        rw [e2, e3]
        exact ab_grid2_ok h
theorem ab_multi_ok {idx d : Nat} (hl : ab_gl l lo) (hs : ab_gs st ss) (hh : ab_gh h hp) : ab_ok (ab_multi G y pc l st h cb sb idx d) (mv_multi G y pc lo ss hp cb sb idx d) := by
  unfold ab_multi
  split
  · rename_i t t1 t2 hM
    split
    · rename_i k n r
      obtain ⟨w1, r1, rfl, g1, hs1⟩ := ab_gs_cons hs
      obtain ⟨w2, r2, rfl, g2, hs2⟩ := ab_gs_cons hs1
      rw [g1.1, g2.1]
      unfold mv_multi
      rw [hM]
      dsimp only
      split
      · split
        · rw [ab_fn_eq, ab_fn_eq, ab_fn_eq, ab_fn_eq, ab_fn_eq, ← hh.1]
          split
          · rename_i h' ha
            exact ab_ok_mk hl ⟨⟨rfl, rfl⟩, hs2⟩ (ab_apps_ok hh (ab_grid2_len _ _ _ _ _) (fun j e he => ab_grid2_ok he) ha)
          · exact ab_ok_none
        · exact ab_ok_none
      · split
        · rename_i z r'
          obtain ⟨w3, r3, rfl, g3, hs3⟩ := ab_gs_cons hs2
          rw [g3.1]
          dsimp only
          split
          · rw [ab_fn_eq, ab_fn_eq, ab_fn_eq, ab_fn_eq, ab_fn_eq, ab_fn_eq, ← hh.1]
            split
            · rename_i h' ha
              refine ab_ok_mk hl ⟨⟨rfl, rfl⟩, hs3⟩ (ab_apps_ok hh ?_ (fun j e he => ?_) ha)
              · unfold mv_grid3
                rw [List.length_cons, (ab_blocks_ok _).1, Nat.add_comm]
              · unfold mv_grid3 at he
                cases j with
                | zero =>
                  cases he
                  rfl
                | succ j =>
                  rw [List.getElem?_cons_succ] at he
                  exact (ab_blocks_ok _).2 j e he
            · exact ab_ok_none
          · exact ab_ok_none
        · exact ab_ok_none
    · exact ab_ok_none
  · exact ab_ok_none
end ABH
