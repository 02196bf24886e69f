/-! boxes: the instructions on numbers, locals, the stack -/
abbrev ab_S : Type := Nat × ab_L × List ab_V × ab_H × Nat × Nat
def ab_gS (A : ab_S) (S : mv_S) : Prop := A.1 = S.1 ∧ ab_gl A.2.1 S.2.1 ∧ ab_gs A.2.2.1 S.2.2.1 ∧ ab_gh A.2.2.2.1 S.2.2.2.1 ∧ A.2.2.2.2.1 = S.2.2.2.2.1 ∧ A.2.2.2.2.2 = S.2.2.2.2.2
/-- what an instruction's box leads to, its small machine leads to -/
def ab_ok (o : Option ab_S) (r : Option mv_R) : Prop := ∀ A, o = some A → ∃ S, r = some (.inl S) ∧ ab_gS A S
theorem ab_ok_none {r : Option mv_R} : ab_ok none r := fun _ h => by cases h
def ab_mk (pc : Nat) (l : ab_L) (st : List ab_V) (h : ab_H) (cb sb : Nat) : Option ab_S := ab_fn pc fun p => some (p, l, st, h, cb, sb)
theorem ab_mk_eq (pc : Nat) (l : ab_L) (st : List ab_V) (h : ab_H) (cb sb : Nat) : ab_mk pc l st h cb sb = some (pc, l, st, h, cb, sb) := ab_fn_eq _ _
theorem ab_ok_mk {pc : Nat} {l : ab_L} {st : List ab_V} {h : ab_H} {cb sb : Nat} {lo : List (Nat × Value)} {ss : List Value} {hp : List va_E} (hl : ab_gl l lo) (hs : ab_gs st ss) (hh : ab_gh h hp) : ab_ok (ab_mk pc l st h cb sb) (some (.inl (pc, lo, ss, hp, cb, sb))) := fun A q => by
  rw [ab_mk_eq] at q
  cases q
  exact ⟨_, rfl, rfl, hl, hs, hh, rfl, rfl⟩
def ab_full : ab_V := .inr (.inl (-2147483648, 2147483647))
theorem ab_full_ok (x : Int32) : ab_g ab_full (.int x) := ⟨x, rfl, Int32.le_toInt x, Int.le_of_lt_add_one (Int32.toInt_lt x)⟩
def ab_lo : ab_V → Int
  | .inl (.int x) => x.toInt
  | .inr (.inl b) => b.1
  | _ => -2147483648
def ab_hi : ab_V → Int
  | .inl (.int x) => x.toInt
  | .inr (.inl b) => b.2
  | _ => 2147483647
theorem ab_lohi : ∀ {v : ab_V} {x : Int32}, ab_g v (.int x) → ab_lo v ≤ x.toInt ∧ x.toInt ≤ ab_hi v
  | .inl v, x, h => by
    rw [← h.1]
    exact ⟨Int.le_refl _, Int.le_refl _⟩
  | .inr (.inl b), x, ⟨y, h, h1, h2⟩ => by
    cases h
    exact ⟨h1, h2⟩
  | .inr (.inr m), x, _ => ⟨Int32.le_toInt x, Int.le_of_lt_add_one (Int32.toInt_lt x)⟩
section
variable (G : mv_G) (y pc : Nat) (l : ab_L) (st : List ab_V) (h : ab_H) (cb sb : Nat)
def ab_push (len : Nat) (v : ab_V) : Option ab_S := ab_mk (pc + len) l (v :: st) h cb sb
def ab_pushi (len : Nat) (x : Int32) : Option ab_S := ab_fi x fun w => ab_mk (pc + len) l (.inl (.int w) :: st) h cb sb
def ab_load (i len : Nat) (b : ab_V → Bool) : Option ab_S := match l i with
  | some v => bif b v then ab_mk (pc + len) l (v :: st) h cb sb else none
  | none => none
def ab_store (i len : Nat) (b : ab_V → Bool) : Option ab_S := match st with
  | v :: r => bif b v && Nat.blt i (mv_gL G y) then ab_mk (pc + len) (ab_ls l i v) r h cb sb else none
  | [] => none
def ab_inc (i : Nat) (n : Int) (len : Nat) : Option ab_S := match l i with
  | some (.inl (.int x)) => bif Nat.blt i (mv_gL G y) then ab_fi (x + Int32.ofInt n) fun w => ab_mk (pc + len) (ab_ls l i (.inl (.int w))) st h cb sb else none
  | some (.inr _) => bif Nat.blt i (mv_gL G y) then ab_mk (pc + len) (ab_ls l i ab_full) st h cb sb else none
  | _ => none
/-- what bounds an operation keeps: 1 'and', 2 plus, 3 minus -/
def ab_res (kd : Nat) (a b : ab_V) : ab_V := match kd, a, b with
  | 1, .inr (.inr m), .inl (.int c) => if c = 31 then .inl (.int m) else ab_full
  | 2, a, b => if -2147483648 ≤ ab_lo a + ab_lo b ∧ ab_hi a + ab_hi b ≤ 2147483647 then .inr (.inl (ab_lo a + ab_lo b, ab_hi a + ab_hi b)) else ab_full
  | 3, a, b => if -2147483648 ≤ ab_lo a - ab_hi b ∧ ab_hi a - ab_lo b ≤ 2147483647 then .inr (.inl (ab_lo a - ab_hi b, ab_hi a - ab_lo b)) else ab_full
  | _, _, _ => ab_full
def ab_bin (kd : Nat) (f : Int32 → Int32 → Int32) : Option ab_S := match st with
  | .inl (.int b) :: .inl (.int a) :: r => ab_fi (f a b) fun w => ab_mk (pc + 1) l (.inl (.int w) :: r) h cb sb
  | b :: a :: r => bif ab_int a && ab_int b then ab_mk (pc + 1) l (ab_res kd a b :: r) h cb sb else none
  | _ => none
def ab_dvd (f : Int32 → Int32 → Int32) : Option ab_S := match st with
  | .inl (.int b) :: .inl (.int a) :: r => if b = 0 then none else ab_fi (f a b) fun w => ab_mk (pc + 1) l (.inl (.int w) :: r) h cb sb
  | .inl (.int b) :: .inr _ :: r => if b = 0 then none else ab_mk (pc + 1) l (ab_full :: r) h cb sb
  | _ => none
def ab_un (f : Int32 → Int32) : Option ab_S := match st with
  | .inl (.int a) :: r => ab_fi (f a) fun w => ab_mk (pc + 1) l (.inl (.int w) :: r) h cb sb
  | .inr _ :: r => ab_mk (pc + 1) l (ab_full :: r) h cb sb
  | _ => none
def ab_dup : Option ab_S := match st with
  | v :: r => ab_mk (pc + 1) l (v :: v :: r) h cb sb
  | _ => none
def ab_pop : Option ab_S := match st with
  | _ :: r => ab_mk (pc + 1) l r h cb sb
  | _ => none
def ab_dupx : Option ab_S := match st with
  | v :: w :: r => ab_mk (pc + 1) l (v :: w :: v :: r) h cb sb
  | _ => none
def ab_dup2 : Option ab_S := match st with
  | v :: w :: r => ab_mk (pc + 1) l (v :: w :: v :: w :: r) h cb sb
  | _ => none
def ab_jump (off : Int) (c : Bool) (r : List ab_V) : Option ab_S := match mv_tgt pc off with
  | some t => bif c then ab_mk t l r h cb sb else ab_mk (pc + 3) l r h cb sb
  | none => none
/-- a comparison, where the bounds decide it -/
def ab_cmp (c : Jvm.ClassFile.Cond) (a b : ab_V) : Option Bool := match a, b with
  | .inl (.int x), .inl (.int z) => some (mv_cond c x z)
  | a, b => if ab_hi a < ab_lo b then (match c with | .eq => some false | .ne => some true | .lt => some true | .ge => some false | .gt => some false | .le => some true)
    else if ab_hi b < ab_lo a then (match c with | .eq => some false | .ne => some true | .lt => some false | .ge => some true | .gt => some true | .le => some false)
    else if ab_hi a ≤ ab_lo b then (match c with | .gt => some false | .le => some true | _ => none)
    else if ab_hi b ≤ ab_lo a then (match c with | .lt => some false | .ge => some true | _ => none)
    else none
def ab_if (c : Jvm.ClassFile.Cond) (off : Int) : Option ab_S := match st with
  | a :: r => bif ab_int a then (match ab_cmp c a (.inl (.int 0)) with
    | some q => ab_jump pc l h cb sb off q r
    | none => none) else none
  | _ => none
def ab_icmp (c : Jvm.ClassFile.Cond) (off : Int) : Option ab_S := match st with
  | b :: a :: r => bif ab_int a && ab_int b then (match ab_cmp c a b with
    | some q => ab_jump pc l h cb sb off q r
    | none => none) else none
  | _ => none
def ab_acmp (c : ACond) (off : Int) : Option ab_S := match st with
  | .inl b :: .inl a :: r => match mv_ptr a, mv_ptr b with
    | some x, some z => ab_jump pc l h cb sb off (match c with | .eq => decide (x = z) | .ne => decide (¬ x = z)) r
    | _, _ => none
  | _ => none
def ab_ifn (n : Bool) (off : Int) : Option ab_S := match st with
  | .inl .null :: r => ab_jump pc l h cb sb off n r
  | .inl (.ref _) :: r => ab_jump pc l h cb sb off (!n) r
  | _ => none
def ab_tsw (dflt lo hi : Int) (offs : Array Int) : Option ab_S := match st with
  | .inl (.int x) :: r => if x.toInt < lo ∨ hi < x.toInt then match mv_tgt pc dflt with
      | some t => ab_mk t l r h cb sb
      | none => none
    else match offs[(x.toInt - lo).toNat]? with
      | some off => match mv_tgt pc off with
        | some t => ab_mk t l r h cb sb
        | none => none
      | none => none
  | _ => none
end
section ABI
variable {G : mv_G} {y pc : Nat} {l : ab_L} {st : List ab_V} {h : ab_H} {cb sb : Nat} {lo : List (Nat × Value)} {ss : List Value} {hp : List va_E} (hl : ab_gl l lo) (hs : ab_gs st ss) (hh : ab_gh h hp)
theorem ab_push_ok {len : Nat} {v : ab_V} {w : Value} (hl : ab_gl l lo) (hs : ab_gs st ss) (hh : ab_gh h hp) (hv : ab_g v w) : ab_ok (ab_push pc l st h cb sb len v) (mv_push pc lo ss hp cb sb len w) := ab_ok_mk hl ⟨hv, hs⟩ hh
theorem ab_pushi_ok {len : Nat} {x : Int32} (hl : ab_gl l lo) (hs : ab_gs st ss) (hh : ab_gh h hp) : ab_ok (ab_pushi pc l st h cb sb len x) (mv_push pc lo ss hp cb sb len (.int x)) := by
  unfold ab_pushi
  rw [ab_fi_eq]
  exact ab_ok_mk hl ⟨⟨rfl, rfl⟩, hs⟩ hh
theorem ab_load_ok {i len : Nat} {b : ab_V → Bool} {b' : Value → Bool} (hb : ∀ v w, ab_g v w → b v = true → b' w = true) (hl : ab_gl l lo) (hs : ab_gs st ss) (hh : ab_gh h hp) : ab_ok (ab_load pc l st h cb sb i len b) (mv_load pc lo ss hp cb sb i len b') := by
  unfold ab_load
  split
  · rename_i v hv
    cases hbv : b v with
    | false => exact ab_ok_none
    | true =>
      obtain ⟨j, w, h1, h2⟩ := hl i v hv
      unfold mv_load
      rw [h1]
      dsimp only
      rw [if_pos (hb v w h2 hbv)]
      exact ab_ok_mk hl ⟨h2, hs⟩ hh
  · exact ab_ok_none
theorem ab_store_ok {i len : Nat} {b : ab_V → Bool} {b' : Value → Bool} (hb : ∀ v w, ab_g v w → b v = true → b' w = true) (hl : ab_gl l lo) (hs : ab_gs st ss) (hh : ab_gh h hp) : ab_ok (ab_store G y pc l st h cb sb i len b) (mv_store G y pc lo ss hp cb sb i len b') := by
  unfold ab_store
  split
  · rename_i v r
    obtain ⟨w, t, rfl, h1, h2⟩ := ab_gs_cons hs
    cases hbv : (b v && Nat.blt i (mv_gL G y)) with
    | false => exact ab_ok_none
    | true =>
      rw [Bool.and_eq_true] at hbv
      unfold mv_store
      dsimp only
      rw [if_pos ⟨hb v w h1 hbv.1, Nat.le_of_ble_eq_true hbv.2⟩]
      exact ab_ok_mk (ab_ls_ok hl h1) h2 hh
  · exact ab_ok_none
theorem ab_inc_ok {i len : Nat} {n : Int} (hl : ab_gl l lo) (hs : ab_gs st ss) (hh : ab_gh h hp) : ab_ok (ab_inc G y pc l st h cb sb i n len) (mv_inc G y pc lo ss hp cb sb i n len) := by
  unfold ab_inc
  split
  · rename_i x hv
    cases hbv : Nat.blt i (mv_gL G y) with
    | false => exact ab_ok_none
    | true =>
      obtain ⟨j, w, h1, h2⟩ := hl i _ hv
      have e1 : w = .int x := h2.1
      subst e1
      unfold mv_inc
      rw [h1]
      dsimp only
      rw [if_pos (show i < mv_gL G y from Nat.le_of_ble_eq_true hbv)]
      rw [cond_true, ab_fi_eq]
      exact ab_ok_mk (ab_ls_ok hl ⟨rfl, rfl⟩) hs hh
  · rename_i x hv
    cases hbv : Nat.blt i (mv_gL G y) with
    | false => exact ab_ok_none
    | true =>
      obtain ⟨j, w, h1, h2⟩ := hl i _ hv
      obtain ⟨z, rfl⟩ := ab_int_at h2 rfl
      unfold mv_inc
      rw [h1]
      dsimp only
      rw [if_pos (show i < mv_gL G y from Nat.le_of_ble_eq_true hbv)]
      exact ab_ok_mk (ab_ls_ok hl (ab_full_ok _)) hs hh
  · exact ab_ok_none
theorem ab_res_ok {kd : Nat} {f : Int32 → Int32 → Int32} (h1 : kd = 1 → f = mv_f_iand) (h2 : kd = 2 → f = mv_f_iadd) (h3 : kd = 3 → f = mv_f_isub) {a b : ab_V} {x z : Int32} (ha : ab_g a (.int x)) (hb : ab_g b (.int z)) : ab_g (ab_res kd a b) (.int (f x z)) := by
  unfold ab_res
  split
  · rename_i m c
    split
    · rename_i hc
      obtain ⟨x', e1, e2⟩ := ha
      cases e1
      have e3 : z = c := Value.int.inj hb.1
      rw [h1 rfl]
      refine ⟨?_, rfl⟩
      show Value.int (x &&& z) = _
      rw [e3, hc, e2]
    · exact ab_full_ok _
  · split
    · rename_i hc
      obtain ⟨p1, p2⟩ := ab_lohi ha
      obtain ⟨q1, q2⟩ := ab_lohi hb
      rw [h2 rfl]
      have e : (x + z).toInt = x.toInt + z.toInt := by
        rw [Int32.toInt_add]
        exact Int.bmod_eq_of_le (by omega) (by omega)
      exact ⟨x + z, rfl, by show ab_lo a + ab_lo b ≤ _; rw [e]; omega, by show _ ≤ ab_hi a + ab_hi b; rw [e]; omega⟩
    · exact ab_full_ok _
  · split
    · rename_i hc
      obtain ⟨p1, p2⟩ := ab_lohi ha
      obtain ⟨q1, q2⟩ := ab_lohi hb
      rw [h3 rfl]
      have e : (x - z).toInt = x.toInt - z.toInt := by
        rw [Int32.toInt_sub]
        exact Int.bmod_eq_of_le (by omega) (by omega)
      exact ⟨x - z, rfl, by show ab_lo a - ab_hi b ≤ _; rw [e]; omega, by show _ ≤ ab_hi a - ab_lo b; rw [e]; omega⟩
    · exact ab_full_ok _
  · exact ab_full_ok _
theorem ab_bin_ok {kd : Nat} {f : Int32 → Int32 → Int32} (h1 : kd = 1 → f = mv_f_iand) (h2 : kd = 2 → f = mv_f_iadd) (h3 : kd = 3 → f = mv_f_isub) (hl : ab_gl l lo) (hs : ab_gs st ss) (hh : ab_gh h hp) : ab_ok (ab_bin pc l st h cb sb kd f) (mv_bin pc lo ss hp cb sb f) := by
  unfold ab_bin
  split
  · obtain ⟨w1, t1, rfl, g1, hs1⟩ := ab_gs_cons hs
    obtain ⟨w2, t2, rfl, g2, hs2⟩ := ab_gs_cons hs1
    rw [g1.1, g2.1, ab_fi_eq]
    exact ab_ok_mk hl ⟨⟨rfl, rfl⟩, hs2⟩ hh
  · rename_i b a r _
    obtain ⟨w1, t1, rfl, g1, hs1⟩ := ab_gs_cons hs
    obtain ⟨w2, t2, rfl, g2, hs2⟩ := ab_gs_cons hs1
    cases hb : (ab_int a && ab_int b) with
    | false => exact ab_ok_none
    | true =>
      rw [Bool.and_eq_true] at hb
      obtain ⟨z, rfl⟩ := ab_int_at g1 hb.2
      obtain ⟨x, rfl⟩ := ab_int_at g2 hb.1
      exact ab_ok_mk hl ⟨ab_res_ok h1 h2 h3 g2 g1, hs2⟩ hh
  · exact ab_ok_none
theorem ab_dvd_ok {f : Int32 → Int32 → Int32} (hl : ab_gl l lo) (hs : ab_gs st ss) (hh : ab_gh h hp) : ab_ok (ab_dvd pc l st h cb sb f) (mv_dvd pc lo ss hp cb sb f) := by
  unfold ab_dvd
  split
  · obtain ⟨w1, t1, rfl, g1, hs1⟩ := ab_gs_cons hs
    obtain ⟨w2, t2, rfl, g2, hs2⟩ := ab_gs_cons hs1
    rw [g1.1, g2.1]
    unfold mv_dvd
    dsimp only
    split
    · exact ab_ok_none
    · rw [ab_fi_eq]
      exact ab_ok_mk hl ⟨⟨rfl, rfl⟩, hs2⟩ hh
  · obtain ⟨w1, t1, rfl, g1, hs1⟩ := ab_gs_cons hs
    obtain ⟨w2, t2, rfl, g2, hs2⟩ := ab_gs_cons hs1
    obtain ⟨x, rfl⟩ := ab_int_at g2 rfl
    rw [g1.1]
    unfold mv_dvd
    dsimp only
    split
    · exact ab_ok_none
    · exact ab_ok_mk hl ⟨ab_full_ok _, hs2⟩ hh
  · exact ab_ok_none
theorem ab_un_ok {f : Int32 → Int32} (hl : ab_gl l lo) (hs : ab_gs st ss) (hh : ab_gh h hp) : ab_ok (ab_un pc l st h cb sb f) (mv_un pc lo ss hp cb sb f) := by
  unfold ab_un
  split
  · obtain ⟨w1, t1, rfl, g1, hs1⟩ := ab_gs_cons hs
    rw [g1.1, ab_fi_eq]
    exact ab_ok_mk hl ⟨⟨rfl, rfl⟩, hs1⟩ hh
  · obtain ⟨w1, t1, rfl, g1, hs1⟩ := ab_gs_cons hs
    obtain ⟨x, rfl⟩ := ab_int_at g1 rfl
    exact ab_ok_mk hl ⟨ab_full_ok _, hs1⟩ hh
  · exact ab_ok_none
theorem ab_dup_ok (hl : ab_gl l lo) (hs : ab_gs st ss) (hh : ab_gh h hp) : ab_ok (ab_dup pc l st h cb sb) (mv_dup pc lo ss hp cb sb) := by
  unfold ab_dup
  split
  · obtain ⟨w1, t1, rfl, g1, hs1⟩ := ab_gs_cons hs
    unfold mv_dup
    dsimp only
    rw [if_pos (ab_g_cat g1)]
    exact ab_ok_mk hl ⟨g1, g1, hs1⟩ hh
  · exact ab_ok_none
theorem ab_pop_ok (hl : ab_gl l lo) (hs : ab_gs st ss) (hh : ab_gh h hp) : ab_ok (ab_pop pc l st h cb sb) (mv_pop pc lo ss hp cb sb) := by
  unfold ab_pop
  split
  · obtain ⟨w1, t1, rfl, g1, hs1⟩ := ab_gs_cons hs
    unfold mv_pop
    dsimp only
    rw [if_pos (ab_g_cat g1)]
    exact ab_ok_mk hl hs1 hh
  · exact ab_ok_none
theorem ab_dupx_ok (hl : ab_gl l lo) (hs : ab_gs st ss) (hh : ab_gh h hp) : ab_ok (ab_dupx pc l st h cb sb) (mv_dupx pc lo ss hp cb sb) := by
  unfold ab_dupx
  split
  · obtain ⟨w1, t1, rfl, g1, hs1⟩ := ab_gs_cons hs
    obtain ⟨w2, t2, rfl, g2, hs2⟩ := ab_gs_cons hs1
    unfold mv_dupx
    dsimp only
    rw [if_pos ⟨ab_g_cat g1, ab_g_cat g2⟩]
    exact ab_ok_mk hl ⟨g1, g2, g1, hs2⟩ hh
  · exact ab_ok_none
theorem ab_dup2_ok (hl : ab_gl l lo) (hs : ab_gs st ss) (hh : ab_gh h hp) : ab_ok (ab_dup2 pc l st h cb sb) (mv_dup2 pc lo ss hp cb sb) := by
  unfold ab_dup2
  split
  · obtain ⟨w1, t1, rfl, g1, hs1⟩ := ab_gs_cons hs
    obtain ⟨w2, t2, rfl, g2, hs2⟩ := ab_gs_cons hs1
    unfold mv_dup2
    dsimp only
    rw [if_pos ⟨ab_g_cat g1, ab_g_cat g2⟩]
    exact ab_ok_mk hl ⟨g1, g2, g1, g2, hs2⟩ hh
  · exact ab_ok_none
theorem ab_jump_ok {off : Int} {q : Bool} {r : List ab_V} {t : List Value} (hl : ab_gl l lo) (hs : ab_gs r t) (hh : ab_gh h hp) : ab_ok (ab_jump pc l h cb sb off q r) (mv_jump pc lo hp cb sb off q t) := by
  unfold ab_jump mv_jump
  split
  · rename_i tg htg
    rw [htg]
    dsimp only
    cases q with
    | true =>
      have e : (if true = true then tg else pc + 3) = tg := rfl
      rw [e]
      exact ab_ok_mk hl hs hh
    | false =>
      have e : (if false = true then tg else pc + 3) = pc + 3 := rfl
      rw [e]
      exact ab_ok_mk hl hs hh
  · exact ab_ok_none
theorem ab_cmp_ok {c : Jvm.ClassFile.Cond} {a b : ab_V} {x z : Int32} {q : Bool} (ha : ab_g a (.int x)) (hb : ab_g b (.int z)) (hq : ab_cmp c a b = some q) : mv_cond c x z = q := by
  have key : ∀ {p : Prop} [Decidable p] {r : Bool}, (r = true ↔ p) → decide p = r := by
    intro p _ r h
    cases r with
    | true => exact decide_eq_true (h.mp rfl)
    | false => exact decide_eq_false fun hp => by have := h.mpr hp; cases this
  unfold ab_cmp at hq
  split at hq
  · have e1 : x = _ := Value.int.inj ha.1
    have e2 : z = _ := Value.int.inj hb.1
    rw [e1, e2]
    exact Option.some.inj hq
  · obtain ⟨p1, p2⟩ := ab_lohi ha
    obtain ⟨q1, q2⟩ := ab_lohi hb
    have lt1 := @Int32.lt_iff_toInt_lt x z
    have lt2 := @Int32.lt_iff_toInt_lt z x
    have le1 := @Int32.le_iff_toInt_le x z
    have le2 := @Int32.le_iff_toInt_le z x
    have eq1 : x = z → x.toInt = z.toInt := fun e => by rw [e]
    split at hq
    · cases c <;> cases hq <;> (refine key ?_; constructor <;> intro w <;> first | (exfalso; first | (cases w; done) | (have := eq1 w; omega) | (have := lt1.mp w; omega) | (have := lt2.mp w; omega) | (have := le1.mp w; omega) | (have := le2.mp w; omega)) | (exact lt1.mpr (by omega)) | (exact le1.mpr (by omega)) | (intro e; have := eq1 e; omega) | rfl)
    · split at hq
      · cases c <;> cases hq <;> (refine key ?_; constructor <;> intro w <;> first | (exfalso; first | (cases w; done) | (have := eq1 w; omega) | (have := lt1.mp w; omega) | (have := lt2.mp w; omega) | (have := le1.mp w; omega) | (have := le2.mp w; omega)) | (exact lt2.mpr (by omega)) | (exact le2.mpr (by omega)) | (intro e; have := eq1 e; omega) | rfl)
      · split at hq
        · cases c <;> cases hq <;> (refine key ?_; constructor <;> intro w <;> first | (exfalso; first | (cases w; done) | (have := lt1.mp w; omega) | (have := lt2.mp w; omega)) | (exact le1.mpr (by omega)) | rfl)
        · split at hq
          · cases c <;> cases hq <;> (refine key ?_; constructor <;> intro w <;> first | (exfalso; first | (cases w; done) | (have := lt1.mp w; omega) | (have := lt2.mp w; omega)) | (exact le2.mpr (by omega)) | rfl)
          · cases hq
theorem ab_if_ok {c : Jvm.ClassFile.Cond} {off : Int} (hl : ab_gl l lo) (hs : ab_gs st ss) (hh : ab_gh h hp) : ab_ok (ab_if pc l st h cb sb c off) (mv_if pc lo ss hp cb sb c off) := by
  unfold ab_if
  split
  · rename_i a r
    obtain ⟨w1, t1, rfl, g1, hs1⟩ := ab_gs_cons hs
    cases hb : ab_int a with
    | false => exact ab_ok_none
    | true =>
      obtain ⟨x, rfl⟩ := ab_int_at g1 hb
      show ab_ok (match ab_cmp c a (.inl (.int 0)) with | some q => ab_jump pc l h cb sb off q r | none => none) _
      split
      · rename_i q hq
        show ab_ok _ (mv_jump pc lo hp cb sb off (mv_cond c x 0) t1)
        rw [ab_cmp_ok g1 (show ab_g (.inl (.int 0)) (.int 0) from ⟨rfl, rfl⟩) hq]
        exact ab_jump_ok hl hs1 hh
      · exact ab_ok_none
  · exact ab_ok_none
theorem ab_icmp_ok {c : Jvm.ClassFile.Cond} {off : Int} (hl : ab_gl l lo) (hs : ab_gs st ss) (hh : ab_gh h hp) : ab_ok (ab_icmp pc l st h cb sb c off) (mv_icmp pc lo ss hp cb sb c off) := by
  unfold ab_icmp
  split
  · rename_i b a r
    obtain ⟨w1, t1, rfl, g1, hs1⟩ := ab_gs_cons hs
    obtain ⟨w2, t2, rfl, g2, hs2⟩ := ab_gs_cons hs1
    cases hb : (ab_int a && ab_int b) with
    | false => exact ab_ok_none
    | true =>
      rw [Bool.and_eq_true] at hb
      obtain ⟨z, rfl⟩ := ab_int_at g1 hb.2
      obtain ⟨x, rfl⟩ := ab_int_at g2 hb.1
      show ab_ok (match ab_cmp c a b with | some q => ab_jump pc l h cb sb off q r | none => none) _
      split
      · rename_i q hq
        show ab_ok _ (mv_jump pc lo hp cb sb off (mv_cond c x z) t2)
        rw [ab_cmp_ok g2 g1 hq]
        exact ab_jump_ok hl hs2 hh
      · exact ab_ok_none
  · exact ab_ok_none
theorem ab_acmp_ok {c : ACond} {off : Int} (hl : ab_gl l lo) (hs : ab_gs st ss) (hh : ab_gh h hp) : ab_ok (ab_acmp pc l st h cb sb c off) (mv_acmp pc lo ss hp cb sb c off) := by
  unfold ab_acmp
  split
  · rename_i b a r
    obtain ⟨w1, t1, rfl, g1, hs1⟩ := ab_gs_cons hs
    obtain ⟨w2, t2, rfl, g2, hs2⟩ := ab_gs_cons hs1
    rw [g1.1, g2.1]
    unfold mv_acmp
    dsimp only
    split
    · rename_i x0 z0 hx0 hz0
      rw [hx0, hz0]
      cases c
      · exact ab_jump_ok hl hs2 hh
      · exact ab_jump_ok hl hs2 hh
    · exact ab_ok_none
  · exact ab_ok_none
theorem ab_ifn_ok {n : Bool} {off : Int} (hl : ab_gl l lo) (hs : ab_gs st ss) (hh : ab_gh h hp) : ab_ok (ab_ifn pc l st h cb sb n off) (mv_ifn pc lo ss hp cb sb n off) := by
  unfold ab_ifn
  split
  · obtain ⟨w1, t1, rfl, g1, hs1⟩ := ab_gs_cons hs
    rw [g1.1]
    exact ab_jump_ok hl hs1 hh
  · obtain ⟨w1, t1, rfl, g1, hs1⟩ := ab_gs_cons hs
    rw [g1.1]
    exact ab_jump_ok hl hs1 hh
  · exact ab_ok_none
theorem ab_tsw_ok {dflt a b : Int} {offs : Array Int} (hl : ab_gl l lo) (hs : ab_gs st ss) (hh : ab_gh h hp) : ab_ok (ab_tsw pc l st h cb sb dflt a b offs) (mv_tsw pc lo ss hp cb sb dflt a b offs) := by
  unfold ab_tsw
  split
  · rename_i x r
    obtain ⟨w1, t1, rfl, g1, hs1⟩ := ab_gs_cons hs
    rw [g1.1]
    unfold mv_tsw
    dsimp only
    split
    · cases mv_tgt pc dflt with
      | none => exact ab_ok_none
      | some t => exact ab_ok_mk hl hs1 hh
    · cases offs[(x.toInt - a).toNat]? with
      | none => exact ab_ok_none
      | some off =>
        dsimp only
        cases mv_tgt pc off with
        | none => exact ab_ok_none
        | some t => exact ab_ok_mk hl hs1 hh
  · exact ab_ok_none
end ABI
