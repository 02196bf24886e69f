/-! boxes (ab_): the small machine over values of which only bounds are known; heap, locals and arrays are functions, so that the kernel runs it -/
/-- a value known; an int between two bounds; an int of which the last five bits are known -/
abbrev ab_V : Type := Value ⊕ ((Int × Int) ⊕ Int32)
def ab_g : ab_V → Value → Prop
  | .inl v, w => w = v ∧ v.category = 1
  | .inr (.inl b), w => ∃ x : Int32, w = .int x ∧ b.1 ≤ x.toInt ∧ x.toInt ≤ b.2
  | .inr (.inr m), w => ∃ x : Int32, w = .int x ∧ x &&& 31 = m
theorem ab_g_cat : ∀ {v : ab_V} {w : Value}, ab_g v w → w.category = 1
  | .inl _, _, h => by rw [h.1]; exact h.2
  | .inr (.inl _), _, ⟨x, h, _⟩ => by rw [h]; rfl
  | .inr (.inr _), _, ⟨x, h, _⟩ => by rw [h]; rfl
def ab_int : ab_V → Bool
  | .inl (.int _) => true
  | .inr _ => true
  | _ => false
def ab_rfv : ab_V → Bool
  | .inl (.ref _) => true
  | .inl .null => true
  | _ => false
theorem ab_int_ok : ∀ (v : ab_V) (w : Value), ab_g v w → ab_int v = true → mv_int w = true
  | .inl v, w, h, hb => by
    rw [h.1]
    cases v <;> first | rfl | cases hb
  | .inr (.inl _), _, ⟨x, h, _⟩, _ => by rw [h]; rfl
  | .inr (.inr _), _, ⟨x, h, _⟩, _ => by rw [h]; rfl
theorem ab_int_at {v : ab_V} {w : Value} (h : ab_g v w) (hb : ab_int v = true) : ∃ x : Int32, w = .int x := by
  have h1 := ab_int_ok v w h hb
  cases w <;> first | exact ⟨_, rfl⟩ | cases h1
theorem ab_rfv_ok : ∀ (v : ab_V) (w : Value), ab_g v w → ab_rfv v = true → mv_rfv w = true
  | .inl v, w, h, hb => by
    rw [h.1]
    cases v <;> first | rfl | cases hb
  | .inr _, _, _, hb => by cases hb
/-- a number worked out before it goes on -/
def ab_fn {α : Type} (n : Nat) (k : Nat → α) : α := match n with
  | 0 => k 0
  | m + 1 => k (m + 1)
theorem ab_fn_eq {α : Type} (n : Nat) (k : Nat → α) : ab_fn n k = k n := by
  cases n <;> rfl
def ab_fi {α : Type} (x : Int32) (k : Int32 → α) : α := ab_fn x.toUInt32.toNat fun n => k (Int32.ofNat n)
theorem ab_fi_eq {α : Type} (x : Int32) (k : Int32 → α) : ab_fi x k = k x := by
  unfold ab_fi
  rw [ab_fn_eq]
  congr 1
  show Int32.ofUInt32 (UInt32.ofNat x.toUInt32.toNat) = x
  rw [UInt32.ofNat_toNat]
/-- cells -/
abbrev ab_E : Type := (Nat × Nat × (Nat → ab_V)) ⊕ ((Nat × Nat × (Nat → Option Nat)) ⊕ (Nat × Nat × (Nat → ab_V)))
def ab_ge : ab_E → va_E → Prop
  | .inl q, e => ∃ f : Nat → Int32, e = .inl (q.1, q.2.1, .inl f) ∧ ∀ k, ab_g (q.2.2 k) (.int (f k))
  | .inr (.inl q), e => e = .inl (q.1, q.2.1, .inr (.inr (.inr (.inr q.2.2))))
  | .inr (.inr q), e => ∃ fs : List Value, e = .inr (q.1, fs) ∧ fs.length = q.2.1 ∧ ∀ k v, fs[k]? = some v → ab_g (q.2.2 k) v
/-- cells by their numbers, as far as 512: nine forks -/
abbrev ab_T1 : Type := ab_E × ab_E
abbrev ab_T2 : Type := ab_T1 × ab_T1
abbrev ab_T3 : Type := ab_T2 × ab_T2
abbrev ab_T4 : Type := ab_T3 × ab_T3
abbrev ab_T5 : Type := ab_T4 × ab_T4
abbrev ab_T6 : Type := ab_T5 × ab_T5
abbrev ab_T7 : Type := ab_T6 × ab_T6
abbrev ab_T8 : Type := ab_T7 × ab_T7
abbrev ab_T : Type := ab_T8 × ab_T8
def ab_fk {α : Type} (g : α → Nat → ab_E) (j : Nat) (t : α × α) (k : Nat) : ab_E := match t with
  | (a, b) => bif Nat.beq (Nat.mod (Nat.div k j) 2) 0 then g a k else g b k
def ab_fs_ {α : Type} (u : α → Nat → ab_E → α) (j : Nat) (t : α × α) (k : Nat) (x : ab_E) : α × α := match t with
  | (a, b) => bif Nat.beq (Nat.mod (Nat.div k j) 2) 0 then (u a k x, b) else (a, u b k x)
theorem ab_bit (q j : Nat) (hj : 0 < j) (p : Nat) : (p % (j * 2) = q % (j * 2)) ↔ (p % j = q % j ∧ p / j % 2 = q / j % 2) := by
  rw [Nat.mod_mul, Nat.mod_mul]
  have h1 := Nat.mod_lt p hj
  have h2 := Nat.mod_lt q hj
  rcases Nat.mod_two_eq_zero_or_one (p / j) with e1 | e1 <;> rcases Nat.mod_two_eq_zero_or_one (q / j) with e2 | e2 <;> rw [e1, e2] <;> (try rw [Nat.mul_zero]) <;> (try rw [Nat.mul_one]) <;> refine ⟨fun h => ⟨?_, ?_⟩, fun h => ?_⟩ <;> omega
theorem ab_fk_ok {α : Type} {g : α → Nat → ab_E} {u : α → Nat → ab_E → α} {j : Nat} (hj : 0 < j) (h : ∀ (t : α) (k k' : Nat) (x : ab_E), g (u t k x) k' = if k % j = k' % j then x else g t k') (t : α × α) (k k' : Nat) (x : ab_E) : ab_fk g j (ab_fs_ u j t k x) k' = if k % (j * 2) = k' % (j * 2) then x else ab_fk g j t k' := by
  obtain ⟨a, b⟩ := t
  have hb : ∀ m : Nat, Nat.beq (Nat.mod (Nat.div m j) 2) 0 = decide (m / j % 2 = 0) := fun m => by
    cases hc : Nat.beq (Nat.mod (Nat.div m j) 2) 0 with
    | true => exact (decide_eq_true (Nat.eq_of_beq_eq_true hc)).symm
    | false => exact (decide_eq_false (fun q => by
        have q : Nat.mod (Nat.div m j) 2 = 0 := q
        rw [q] at hc
        cases hc)).symm
  unfold ab_fs_ ab_fk
  simp only [hb, ab_bit k' j hj k]
  rcases Nat.mod_two_eq_zero_or_one (k / j) with e1 | e1 <;> rcases Nat.mod_two_eq_zero_or_one (k' / j) with e2 | e2 <;> simp [e1, e2, h]
def ab_l0 (t : ab_E) (_ : Nat) : ab_E := t
def ab_u0 (_ : ab_E) (_ : Nat) (x : ab_E) : ab_E := x
theorem ab_q0 (t : ab_E) (k k' : Nat) (x : ab_E) : ab_l0 (ab_u0 t k x) k' = if k % 1 = k' % 1 then x else ab_l0 t k' := by
  rw [Nat.mod_one, Nat.mod_one, if_pos rfl]
  rfl
def ab_l1 : ab_T1 → Nat → ab_E := ab_fk ab_l0 1
def ab_u1 : ab_T1 → Nat → ab_E → ab_T1 := ab_fs_ ab_u0 1
def ab_l2 : ab_T2 → Nat → ab_E := ab_fk ab_l1 2
def ab_u2 : ab_T2 → Nat → ab_E → ab_T2 := ab_fs_ ab_u1 2
def ab_l3 : ab_T3 → Nat → ab_E := ab_fk ab_l2 4
def ab_u3 : ab_T3 → Nat → ab_E → ab_T3 := ab_fs_ ab_u2 4
def ab_l4 : ab_T4 → Nat → ab_E := ab_fk ab_l3 8
def ab_u4 : ab_T4 → Nat → ab_E → ab_T4 := ab_fs_ ab_u3 8
def ab_l5 : ab_T5 → Nat → ab_E := ab_fk ab_l4 16
def ab_u5 : ab_T5 → Nat → ab_E → ab_T5 := ab_fs_ ab_u4 16
def ab_l6 : ab_T6 → Nat → ab_E := ab_fk ab_l5 32
def ab_u6 : ab_T6 → Nat → ab_E → ab_T6 := ab_fs_ ab_u5 32
def ab_l7 : ab_T7 → Nat → ab_E := ab_fk ab_l6 64
def ab_u7 : ab_T7 → Nat → ab_E → ab_T7 := ab_fs_ ab_u6 64
def ab_l8 : ab_T8 → Nat → ab_E := ab_fk ab_l7 128
def ab_u8 : ab_T8 → Nat → ab_E → ab_T8 := ab_fs_ ab_u7 128
def ab_l9 : ab_T → Nat → ab_E := ab_fk ab_l8 256
def ab_u9 : ab_T → Nat → ab_E → ab_T := ab_fs_ ab_u8 256
theorem ab_q1 (t : ab_T1) (k k' : Nat) (x : ab_E) : ab_l1 (ab_u1 t k x) k' = if k % 2 = k' % 2 then x else ab_l1 t k' := ab_fk_ok (j := 1) (by decide) ab_q0 t k k' x
theorem ab_q2 (t : ab_T2) (k k' : Nat) (x : ab_E) : ab_l2 (ab_u2 t k x) k' = if k % 4 = k' % 4 then x else ab_l2 t k' := ab_fk_ok (j := 2) (by decide) ab_q1 t k k' x
theorem ab_q3 (t : ab_T3) (k k' : Nat) (x : ab_E) : ab_l3 (ab_u3 t k x) k' = if k % 8 = k' % 8 then x else ab_l3 t k' := ab_fk_ok (j := 4) (by decide) ab_q2 t k k' x
theorem ab_q4 (t : ab_T4) (k k' : Nat) (x : ab_E) : ab_l4 (ab_u4 t k x) k' = if k % 16 = k' % 16 then x else ab_l4 t k' := ab_fk_ok (j := 8) (by decide) ab_q3 t k k' x
theorem ab_q5 (t : ab_T5) (k k' : Nat) (x : ab_E) : ab_l5 (ab_u5 t k x) k' = if k % 32 = k' % 32 then x else ab_l5 t k' := ab_fk_ok (j := 16) (by decide) ab_q4 t k k' x
theorem ab_q6 (t : ab_T6) (k k' : Nat) (x : ab_E) : ab_l6 (ab_u6 t k x) k' = if k % 64 = k' % 64 then x else ab_l6 t k' := ab_fk_ok (j := 32) (by decide) ab_q5 t k k' x
theorem ab_q7 (t : ab_T7) (k k' : Nat) (x : ab_E) : ab_l7 (ab_u7 t k x) k' = if k % 128 = k' % 128 then x else ab_l7 t k' := ab_fk_ok (j := 64) (by decide) ab_q6 t k k' x
theorem ab_q8 (t : ab_T8) (k k' : Nat) (x : ab_E) : ab_l8 (ab_u8 t k x) k' = if k % 256 = k' % 256 then x else ab_l8 t k' := ab_fk_ok (j := 128) (by decide) ab_q7 t k k' x
theorem ab_q9 (t : ab_T) (k k' : Nat) (x : ab_E) : ab_l9 (ab_u9 t k x) k' = if k % 512 = k' % 512 then x else ab_l9 t k' := ab_fk_ok (j := 256) (by decide) ab_q8 t k k' x
def ab_no : ab_E := .inr (.inl (0, 0, fun _ => none))
def ab_n1 : ab_T1 := (ab_no, ab_no)
def ab_n2 : ab_T2 := (ab_n1, ab_n1)
def ab_n3 : ab_T3 := (ab_n2, ab_n2)
def ab_n4 : ab_T4 := (ab_n3, ab_n3)
def ab_n5 : ab_T5 := (ab_n4, ab_n4)
def ab_n6 : ab_T6 := (ab_n5, ab_n5)
def ab_n7 : ab_T7 := (ab_n6, ab_n6)
def ab_n8 : ab_T8 := (ab_n7, ab_n7)
def ab_n9 : ab_T := (ab_n8, ab_n8)
theorem ab_upd {t : ab_T} {k k' : Nat} {x : ab_E} (hk' : k' < 512) : ab_l9 (ab_u9 t k x) k' = if k % 512 = k' then x else ab_l9 t k' := by
  rw [ab_q9, Nat.mod_eq_of_lt hk']
abbrev ab_H : Type := Nat × ab_T
def ab_gh (h : ab_H) (hp : List va_E) : Prop := hp.length = h.1 ∧ ∀ k e, k < 512 → hp[k]? = some e → ab_ge (ab_l9 h.2 k) e
def ab_at (h : ab_H) (a : Nat) : Option ab_E := match h with
  | (n, t) => bif Nat.blt a n && Nat.blt a 512 then some (ab_l9 t a) else none
theorem ab_at_ok {h : ab_H} {hp : List va_E} (hh : ab_gh h hp) {a : Nat} {x : ab_E} (ha : ab_at h a = some x) : ∃ e, hp[a]? = some e ∧ ab_ge x e := by
  obtain ⟨n, t⟩ := h
  unfold ab_at at ha
  dsimp only at ha
  cases hb : (Nat.blt a n && Nat.blt a 512) with
  | false => rw [hb] at ha; cases ha
  | true =>
    rw [hb] at ha
    cases ha
    rw [Bool.and_eq_true] at hb
    have hn : hp.length = n := hh.1
    have hlt : a < hp.length := by rw [hn]; exact Nat.le_of_ble_eq_true hb.1
    exact ⟨_, List.getElem?_eq_getElem hlt, hh.2 a _ (Nat.le_of_ble_eq_true hb.2) (List.getElem?_eq_getElem hlt)⟩
def ab_put (h : ab_H) (a : Nat) (x : ab_E) : ab_H := match h with
  | (n, t) => bif Nat.blt a 512 then (n, ab_u9 t a x) else (n, t)
theorem ab_put_ok {h : ab_H} {hp : List va_E} (hh : ab_gh h hp) {a : Nat} {x : ab_E} {e : va_E} (he : ab_ge x e) : ab_gh (ab_put h a x) (hp.set a e) := by
  obtain ⟨n, t⟩ := h
  obtain ⟨h1, h2⟩ := hh
  unfold ab_put
  dsimp only
  cases hb : Nat.blt a 512 with
  | false =>
    refine ⟨by rw [List.length_set]; exact h1, fun k e1 hk5 hk => ?_⟩
    have hne : a ≠ k := fun q => by
      rw [q] at hb
      have : Nat.blt k 512 = true := Nat.ble_eq_true_of_le hk5
      rw [hb] at this
      cases this
    rw [List.getElem?_set_ne hne] at hk
    exact h2 k e1 hk5 hk
  | true =>
    have ha : a < 512 := Nat.le_of_ble_eq_true hb
    refine ⟨by rw [List.length_set]; exact h1, fun k e1 hk5 hk => ?_⟩
    show ab_ge (ab_l9 (ab_u9 t a x) k) e1
    rw [ab_upd hk5, Nat.mod_eq_of_lt ha]
    rw [List.getElem?_set] at hk
    split at hk
    · rename_i hka
      rw [if_pos hka]
      split at hk
      · cases hk
        exact he
      · cases hk
    · rename_i hka
      rw [if_neg hka]
      exact h2 k e1 hk5 hk
def ab_app (h : ab_H) (x : ab_E) : ab_H := match h with
  | (n, t) => ab_fn n fun n => ab_fn (n + 1) fun m => bif Nat.blt n 512 then (m, ab_u9 t n x) else (m, t)
theorem ab_app_ok {h : ab_H} {hp : List va_E} (hh : ab_gh h hp) {x : ab_E} {e : va_E} (he : ab_ge x e) : ab_gh (ab_app h x) (hp ++ [e]) := by
  obtain ⟨n, t⟩ := h
  obtain ⟨h1, h2⟩ := hh
  have h1 : hp.length = n := h1
  unfold ab_app
  dsimp only
  rw [ab_fn_eq, ab_fn_eq]
  have hold : ∀ k e1, k ≠ n → k < 512 → (hp ++ [e])[k]? = some e1 → ab_ge (ab_l9 t k) e1 := by
    intro k e1 hne hk5 hk
    refine h2 k e1 hk5 ?_
    rcases Nat.lt_or_ge k hp.length with q | q
    · rw [List.getElem?_append_left q] at hk
      exact hk
    · exfalso
      rw [List.getElem?_append_right q] at hk
      have : k - hp.length < 1 := (List.getElem?_eq_some_iff.mp hk).1
      omega
  cases hb : Nat.blt n 512 with
  | false =>
    refine ⟨by rw [List.length_append, h1]; rfl, fun k e1 hk5 hk => hold k e1 (fun q => ?_) hk5 hk⟩
    rw [q] at hk5
    have : Nat.blt n 512 = true := Nat.ble_eq_true_of_le hk5
    rw [hb] at this
    cases this
  | true =>
    have hn : n < 512 := Nat.le_of_ble_eq_true hb
    refine ⟨by rw [List.length_append, h1]; rfl, fun k e1 hk5 hk => ?_⟩
    show ab_ge (ab_l9 (ab_u9 t n x) k) e1
    rw [ab_upd hk5, Nat.mod_eq_of_lt hn]
    by_cases hkn : n = k
    · rw [if_pos hkn]
      rw [← hkn, ← h1, List.getElem?_append_right (Nat.le_refl _), Nat.sub_self] at hk
      cases hk
      exact he
    · rw [if_neg hkn]
      exact hold k e1 (Ne.symm hkn) hk5 hk
def ab_many (F : Nat → ab_E) (m : Nat) (t : ab_T) : Nat → ab_T
  | 0 => t
  | n + 1 => ab_u9 (ab_many F m t n) (m + n) (F n)
theorem ab_many_ok {F : Nat → ab_E} {m : Nat} {t : ab_T} : ∀ (n : Nat), m + n ≤ 512 → ∀ k, k < 512 → ab_l9 (ab_many F m t n) k = if m ≤ k ∧ k < m + n then F (k - m) else ab_l9 t k
  | 0, _, k, _ => by
    rw [if_neg (by omega)]
    rfl
  | n + 1, hn, k, hk => by
    unfold ab_many
    rw [ab_upd hk, Nat.mod_eq_of_lt (show m + n < 512 by omega), ab_many_ok n (by omega) k hk]
    by_cases h1 : m + n = k
    · rw [if_pos h1, if_pos (by omega)]
      congr 1
      omega
    · rw [if_neg h1]
      by_cases h2 : m ≤ k ∧ k < m + n
      · rw [if_pos h2, if_pos (by omega)]
      · rw [if_neg h2, if_neg (by omega)]
/-- cells behind the last one; a heap of no cells where there is no room for them -/
def ab_apps (h : ab_H) (n : Nat) (F : Nat → ab_E) : Option ab_H := match h with
  | (m, t) => ab_fn m fun m => ab_fn (m + n) fun s => bif Nat.ble s 512 then some (s, ab_many F m t n) else none
theorem ab_apps_ok {h h' : ab_H} {hp es : List va_E} (hh : ab_gh h hp) {F : Nat → ab_E} {n : Nat} (hn : es.length = n) (he : ∀ j e, es[j]? = some e → ab_ge (F j) e) (hq : ab_apps h n F = some h') : ab_gh h' (hp ++ es) := by
  obtain ⟨m, t⟩ := h
  obtain ⟨h1, h2⟩ := hh
  have h1 : hp.length = m := h1
  unfold ab_apps at hq
  dsimp only at hq
  rw [ab_fn_eq, ab_fn_eq] at hq
  cases hb : Nat.ble (m + n) 512 with
  | false => rw [hb] at hq; cases hq
  | true =>
    rw [hb] at hq
    cases hq
    have hle : m + n ≤ 512 := Nat.le_of_ble_eq_true hb
    refine ⟨by rw [List.length_append, h1, hn], fun k e1 hk5 hk => ?_⟩
    show ab_ge (ab_l9 (ab_many F m t n) k) e1
    rw [ab_many_ok n hle k hk5]
    rcases Nat.lt_or_ge k hp.length with q | q
    · rw [List.getElem?_append_left q] at hk
      rw [if_neg (by omega)]
      exact h2 k e1 hk5 hk
    · rw [List.getElem?_append_right q, h1] at hk
      have : k - m < n := by rw [← hn]; exact (List.getElem?_eq_some_iff.mp hk).1
      rw [if_pos (by omega)]
      exact he _ _ hk
/-- locals -/
abbrev ab_L : Type := Nat → Option ab_V
def ab_gl (l : ab_L) (lo : List (Nat × Value)) : Prop := ∀ i v, l i = some v → ∃ j q, mv_find i lo 0 = some (j, q) ∧ ab_g v q
theorem ab_find_any {i : Nat} : ∀ (l : List (Nat × Value)) (k k' j : Nat) (q : Value), mv_find i l k = some (j, q) → ∃ j', mv_find i l k' = some (j', q)
  | [], _, _, _, _, h => by cases h
  | p :: r, k, k', j, q, h => by
    unfold mv_find at h ⊢
    split at h
    · rename_i e
      cases h
      rw [if_pos e]
      exact ⟨_, rfl⟩
    · rename_i e
      rw [if_neg e]
      exact ab_find_any r (k + 1) (k' + 1) j q h
theorem ab_find_keep {i a : Nat} (hne : i ≠ a) : ∀ (l : List (Nat × Value)) (k k' j : Nat) (q : Value), q.category = 1 → mv_find i l k = some (j, q) → ∃ j', mv_find i (mv_keep a l) k' = some (j', q)
  | [], _, _, _, _, _, h => by cases h
  | p :: r, k, k', j, q, hc, h => by
    unfold mv_find at h
    unfold mv_keep
    rw [List.filter_cons]
    split at h
    · rename_i e
      cases h
      have : (!(p.1 == a) && !(p.1 + 1 == a && p.2.category == 2)) = true := by
        rw [hc]
        simp [e, hne]
      rw [if_pos this]
      unfold mv_find
      rw [if_pos e]
      exact ⟨_, rfl⟩
    · rename_i e
      split
      · unfold mv_find
        rw [if_neg e]
        exact ab_find_keep hne r (k + 1) (k' + 1) j q hc h
      · exact ab_find_keep hne r (k + 1) k' j q hc h
def ab_ls (l : ab_L) (i : Nat) (v : ab_V) : ab_L := fun j => bif Nat.beq j i then some v else l j
theorem ab_ls_ok {l : ab_L} {lo : List (Nat × Value)} (hl : ab_gl l lo) {i : Nat} {v : ab_V} {w : Value} (hv : ab_g v w) : ab_gl (ab_ls l i v) ((i, w) :: mv_keep i lo) := by
  intro j u hj
  unfold ab_ls at hj
  cases hb : Nat.beq j i with
  | true =>
    have hji := Nat.eq_of_beq_eq_true hb
    rw [hb] at hj
    cases hj
    subst hji
    unfold mv_find
    rw [if_pos rfl]
    exact ⟨_, _, rfl, hv⟩
  | false =>
    rw [hb] at hj
    have hne : j ≠ i := fun q => by rw [q, Nat.beq_refl] at hb; cases hb
    obtain ⟨a, q, h1, h2⟩ := hl j u hj
    unfold mv_find
    rw [if_neg (Ne.symm hne)]
    obtain ⟨j', h3⟩ := ab_find_keep hne lo 0 1 a q (ab_g_cat h2) h1
    exact ⟨j', q, h3, h2⟩
/-- the operand stack -/
def ab_gs : List ab_V → List Value → Prop
  | [], [] => True
  | a :: r, b :: t => ab_g a b ∧ ab_gs r t
  | _, _ => False
theorem ab_gs_cons {a : ab_V} {r : List ab_V} {ss : List Value} (h : ab_gs (a :: r) ss) : ∃ b t, ss = b :: t ∧ ab_g a b ∧ ab_gs r t := by
  cases ss with
  | nil => exact absurd h id
  | cons b t => exact ⟨b, t, rfl, h.1, h.2⟩
theorem ab_gs_nil {ss : List Value} (h : ab_gs [] ss) : ss = [] := by
  cases ss with
  | nil => rfl
  | cons b t => exact absurd h id
theorem ab_gs_len : ∀ {st : List ab_V} {ss : List Value}, ab_gs st ss → ss.length = st.length
  | [], [], _ => rfl
  | [], _ :: _, h => absurd h id
  | _ :: _, [], h => absurd h id
  | _ :: r, _ :: t, h => by rw [List.length_cons, List.length_cons, ab_gs_len h.2]
theorem ab_gs_take : ∀ {st : List ab_V} {ss : List Value} (n : Nat), ab_gs st ss → ab_gs (st.take n) (ss.take n) ∧ ab_gs (st.drop n) (ss.drop n)
  | _, _, 0, h => ⟨trivial, h⟩
  | [], [], _ + 1, _ => ⟨trivial, trivial⟩
  | [], _ :: _, _ + 1, h => absurd h id
  | _ :: _, [], _ + 1, h => absurd h id
  | _ :: r, _ :: t, n + 1, h => ⟨⟨h.1, (ab_gs_take n h.2).1⟩, (ab_gs_take n h.2).2⟩
theorem ab_gs_app : ∀ {a c : List ab_V} {b d : List Value}, ab_gs a b → ab_gs c d → ab_gs (a ++ c) (b ++ d)
  | [], _, [], _, _, h => h
  | [], _, _ :: _, _, h, _ => absurd h id
  | _ :: _, _, [], _, h, _ => absurd h id
  | _ :: _, _, _ :: _, _, h, k => ⟨h.1, ab_gs_app h.2 k⟩
theorem ab_gs_rev : ∀ {a : List ab_V} {b : List Value}, ab_gs a b → ab_gs a.reverse b.reverse
  | [], [], _ => trivial
  | [], _ :: _, h => absurd h id
  | _ :: _, [], h => absurd h id
  | x :: r, y :: t, h => by
    rw [List.reverse_cons, List.reverse_cons]
    exact ab_gs_app (ab_gs_rev h.2) ⟨h.1, trivial⟩
theorem ab_gs_cats : ∀ {a : List ab_V} {b : List Value}, ab_gs a b → (b.map fun v => v.category).sum = a.length ∧ (lg_sl b).length = a.length
  | [], [], _ => ⟨rfl, rfl⟩
  | [], _ :: _, h => absurd h id
  | _ :: _, [], h => absurd h id
  | x :: r, y :: t, h => by
    obtain ⟨h1, h2⟩ := ab_gs_cats h.2
    have hc := ab_g_cat h.1
    refine ⟨?_, ?_⟩
    · rw [List.map_cons, List.sum_cons, h1, hc, List.length_cons]
      omega
    · unfold lg_sl at h2 ⊢
      rw [List.flatMap_cons, List.length_append, h2, if_neg (by rw [hc]; decide), List.length_cons]
      simp
      omega
/-- arguments as locals -/
def ab_args : Nat → List ab_V → ab_L
  | _, [] => fun _ => none
  | i, v :: r => fun j => bif Nat.beq j i then some v else ab_args (i + 1) r j
theorem ab_args_lo : ∀ (a : List ab_V) (i j : Nat) (v : ab_V), ab_args i a j = some v → i ≤ j
  | [], _, _, _, h => by cases h
  | x :: r, i, j, v, h => by
    unfold ab_args at h
    cases hb : Nat.beq j i with
    | true => exact Nat.le_of_eq (Nat.eq_of_beq_eq_true hb).symm
    | false =>
      rw [hb] at h
      have := ab_args_lo r (i + 1) j v h
      omega
theorem ab_args_ok : ∀ {a : List ab_V} {b : List Value} (i k : Nat), ab_gs a b → ∀ j v, ab_args i a j = some v → ∃ q w, mv_find j (lv_args i b) k = some (q, w) ∧ ab_g v w
  | [], [], _, _, _, _, _, h => by cases h
  | [], _ :: _, _, _, h, _, _, _ => absurd h id
  | _ :: _, [], _, _, h, _, _, _ => absurd h id
  | x :: r, y :: t, i, k, h, j, v, hj => by
    unfold ab_args at hj
    have hcy : ¬ y.category = 2 := by rw [ab_g_cat h.1]; decide
    unfold lv_args mv_find
    rw [if_neg hcy]
    cases hb : Nat.beq j i with
    | true =>
      rw [hb] at hj
      cases hj
      rw [if_pos (show (i, y).1 = j from (Nat.eq_of_beq_eq_true hb).symm)]
      exact ⟨_, _, rfl, h.1⟩
    | false =>
      rw [hb] at hj
      have hj : ab_args (i + 1) r j = some v := hj
      have hle := ab_args_lo r (i + 1) j v hj
      rw [if_neg (show ¬ (i, y).1 = j from fun q => by have q : i = j := q; omega)]
      exact ab_args_ok (i + 1) (k + 1) h.2 j v hj
