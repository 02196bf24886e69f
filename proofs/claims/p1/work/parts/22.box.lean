/-! boxes (ab_): the small machine over values of which only bounds are known; heap, locals and arrays are functions, so that the kernel runs it -/
/-- a value known; an int between two bounds; an int of which the last five bits are known -/
abbrev ab_V : Type := Value ⊕ ((Int × Int) ⊕ Int32)
def ab_g : ab_V → Value → Prop
  | .inl v, w => w = v ∧ v.category = 1
  | .inr (.inl b), w => ∃ x : Int32, w = .int x ∧ b.1 ≤ x.toInt ∧ x.toInt ≤ b.2
  | .inr (.inr m), w => ∃ x : Int32, w = .int x ∧ x &&& 31 = m
theorem ab_g_cat : ∀ {v : ab_V} {w : Value}, ab_g v w → w.category = 1
  | .inl _, _, h => by rw [h.1]; exact h.2
  | .inr (.inl _), _, ⟨x, h, _⟩ => by rw [h]; rfl
  | .inr (.inr _), _, ⟨x, h, _⟩ => by rw [h]; rfl
def ab_int : ab_V → Bool
  | .inl (.int _) => true
  | .inr _ => true
  | _ => false
def ab_rfv : ab_V → Bool
  | .inl (.ref _) => true
  | .inl .null => true
  | _ => false
theorem ab_int_ok : ∀ (v : ab_V) (w : Value), ab_g v w → ab_int v = true → mv_int w = true
  | .inl v, w, h, hb => by
    rw [h.1]
    cases v <;> first | rfl | cases hb
  | .inr (.inl _), _, ⟨x, h, _⟩, _ => by rw [h]; rfl
  | .inr (.inr _), _, ⟨x, h, _⟩, _ => by rw [h]; rfl
theorem ab_int_at {v : ab_V} {w : Value} (h : ab_g v w) (hb : ab_int v = true) : ∃ x : Int32, w = .int x := by
  have h1 := ab_int_ok v w h hb
  cases w <;> first | exact ⟨_, rfl⟩ | cases h1
theorem ab_rfv_ok : ∀ (v : ab_V) (w : Value), ab_g v w → ab_rfv v = true → mv_rfv w = true
  | .inl v, w, h, hb => by
    rw [h.1]
    cases v <;> first | rfl | cases hb
  | .inr _, _, _, hb => by cases hb
/-- a number worked out before it goes on -/
def ab_fn {α : Type} (n : Nat) (k : Nat → α) : α := match n with
  | 0 => k 0
  | m + 1 => k (m + 1)
theorem ab_fn_eq {α : Type} (n : Nat) (k : Nat → α) : ab_fn n k = k n := by
  cases n <;> rfl
def ab_fi {α : Type} (x : Int32) (k : Int32 → α) : α := ab_fn x.toUInt32.toNat fun n => k (Int32.ofNat n)
theorem ab_fi_eq {α : Type} (x : Int32) (k : Int32 → α) : ab_fi x k = k x := by
  unfold ab_fi
  rw [ab_fn_eq]
  congr 1
  show Int32.ofUInt32 (UInt32.ofNat x.toUInt32.toNat) = x
  rw [UInt32.ofNat_toNat]
/-- cells -/
abbrev ab_E : Type := (Nat × Nat × (Nat → ab_V)) ⊕ ((Nat × Nat × (Nat → Option Nat)) ⊕ (Nat × Nat × (Nat → ab_V)))
def ab_ge : ab_E → va_E → Prop
  | .inl q, e => ∃ f : Nat → Int32, e = .inl (q.1, q.2.1, .inl f) ∧ ∀ k, ab_g (q.2.2 k) (.int (f k))
  | .inr (.inl q), e => e = .inl (q.1, q.2.1, .inr (.inr (.inr (.inr q.2.2))))
  | .inr (.inr q), e => ∃ fs : List Value, e = .inr (q.1, fs) ∧ fs.length = q.2.1 ∧ ∀ k v, fs[k]? = some v → ab_g (q.2.2 k) v
abbrev ab_H : Type := Nat × (Nat → ab_E)
def ab_gh (h : ab_H) (hp : List va_E) : Prop := hp.length = h.1 ∧ ∀ k e, hp[k]? = some e → ab_ge (h.2 k) e
def ab_at (h : ab_H) (a : Nat) : Option ab_E := bif Nat.blt a h.1 then some (h.2 a) else none
theorem ab_at_ok {h : ab_H} {hp : List va_E} (hh : ab_gh h hp) {a : Nat} {x : ab_E} (ha : ab_at h a = some x) : ∃ e, hp[a]? = some e ∧ ab_ge x e := by
  unfold ab_at at ha
  cases hb : Nat.blt a h.1 with
  | false => rw [hb] at ha; cases ha
  | true =>
    rw [hb] at ha
    cases ha
    have hlt : a < hp.length := by rw [hh.1]; exact Nat.le_of_ble_eq_true hb
    exact ⟨_, List.getElem?_eq_getElem hlt, hh.2 a _ (List.getElem?_eq_getElem hlt)⟩
def ab_put (h : ab_H) (a : Nat) (x : ab_E) : ab_H := (h.1, fun k => bif Nat.beq k a then x else h.2 k)
theorem ab_put_ok {h : ab_H} {hp : List va_E} (hh : ab_gh h hp) {a : Nat} {x : ab_E} {e : va_E} (he : ab_ge x e) : ab_gh (ab_put h a x) (hp.set a e) := by
  refine ⟨by rw [List.length_set]; exact hh.1, fun k e1 hk => ?_⟩
  show ab_ge (bif Nat.beq k a then x else h.2 k) e1
  rw [List.getElem?_set] at hk
  split at hk
  · rename_i hka
    subst hka
    split at hk
    · cases hk
      rw [Nat.beq_refl]
      exact he
    · cases hk
  · rename_i hka
    cases hb : Nat.beq k a with
    | true => exact absurd (Nat.eq_of_beq_eq_true hb).symm hka
    | false => exact hh.2 k e1 hk
def ab_app (h : ab_H) (x : ab_E) : ab_H := ab_fn h.1 fun n => (n + 1, fun k => bif Nat.beq k n then x else h.2 k)
theorem ab_app_ok {h : ab_H} {hp : List va_E} (hh : ab_gh h hp) {x : ab_E} {e : va_E} (he : ab_ge x e) : ab_gh (ab_app h x) (hp ++ [e]) := by
  unfold ab_app
  rw [ab_fn_eq]
  refine ⟨by rw [List.length_append, hh.1]; rfl, fun k e1 hk => ?_⟩
  show ab_ge (bif Nat.beq k h.1 then x else h.2 k) e1
  cases hb : Nat.beq k h.1 with
  | true =>
    have hkk := Nat.eq_of_beq_eq_true hb
    rw [hkk, ← hh.1, List.getElem?_append_right (Nat.le_refl _), Nat.sub_self] at hk
    cases hk
    exact he
  | false =>
    have hne : k ≠ h.1 := fun q => by rw [q, Nat.beq_refl] at hb; cases hb
    refine hh.2 k e1 ?_
    rcases Nat.lt_or_ge k hp.length with q | q
    · rw [List.getElem?_append_left q] at hk
      exact hk
    · exfalso
      rw [List.getElem?_append_right q] at hk
      have : k - hp.length < 1 := (List.getElem?_eq_some_iff.mp hk).1
      have := hh.1
      omega
def ab_apps (h : ab_H) (n : Nat) (F : Nat → ab_E) : ab_H := ab_fn h.1 fun m => ab_fn (m + n) fun t => (t, fun k => bif Nat.blt k m then h.2 k else F (k - m))
theorem ab_apps_ok {h : ab_H} {hp es : List va_E} (hh : ab_gh h hp) {F : Nat → ab_E} {n : Nat} (hn : es.length = n) (he : ∀ j e, es[j]? = some e → ab_ge (F j) e) : ab_gh (ab_apps h n F) (hp ++ es) := by
  unfold ab_apps
  rw [ab_fn_eq, ab_fn_eq]
  refine ⟨by rw [List.length_append, hh.1, hn], fun k e1 hk => ?_⟩
  show ab_ge (bif Nat.blt k h.1 then h.2 k else F (k - h.1)) e1
  cases hb : Nat.blt k h.1 with
  | true =>
    have hlt : k < hp.length := by rw [hh.1]; exact Nat.le_of_ble_eq_true hb
    rw [List.getElem?_append_left hlt] at hk
    exact hh.2 k e1 hk
  | false =>
    have hge : hp.length ≤ k := by
      rw [hh.1]
      rcases Nat.lt_or_ge k h.1 with q | q
      · have h9 : Nat.blt k h.1 = true := Nat.ble_eq_true_of_le q
        rw [h9] at hb
        cases hb
      · exact q
    rw [List.getElem?_append_right hge, hh.1] at hk
    exact he _ _ hk
/-- locals -/
abbrev ab_L : Type := Nat → Option ab_V
def ab_gl (l : ab_L) (lo : List (Nat × Value)) : Prop := ∀ i v, l i = some v → ∃ j q, mv_find i lo 0 = some (j, q) ∧ ab_g v q
theorem ab_find_any {i : Nat} : ∀ (l : List (Nat × Value)) (k k' j : Nat) (q : Value), mv_find i l k = some (j, q) → ∃ j', mv_find i l k' = some (j', q)
  | [], _, _, _, _, h => by cases h
  | p :: r, k, k', j, q, h => by
    unfold mv_find at h ⊢
    split at h
    · rename_i e
      cases h
      rw [if_pos e]
      exact ⟨_, rfl⟩
    · rename_i e
      rw [if_neg e]
      exact ab_find_any r (k + 1) (k' + 1) j q h
theorem ab_find_keep {i a : Nat} (hne : i ≠ a) : ∀ (l : List (Nat × Value)) (k k' j : Nat) (q : Value), q.category = 1 → mv_find i l k = some (j, q) → ∃ j', mv_find i (mv_keep a l) k' = some (j', q)
  | [], _, _, _, _, _, h => by cases h
  | p :: r, k, k', j, q, hc, h => by
    unfold mv_find at h
    unfold mv_keep
    rw [List.filter_cons]
    split at h
    · rename_i e
      cases h
      have : (!(p.1 == a) && !(p.1 + 1 == a && p.2.category == 2)) = true := by
        rw [hc]
        simp [e, hne]
      rw [if_pos this]
      unfold mv_find
      rw [if_pos e]
      exact ⟨_, rfl⟩
    · rename_i e
      split
      · unfold mv_find
        rw [if_neg e]
        exact ab_find_keep hne r (k + 1) (k' + 1) j q hc h
      · exact ab_find_keep hne r (k + 1) k' j q hc h
def ab_ls (l : ab_L) (i : Nat) (v : ab_V) : ab_L := fun j => bif Nat.beq j i then some v else l j
theorem ab_ls_ok {l : ab_L} {lo : List (Nat × Value)} (hl : ab_gl l lo) {i : Nat} {v : ab_V} {w : Value} (hv : ab_g v w) : ab_gl (ab_ls l i v) ((i, w) :: mv_keep i lo) := by
  intro j u hj
  unfold ab_ls at hj
  cases hb : Nat.beq j i with
  | true =>
    have hji := Nat.eq_of_beq_eq_true hb
    rw [hb] at hj
    cases hj
    subst hji
    unfold mv_find
    rw [if_pos rfl]
    exact ⟨_, _, rfl, hv⟩
  | false =>
    rw [hb] at hj
    have hne : j ≠ i := fun q => by rw [q, Nat.beq_refl] at hb; cases hb
    obtain ⟨a, q, h1, h2⟩ := hl j u hj
    unfold mv_find
    rw [if_neg (Ne.symm hne)]
    obtain ⟨j', h3⟩ := ab_find_keep hne lo 0 1 a q (ab_g_cat h2) h1
    exact ⟨j', q, h3, h2⟩
/-- the operand stack -/
def ab_gs : List ab_V → List Value → Prop
  | [], [] => True
  | a :: r, b :: t => ab_g a b ∧ ab_gs r t
  | _, _ => False
theorem ab_gs_cons {a : ab_V} {r : List ab_V} {ss : List Value} (h : ab_gs (a :: r) ss) : ∃ b t, ss = b :: t ∧ ab_g a b ∧ ab_gs r t := by
  cases ss with
  | nil => exact absurd h id
  | cons b t => exact ⟨b, t, rfl, h.1, h.2⟩
theorem ab_gs_nil {ss : List Value} (h : ab_gs [] ss) : ss = [] := by
  cases ss with
  | nil => rfl
  | cons b t => exact absurd h id
theorem ab_gs_len : ∀ {st : List ab_V} {ss : List Value}, ab_gs st ss → ss.length = st.length
  | [], [], _ => rfl
  | [], _ :: _, h => absurd h id
  | _ :: _, [], h => absurd h id
  | _ :: r, _ :: t, h => by rw [List.length_cons, List.length_cons, ab_gs_len h.2]
theorem ab_gs_take : ∀ {st : List ab_V} {ss : List Value} (n : Nat), ab_gs st ss → ab_gs (st.take n) (ss.take n) ∧ ab_gs (st.drop n) (ss.drop n)
  | _, _, 0, h => ⟨trivial, h⟩
  | [], [], _ + 1, _ => ⟨trivial, trivial⟩
  | [], _ :: _, _ + 1, h => absurd h id
  | _ :: _, [], _ + 1, h => absurd h id
  | _ :: r, _ :: t, n + 1, h => ⟨⟨h.1, (ab_gs_take n h.2).1⟩, (ab_gs_take n h.2).2⟩
theorem ab_gs_app : ∀ {a c : List ab_V} {b d : List Value}, ab_gs a b → ab_gs c d → ab_gs (a ++ c) (b ++ d)
  | [], _, [], _, _, h => h
  | [], _, _ :: _, _, h, _ => absurd h id
  | _ :: _, _, [], _, h, _ => absurd h id
  | _ :: _, _, _ :: _, _, h, k => ⟨h.1, ab_gs_app h.2 k⟩
theorem ab_gs_rev : ∀ {a : List ab_V} {b : List Value}, ab_gs a b → ab_gs a.reverse b.reverse
  | [], [], _ => trivial
  | [], _ :: _, h => absurd h id
  | _ :: _, [], h => absurd h id
  | x :: r, y :: t, h => by
    rw [List.reverse_cons, List.reverse_cons]
    exact ab_gs_app (ab_gs_rev h.2) ⟨h.1, trivial⟩
theorem ab_gs_cats : ∀ {a : List ab_V} {b : List Value}, ab_gs a b → (b.map fun v => v.category).sum = a.length ∧ (lg_sl b).length = a.length
  | [], [], _ => ⟨rfl, rfl⟩
  | [], _ :: _, h => absurd h id
  | _ :: _, [], h => absurd h id
  | x :: r, y :: t, h => by
    obtain ⟨h1, h2⟩ := ab_gs_cats h.2
    have hc := ab_g_cat h.1
    refine ⟨?_, ?_⟩
    · rw [List.map_cons, List.sum_cons, h1, hc, List.length_cons]
      omega
    · unfold lg_sl at h2 ⊢
      rw [List.flatMap_cons, List.length_append, h2, if_neg (by rw [hc]; decide), List.length_cons]
      simp
      omega
/-- arguments as locals -/
def ab_args : Nat → List ab_V → ab_L
  | _, [] => fun _ => none
  | i, v :: r => fun j => bif Nat.beq j i then some v else ab_args (i + 1) r j
theorem ab_args_lo : ∀ (a : List ab_V) (i j : Nat) (v : ab_V), ab_args i a j = some v → i ≤ j
  | [], _, _, _, h => by cases h
  | x :: r, i, j, v, h => by
    unfold ab_args at h
    cases hb : Nat.beq j i with
    | true => exact Nat.le_of_eq (Nat.eq_of_beq_eq_true hb).symm
    | false =>
      rw [hb] at h
      have := ab_args_lo r (i + 1) j v h
      omega
theorem ab_args_ok : ∀ {a : List ab_V} {b : List Value} (i k : Nat), ab_gs a b → ∀ j v, ab_args i a j = some v → ∃ q w, mv_find j (lv_args i b) k = some (q, w) ∧ ab_g v w
  | [], [], _, _, _, _, _, h => by cases h
  | [], _ :: _, _, _, h, _, _, _ => absurd h id
  | _ :: _, [], _, _, h, _, _, _ => absurd h id
  | x :: r, y :: t, i, k, h, j, v, hj => by
    unfold ab_args at hj
    have hcy : ¬ y.category = 2 := by rw [ab_g_cat h.1]; decide
    unfold lv_args mv_find
    rw [if_neg hcy]
    cases hb : Nat.beq j i with
    | true =>
      rw [hb] at hj
      cases hj
      rw [if_pos (show (i, y).1 = j from (Nat.eq_of_beq_eq_true hb).symm)]
      exact ⟨_, _, rfl, h.1⟩
    | false =>
      rw [hb] at hj
      have hj : ab_args (i + 1) r j = some v := hj
      have hle := ab_args_lo r (i + 1) j v hj
      rw [if_neg (show ¬ (i, y).1 = j from fun q => by have q : i = j := q; omega)]
      exact ab_args_ok (i + 1) (k + 1) h.2 j v hj
