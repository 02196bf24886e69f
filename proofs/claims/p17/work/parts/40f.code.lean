/-! acts of a run: what each does to the types on the pile and to the names that are set -/
/-- types on the pile, the top first; names that are set -/
abbrev cx := List Int × (Nat → Prop)
/-- types 0, 1, 3 are kept by whatever is there -/
def tle : List Int → List Int → Prop
  | [], [] => True
  | a :: r, b :: s => (a = b ∨ a = 0 ∨ a = 1 ∨ a = 3) ∧ tle r s
  | _, _ => False
theorem tle.rf : ∀ {a : List Int}, tle a a
  | [] => trivial
  | _ :: _ => ⟨Or.inl rfl, tle.rf⟩
theorem tle.tr : ∀ {a b c : List Int}, tle a b → tle b c → tle a c
  | [], [], [], _, _ => trivial
  | a :: r, b :: s, c :: t, h, k => ⟨by
    rcases h.1 with z | z
    · rw [z]
      exact k.1
    · exact Or.inr z, h.2.tr k.2⟩
theorem tle.len : ∀ {a b : List Int}, tle a b → a.length = b.length
  | [], [], _ => rfl
  | _ :: _, _ :: _, h => by rw [List.length_cons, List.length_cons, h.2.len]
/-- a asks no more than b gives -/
def cle (a b : cx) : Prop := tle a.1 b.1 ∧ ∀ q, a.2 q → b.2 q
theorem cle.rf {a : cx} : cle a a := ⟨tle.rf, fun _ z => z⟩
theorem cle.tr {a b c : cx} (h : cle a b) (k : cle b c) : cle a c := ⟨h.1.tr k.1, fun q z => k.2 q (h.2 q z)⟩
section CODE
variable (B : Nat → Nat → Int) (nx cn : Nat → Int) (m cl h hc : Nat)
/-- an act that goes on with the next one -/
def SA (s f e : Int) (x y : cx) : Prop :=
  s = 1 ∧ y.2 = x.2 ∧ (∃ t, y.1 = t :: x.1 ∧ (t = 0 ∨ t = 1 ∨ t = 3 ∨ t = 2 ∧ f = 0)) ∨
  s = 2 ∧ y.2 = x.2 ∧ B 4 h = 0 ∧ y.1 = (10 + (hc : Int)) :: x.1 ∨
  s = 3 ∧ y.2 = x.2 ∧ (∃ t, y.1 = t :: x.1 ∧ (t = 0 ∨ t = 1)) ∨
  s = 4 ∧ y.2 = x.2 ∧ (∃ q : Nat, f = (q : Int) ∧ q < m ∧ B 3 q = (h : Int) ∧ (B 0 q = 3 ∨ B 0 q = 4) ∧ x.2 q ∧ y.1 = B 8 q :: x.1) ∨
  s = 5 ∧ y.2 = x.2 ∧ (∃ q : Nat, f = (q : Int) ∧ q < m ∧ B 0 q = 1 ∧ B 4 q = 1 ∧ y.1 = B 8 q :: x.1) ∨
  s = 6 ∧ y.2 = x.2 ∧ (∃ q : Nat, f = (q : Int) ∧ q < m ∧ B 0 q = 1 ∧ B 4 q = 0 ∧ B 4 h = 0 ∧ ME8 B nx cn m hc q ∧ y.1 = B 8 q :: x.1) ∨
  s = 7 ∧ y.2 = x.2 ∧ (∃ (q : Nat) (t : Int) (r : List Int), f = (q : Int) ∧ q < m ∧ B 0 q = 1 ∧ B 4 q = 0 ∧ 10 ≤ t ∧ ME8 B nx cn m (t - 10) q ∧ x.1 = t :: r ∧ y.1 = B 8 q :: r) ∨
  s = 8 ∧ y.2 = x.2 ∧ (∃ i : Nat, f = (i : Int) ∧ i < cl ∧ y.1 = (10 + (i : Int)) :: x.1) ∨
  (s = 9 ∨ s = 10) ∧ y.2 = x.2 ∧ (∃ (t u : Int) (r : List Int), (u = 0 ∨ u = 1) ∧ x.1 = t :: r ∧ y.1 = u :: r) ∨
  s = 11 ∧ y.2 = x.2 ∧ (∃ (t u v : Int) (r : List Int), (v = 0 ∨ v = 1) ∧ x.1 = t :: u :: r ∧ y.1 = v :: r) ∨
  s = 14 ∧ y.2 = x.2 ∧ (∃ (q : Nat) (l r : List Int) (z : Int), f = (q : Int) ∧ q < m ∧ B 0 q = 2 ∧ (l.length : Int) = B 9 q ∧ (∀ (i : Nat) (t : Int), l[i]? = some t → fit nx t (B 8 (q + 1 + i))) ∧ (e = 2 * (l.length : Int) + z ∧ (z = 0 ∨ z = 1)) ∧
    (B 4 q = 1 ∧ x.1 = l.reverse ++ r ∨ B 4 q = 0 ∧ z = 0 ∧ B 4 h = 0 ∧ ME8 B nx cn m hc q ∧ x.1 = l.reverse ++ r ∨ B 4 q = 0 ∧ z = 1 ∧ ∃ t, 10 ≤ t ∧ ME8 B nx cn m (t - 10) q ∧ x.1 = l.reverse ++ t :: r) ∧ y.1 = B 8 q :: r) ∨
  (s = 15 ∨ s = 16 ∨ s = 26) ∧ y.2 = x.2 ∧ y.1 = x.1 ∨
  s = 17 ∧ (∃ (q : Nat) (t : Int) (r : List Int), f = (q : Int) ∧ q < m ∧ B 3 q = (h : Int) ∧ (B 0 q = 3 ∨ B 0 q = 4) ∧ fit nx t (B 8 q) ∧ x.1 = t :: r ∧ y.1 = r ∧ ∀ i, y.2 i → x.2 i ∨ i = q) ∨
  s = 18 ∧ y.2 = x.2 ∧ (∃ (q : Nat) (t : Int) (r : List Int), f = (q : Int) ∧ q < m ∧ B 0 q = 1 ∧ B 4 q = 1 ∧ fit nx t (B 8 q) ∧ x.1 = t :: r ∧ y.1 = r) ∨
  s = 19 ∧ y.2 = x.2 ∧ (∃ (q : Nat) (t : Int) (r : List Int), f = (q : Int) ∧ q < m ∧ B 0 q = 1 ∧ B 4 q = 0 ∧ B 4 h = 0 ∧ ME8 B nx cn m hc q ∧ fit nx t (B 8 q) ∧ x.1 = t :: r ∧ y.1 = r) ∨
  s = 20 ∧ y.2 = x.2 ∧ (∃ (q : Nat) (t u : Int) (r : List Int), f = (q : Int) ∧ q < m ∧ B 0 q = 1 ∧ B 4 q = 0 ∧ fit nx t (B 8 q) ∧ 10 ≤ u ∧ ME8 B nx cn m (u - 10) q ∧ x.1 = t :: u :: r ∧ y.1 = r) ∨
  (s = 21 ∨ s = 25) ∧ y.2 = x.2 ∧ (∃ t, x.1 = t :: y.1)
variable (S F E : Nat → Int)
/-- act i goes as σ tells; its jumps stay in lo .. hi -/
def AO (σ : Nat → cx) (lo hi i : Nat) : Prop :=
  (∃ y, SA B nx cn m cl h hc (S i) (F i) (E i) (σ i) y ∧ cle (σ (i + 1)) y) ∨
  (S i = 12 ∨ S i = 13) ∧ (∃ (j : Nat) (t : Int) (r : List Int), F i = (j : Int) ∧ i < j ∧ j ≤ hi ∧ (t = 0 ∨ t = 1) ∧ (σ i).1 = t :: r ∧ cle (σ (i + 1)) (r, (σ i).2) ∧ cle (σ j) (σ i)) ∨
  S i = 22 ∧ (∃ (j : Nat) (t : Int) (r : List Int), F i = (j : Int) ∧ i < j ∧ j ≤ hi ∧ (σ i).1 = t :: r ∧ cle (σ (i + 1)) (r, (σ i).2) ∧ cle (σ j) (r, (σ i).2)) ∨
  S i = 23 ∧ (∃ j : Nat, F i = (j : Int) ∧ lo ≤ j ∧ j ≤ hi ∧ (i < j ∨ S j = 16) ∧ cle (σ j) (σ i)) ∨
  S i = 24 ∧ B 0 h = 2 ∧ (∃ t, (σ i).1 = [t] ∧ fit nx t (B 8 h))
/-- acts lo .. hi - 1 lead from x to y -/
def ACD (lo hi : Nat) (x y : cx) : Prop := lo ≤ hi ∧ ∃ σ : Nat → cx, cle (σ lo) x ∧ σ hi = y ∧ (∀ i, lo ≤ i → i < hi → AO B nx cn m cl h hc S F E σ lo hi i) ∧ ∀ i, lo ≤ i → i ≤ hi → (σ i).1.length ≤ x.1.length + (i - lo)
end CODE
section CODT
variable {B : Nat → Nat → Int} {nx cn : Nat → Int} {m cl h hc : Nat} {S F E S' F' E' : Nat → Int} {lo mid hi lo' hi' : Nat} {x y z x' y' : cx}
theorem AO.eq {σ : Nat → cx} {i : Nat} (H : AO B nx cn m cl h hc S F E σ lo hi i) (h1 : lo ≤ i) (h2 : i < hi) (e : ∀ j, lo ≤ j → j < hi → S' j = S j ∧ F' j = F j ∧ E' j = E j) : AO B nx cn m cl h hc S' F' E' σ lo hi i := by
  obtain ⟨e1, e2, e3⟩ := e i h1 h2
  unfold AO
  rw [e1, e2, e3]
  refine H.imp id (Or.imp id (Or.imp id (Or.imp (fun ⟨a, j, j1, j2, j3, j4, j5⟩ => ⟨a, j, j1, j2, j3, ?_, j5⟩) id)))
  by_cases c : i < j
  · exact Or.inl c
  · rcases j4 with v | v
    · exact Or.inl v
    · exact Or.inr (by rw [(e j j2 (by omega)).1]; exact v)
theorem AO.re {σ σ' : Nat → cx} {i : Nat} (H : AO B nx cn m cl h hc S F E σ lo hi i) (h1 : lo ≤ i) (h2 : i < hi) (e : σ' i = σ i) (le : ∀ j, lo ≤ j → j ≤ hi → cle (σ' j) (σ j)) (hl : lo' ≤ lo) (hh : hi ≤ hi') : AO B nx cn m cl h hc S F E σ' lo' hi' i := by
  unfold AO
  rw [e]
  have n1 := le (i + 1) (by omega) (by omega)
  rcases H with ⟨u, H1, H2⟩ | ⟨a, j, u, r, j1, j2, j3, j4, j5, j6, j7⟩ | ⟨a, j, u, r, j1, j2, j3, j4, j5, j6⟩ | ⟨a, j, j1, j2, j3, j4, j5⟩ | H
  · exact Or.inl ⟨u, H1, n1.tr H2⟩
  · exact Or.inr (Or.inl ⟨a, j, u, r, j1, j2, by omega, j4, j5, n1.tr j6, (le j (by omega) (by omega)).tr j7⟩)
  · exact Or.inr (Or.inr (Or.inl ⟨a, j, u, r, j1, j2, by omega, j4, n1.tr j5, (le j (by omega) (by omega)).tr j6⟩))
  · exact Or.inr (Or.inr (Or.inr (Or.inl ⟨a, j, j1, by omega, by omega, j4, (le j (by omega) (by omega)).tr j5⟩)))
  · exact Or.inr (Or.inr (Or.inr (Or.inr H)))
theorem ACD.eq (H : ACD B nx cn m cl h hc S F E lo hi x y) (e : ∀ j, lo ≤ j → j < hi → S' j = S j ∧ F' j = F j ∧ E' j = E j) : ACD B nx cn m cl h hc S' F' E' lo hi x y := by
  obtain ⟨h0, σ, h1, h2, h3, h4⟩ := H
  exact ⟨h0, σ, h1, h2, fun i i1 i2 => (h3 i i1 i2).eq i1 i2 e, h4⟩
theorem ACD.nil (H : cle y x) : ACD B nx cn m cl h hc S F E lo lo x y := ⟨Nat.le_refl _, fun _ => y, H, rfl, fun i h1 h2 => by omega, fun i _ _ => by have := H.1.len; show y.1.length ≤ _; omega⟩
theorem ACD.weak (H : ACD B nx cn m cl h hc S F E lo hi x y) (hx : cle x x') (hy : cle y' y) : ACD B nx cn m cl h hc S F E lo hi x' y' := by
  obtain ⟨h0, σ, h1, h2, h3, h4⟩ := H
  have le : ∀ j, cle (if j = hi then y' else σ j) (σ j) := fun j => by
    split
    · next c =>
      rw [c, h2]
      exact hy
    · exact cle.rf
  refine ⟨h0, fun j => if j = hi then y' else σ j, ((le lo).tr h1).tr hx, if_pos rfl, fun i i1 i2 => (h3 i i1 i2).re i1 i2 (if_neg (by omega)) (fun j _ _ => le j) (Nat.le_refl _) (Nat.le_refl _), fun i i1 i2 => ?_⟩
  have a := (le i).1.len
  have b := h4 i i1 i2
  have c := hx.1.len
  show (if i = hi then y' else σ i).1.length ≤ _
  omega
theorem ACD.seq (H : ACD B nx cn m cl h hc S F E lo mid x y) (K : ACD B nx cn m cl h hc S F E mid hi y z) : ACD B nx cn m cl h hc S F E lo hi x z := by
  obtain ⟨h0, σ, h1, h2, h3, h4⟩ := H
  obtain ⟨k0, τ, k1, k2, k3, k4⟩ := K
  have le1 : ∀ j, j ≤ mid → cle (if j < mid then σ j else τ j) (σ j) := fun j j1 => by
    split
    · exact cle.rf
    · rw [show j = mid by omega, h2]
      exact k1
  have le2 : ∀ j, mid ≤ j → (if j < mid then σ j else τ j) = τ j := fun j j1 => if_neg (by omega)
  refine ⟨by omega, fun j => if j < mid then σ j else τ j, (le1 lo h0).tr h1, (le2 hi k0).trans k2, fun i i1 i2 => ?_, fun i i1 i2 => ?_⟩
  · by_cases c : i < mid
    · exact (h3 i i1 c).re i1 c (if_pos c) (fun j _ j2 => le1 j j2) (Nat.le_refl _) k0
    · exact (k3 i (by omega) i2).re (by omega) i2 (le2 i (by omega)) (fun j j1 _ => by rw [le2 j j1]; exact cle.rf) h0 (Nat.le_refl _)
  · show (if i < mid then σ i else τ i).1.length ≤ _
    split
    · exact h4 i i1 (by omega)
    · have a := h4 mid h0 (Nat.le_refl _)
      have b := k4 i (by omega) i2
      rw [h2] at a
      omega
/-- one act in front -/
theorem ACD.front (H : ACD B nx cn m cl h hc S F E (lo + 1) hi y z) (hb : lo < hi) (hl : y.1.length ≤ x.1.length + 1) (A : ∀ σ : Nat → cx, σ lo = x → cle (σ (lo + 1)) y → σ hi = z → AO B nx cn m cl h hc S F E σ lo hi lo) : ACD B nx cn m cl h hc S F E lo hi x z := by
  obtain ⟨h0, σ, h1, h2, h3, h4⟩ := H
  have e2 : ∀ j, lo < j → (if j = lo then x else σ j) = σ j := fun j j1 => if_neg (by omega)
  refine ⟨by omega, fun j => if j = lo then x else σ j, ?_, (e2 hi hb).trans h2, fun i i1 i2 => ?_, fun i i1 i2 => ?_⟩
  · show cle (if lo = lo then x else σ lo) x
    rw [if_pos rfl]
    exact cle.rf
  · by_cases c : i = lo
    · subst c
      refine A _ (if_pos rfl) ?_ ((e2 hi hb).trans h2)
      rw [e2 _ (by omega)]
      exact h1
    · exact (h3 i (by omega) i2).re (by omega) i2 (e2 i (by omega)) (fun j j1 _ => by rw [e2 j (by omega)]; exact cle.rf) (by omega) (Nat.le_refl _)
  · show (if i = lo then x else σ i).1.length ≤ _
    split
    · omega
    · have := h4 i (by omega) i2
      omega
theorem SA.len {s f e : Int} (H : SA B nx cn m cl h hc s f e x y) : y.1.length ≤ x.1.length + 1 := by
  have lc : ∀ {a b : List Int}, a = b → a.length = b.length := fun z => by rw [z]
  rcases H with ⟨_, _, t, z, _⟩ | ⟨_, _, _, z⟩ | ⟨_, _, t, z, _⟩ | ⟨_, _, q, _, _, _, _, _, z⟩ | ⟨_, _, q, _, _, _, _, z⟩ | ⟨_, _, q, _, _, _, _, _, _, z⟩ | ⟨_, _, q, t, r, _, _, _, _, _, _, z, w⟩ | ⟨_, _, i, _, _, z⟩ | ⟨_, _, t, u, r, _, z, w⟩ | ⟨_, _, t, u, v, r, _, z, w⟩ | ⟨_, _, q, l, r, z0, _, _, _, _, _, _, z, w⟩ | ⟨_, _, z⟩ | ⟨_, q, t, r, _, _, _, _, _, z, w, _⟩ | ⟨_, _, q, t, r, _, _, _, _, _, z, w⟩ | ⟨_, _, q, t, r, _, _, _, _, _, _, _, z, w⟩ | ⟨_, _, q, t, u, r, _, _, _, _, _, _, _, z, w⟩ | ⟨_, _, t, z⟩
  all_goals first | rw [z, w] | rw [z] | skip
  all_goals first | omega | (simp only [List.length_cons]; omega) | skip
  have w := lc w
  rcases z with z | z | z
  · have z := lc z.2
    simp only [List.length_cons, List.length_append] at w z
    omega
  · have z := lc z.2.2.2.2
    simp only [List.length_cons, List.length_append] at w z
    omega
  · obtain ⟨_, _, t, _, _, z⟩ := z
    have z := lc z
    simp only [List.length_cons, List.length_append] at w z
    omega
theorem ACD.one (H : SA B nx cn m cl h hc (S lo) (F lo) (E lo) x y) : ACD B nx cn m cl h hc S F E lo (lo + 1) x y :=
  ACD.front (ACD.nil cle.rf) (by omega) H.len fun σ e1 e2 _ => Or.inl ⟨y, by rw [e1]; exact H, e2⟩
theorem ACD.ret {t : Int} {D : Nat → Prop} (hs : S lo = 24) (h2 : B 0 h = 2) (hx : x.1 = [t]) (hf : fit nx t (B 8 h)) : ACD B nx cn m cl h hc S F E lo (lo + 1) x ([], D) :=
  ACD.front (ACD.nil cle.rf) (by omega) (Nat.zero_le _) fun σ e1 _ _ => Or.inr (Or.inr (Or.inr (Or.inr ⟨hs, h2, t, by rw [e1]; exact hx, hf⟩)))
theorem ACD.andor {t : Int} {r : List Int} {D : Nat → Prop} (hs : S lo = 12 ∨ S lo = 13) (hf : F lo = (hi : Int)) (ht : t = 0 ∨ t = 1) (H : ACD B nx cn m cl h hc S F E (lo + 1) hi (r, D) (t :: r, D)) : ACD B nx cn m cl h hc S F E lo hi (t :: r, D) (t :: r, D) := by
  have h0 := H.1
  refine H.front (by omega) (by show r.length ≤ (t :: r).length + 1; rw [List.length_cons]; omega) fun σ e1 e2 e3 => Or.inr (Or.inl ⟨hs, hi, t, r, hf, by omega, Nat.le_refl _, ht, by rw [e1], by rw [e1]; exact e2, by rw [e1, e3]; exact cle.rf⟩)
theorem ACD.cond {t : Int} {r : List Int} {D : Nat → Prop} (hs : S lo = 22) (hf : F lo = (hi : Int)) (H : ACD B nx cn m cl h hc S F E (lo + 1) hi (r, D) (r, D)) : ACD B nx cn m cl h hc S F E lo hi (t :: r, D) (r, D) := by
  have h0 := H.1
  refine H.front (by omega) (by show r.length ≤ (t :: r).length + 1; rw [List.length_cons]; omega) fun σ e1 e2 e3 => Or.inr (Or.inr (Or.inl ⟨hs, hi, t, r, hf, by omega, Nat.le_refl _, by rw [e1], by rw [e1]; exact e2, by rw [e1, e3]; exact cle.rf⟩))
theorem ACD.ife {t : Int} {r : List Int} {D : Nat → Prop} (hs : S lo = 22) (hf : F lo = (mid : Int) + 1) (H : ACD B nx cn m cl h hc S F E (lo + 1) mid (r, D) (r, D)) (ms : S mid = 23) (mf : F mid = (hi : Int)) (K : ACD B nx cn m cl h hc S F E (mid + 1) hi (r, D) (r, D)) : ACD B nx cn m cl h hc S F E lo hi (t :: r, D) (r, D) := by
  obtain ⟨h0, σ, h1, h2, h3, h4⟩ := H
  obtain ⟨k0, τ, k1, k2, k3, k4⟩ := K
  have e1 : ∀ j, lo < j → j ≤ mid → (if j = lo then (t :: r, D) else if j ≤ mid then σ j else τ j) = σ j := fun j j1 j2 => by rw [if_neg (by omega), if_pos j2]
  have e2 : ∀ j, mid < j → (if j = lo then (t :: r, D) else if j ≤ mid then σ j else τ j) = τ j := fun j j1 => by rw [if_neg (by omega), if_neg (by omega)]
  have e0 : (if lo = lo then (t :: r, D) else if lo ≤ mid then σ lo else τ lo) = (t :: r, D) := if_pos rfl
  refine ⟨by omega, fun j => if j = lo then (t :: r, D) else if j ≤ mid then σ j else τ j, ?_, (e2 hi (by omega)).trans k2, fun i i1 i2 => ?_, fun i i1 i2 => ?_⟩
  · show cle (if lo = lo then (t :: r, D) else if lo ≤ mid then σ lo else τ lo) (t :: r, D)
    rw [e0]
    exact cle.rf
  · rcases Nat.lt_trichotomy i mid with c | c | c
    · by_cases c2 : i = lo
      · subst c2
        refine Or.inr (Or.inr (Or.inl ⟨hs, mid + 1, t, r, by omega, by omega, by omega, ?_, ?_, ?_⟩))
        · show (if i = i then (t :: r, D) else if i ≤ mid then σ i else τ i).1 = _
          rw [e0]
        · show cle (if i + 1 = i then (t :: r, D) else if i + 1 ≤ mid then σ (i + 1) else τ (i + 1)) (r, (if i = i then (t :: r, D) else if i ≤ mid then σ i else τ i).2)
          rw [e0, e1 _ (by omega) (by omega)]
          exact h1
        · show cle (if mid + 1 = i then (t :: r, D) else if mid + 1 ≤ mid then σ (mid + 1) else τ (mid + 1)) (r, (if i = i then (t :: r, D) else if i ≤ mid then σ i else τ i).2)
          rw [e0, e2 _ (by omega)]
          exact k1
      · exact (h3 i (by omega) c).re (by omega) c (e1 i (by omega) (by omega)) (fun j j1 j2 => by rw [e1 j (by omega) j2]; exact cle.rf) (by omega) (by omega)
    · subst c
      refine Or.inr (Or.inr (Or.inr (Or.inl ⟨ms, hi, mf, by omega, Nat.le_refl _, Or.inl (by omega), ?_⟩)))
      show cle (if hi = lo then (t :: r, D) else if hi ≤ i then σ hi else τ hi) (if i = lo then (t :: r, D) else if i ≤ i then σ i else τ i)
      rw [e2 _ (by omega), e1 _ (by omega) (by omega), k2, h2]
      exact cle.rf
    · exact (k3 i (by omega) i2).re (by omega) i2 (e2 i (by omega)) (fun j j1 _ => by rw [e2 j (by omega)]; exact cle.rf) (by omega) (Nat.le_refl _)
  · show (if i = lo then (t :: r, D) else if i ≤ mid then σ i else τ i).1.length ≤ _
    rw [show ((t :: r, D) : cx).1.length = r.length + 1 from List.length_cons]
    split
    · rw [show ((t :: r, D) : cx).1.length = r.length + 1 from List.length_cons]
      omega
    · split
      · have : (σ i).1.length ≤ r.length + (i - (lo + 1)) := h4 i (by omega) (by omega)
        omega
      · have : (τ i).1.length ≤ r.length + (i - (mid + 1)) := k4 i (by omega) i2
        omega
theorem ACD.wh {t : Int} {r : List Int} {D : Nat → Prop} {e : Nat} (hs : S lo = 16) (H : ACD B nx cn m cl h hc S F E (lo + 1) mid (r, D) (t :: r, D)) (ms : S mid = 22) (mf : F mid = (e : Int) + 1) (K : ACD B nx cn m cl h hc S F E (mid + 1) e (r, D) (r, D)) (es : S e = 23) (ef : F e = (lo : Int)) : ACD B nx cn m cl h hc S F E lo (e + 1) (r, D) (r, D) := by
  obtain ⟨h0, σ, h1, h2, h3, h4⟩ := H
  obtain ⟨k0, τ, k1, k2, k3, k4⟩ := K
  have e1 : ∀ j, lo < j → j ≤ mid → (if j ≤ lo then (r, D) else if j ≤ mid then σ j else if j ≤ e then τ j else (r, D)) = σ j := fun j j1 j2 => by rw [if_neg (by omega), if_pos j2]
  have e2 : ∀ j, mid < j → j ≤ e → (if j ≤ lo then (r, D) else if j ≤ mid then σ j else if j ≤ e then τ j else (r, D)) = τ j := fun j j1 j2 => by rw [if_neg (by omega), if_neg (by omega), if_pos j2]
  have e0 : (if lo ≤ lo then (r, D) else if lo ≤ mid then σ lo else if lo ≤ e then τ lo else (r, D)) = (r, D) := if_pos (Nat.le_refl _)
  have e3 : (if e + 1 ≤ lo then (r, D) else if e + 1 ≤ mid then σ (e + 1) else if e + 1 ≤ e then τ (e + 1) else (r, D)) = (r, D) := by rw [if_neg (by omega), if_neg (by omega), if_neg (by omega)]
  refine ⟨by omega, fun j => if j ≤ lo then (r, D) else if j ≤ mid then σ j else if j ≤ e then τ j else (r, D), ?_, e3, fun i i1 i2 => ?_, fun i i1 i2 => ?_⟩
  · show cle (if lo ≤ lo then (r, D) else if lo ≤ mid then σ lo else if lo ≤ e then τ lo else (r, D)) (r, D)
    rw [e0]
    exact cle.rf
  · rcases Nat.lt_trichotomy i mid with c | c | c
    · by_cases c2 : i = lo
      · subst c2
        refine Or.inl ⟨(r, D), ?_, ?_⟩
        · show SA B nx cn m cl h hc (S i) (F i) (E i) (if i ≤ i then (r, D) else if i ≤ mid then σ i else if i ≤ e then τ i else (r, D)) (r, D)
          rw [e0]
          exact Or.inr (Or.inr (Or.inr (Or.inr (Or.inr (Or.inr (Or.inr (Or.inr (Or.inr (Or.inr (Or.inr (Or.inl ⟨Or.inr (Or.inl hs), rfl, rfl⟩)))))))))))
        · show cle (if i + 1 ≤ i then (r, D) else if i + 1 ≤ mid then σ (i + 1) else if i + 1 ≤ e then τ (i + 1) else (r, D)) (r, D)
          rw [e1 _ (by omega) (by omega)]
          exact h1
      · exact (h3 i (by omega) c).re (by omega) c (e1 i (by omega) (by omega)) (fun j j1 j2 => by rw [e1 j (by omega) j2]; exact cle.rf) (by omega) (by omega)
    · subst c
      refine Or.inr (Or.inr (Or.inl ⟨ms, e + 1, t, r, by omega, by omega, Nat.le_refl _, ?_, ?_, ?_⟩))
      · show (if i ≤ lo then (r, D) else if i ≤ i then σ i else if i ≤ e then τ i else (r, D)).1 = _
        rw [e1 _ (by omega) (by omega), h2]
      · show cle (if i + 1 ≤ lo then (r, D) else if i + 1 ≤ i then σ (i + 1) else if i + 1 ≤ e then τ (i + 1) else (r, D)) (r, (if i ≤ lo then (r, D) else if i ≤ i then σ i else if i ≤ e then τ i else (r, D)).2)
        rw [e2 (i + 1) (by omega) (by omega), e1 i (by omega) (by omega), h2]
        exact k1
      · show cle (if e + 1 ≤ lo then (r, D) else if e + 1 ≤ i then σ (e + 1) else if e + 1 ≤ e then τ (e + 1) else (r, D)) (r, (if i ≤ lo then (r, D) else if i ≤ i then σ i else if i ≤ e then τ i else (r, D)).2)
        rw [e3, e1 i (by omega) (by omega), h2]
        exact cle.rf
    · by_cases c2 : i = e
      · subst c2
        refine Or.inr (Or.inr (Or.inr (Or.inl ⟨es, lo, ef, Nat.le_refl _, by omega, Or.inr hs, ?_⟩)))
        show cle (if lo ≤ lo then (r, D) else if lo ≤ mid then σ lo else if lo ≤ i then τ lo else (r, D)) (if i ≤ lo then (r, D) else if i ≤ mid then σ i else if i ≤ i then τ i else (r, D))
        rw [e0, e2 _ (by omega) (by omega), k2]
        exact cle.rf
      · exact (k3 i (by omega) (by omega)).re (by omega) (by omega) (e2 i (by omega) (by omega)) (fun j j1 j2 => by rw [e2 j (by omega) j2]; exact cle.rf) (by omega) (by omega)
  · show (if i ≤ lo then (r, D) else if i ≤ mid then σ i else if i ≤ e then τ i else (r, D)).1.length ≤ r.length + (i - lo)
    split
    · exact Nat.le_add_right _ _
    · split
      · have : (σ i).1.length ≤ r.length + (i - (lo + 1)) := h4 i (by omega) (by omega)
        omega
      · split
        · have : (τ i).1.length ≤ r.length + (i - (mid + 1)) := k4 i (by omega) (by omega)
          omega
        · exact Nat.le_add_right _ _
end CODT
