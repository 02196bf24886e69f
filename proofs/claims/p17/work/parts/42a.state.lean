/-! the run: values, objects, frames -/
/-- a value of type t, with N objects -/
def vt (nx oc : Nat → Int) (N : Nat) (t v : Int) : Prop := (10 ≤ t → v = 0 ∨ ∃ o : Nat, v = (o : Int) ∧ 1 ≤ o ∧ o ≤ N ∧ up nx (oc o) (t - 10)) ∧ (t = 2 → v = 0)
section VT
variable {nx oc oc' : Nat → Int} {N N' : Nat} {t t' v : Int}
theorem vt.any (h : t = 0 ∨ t = 1 ∨ t = 3) : vt nx oc N t v := ⟨fun z => by omega, fun z => by omega⟩
theorem vt.zero : vt nx oc N t 0 := ⟨fun _ => Or.inl rfl, fun _ => rfl⟩
theorem vt.mo (H : vt nx oc N t v) (h : N ≤ N') (e : ∀ o, 1 ≤ o → o ≤ N → oc' o = oc o) : vt nx oc' N' t v := ⟨fun z => (H.1 z).imp id fun ⟨o, o1, o2, o3, o4⟩ => ⟨o, o1, o2, by omega, by rw [e o o2 o3]; exact o4⟩, H.2⟩
theorem vt.fit (H : vt nx oc N t v) (h : fit nx t t') : vt nx oc N t' v := by
  rcases h with z | ⟨z1, z⟩
  · rw [← z]
    exact H
  · rcases z with z | ⟨z2, z3⟩
    · rw [H.2 z]
      exact vt.zero
    · exact ⟨fun _ => (H.1 z2).imp id fun ⟨o, o1, o2, o3, o4⟩ => ⟨o, o1, o2, o3, o4.tr z3.up⟩, fun z => by omega⟩
/-- types, top first, of what lies on the pile -/
def STK (P : Int → Int → Prop) (pl : Nat → Int) : List Int → Nat → Nat → Prop
  | [], b, h => h = b
  | t :: r, b, h => ∃ k, h = k + 1 ∧ P t (pl k) ∧ STK P pl r b k
theorem STK.len {P : Int → Int → Prop} {pl : Nat → Int} : ∀ {l : List Int} {b h : Nat}, STK P pl l b h → h = b + l.length
  | [], b, h, H => H
  | t :: r, b, h, ⟨k, h1, _, h3⟩ => by
    have := h3.len
    rw [List.length_cons]
    omega
theorem STK.eq {P P' : Int → Int → Prop} {pl pl' : Nat → Int} (hP : ∀ t v, P t v → P' t v) : ∀ {l : List Int} {b h : Nat}, STK P pl l b h → (∀ a, b ≤ a → a < h → pl' a = pl a) → STK P' pl' l b h
  | [], b, h, H, _ => H
  | t :: r, b, h, ⟨k, h1, h2, h3⟩, e => ⟨k, h1, by rw [e k (by have := h3.len; omega) (by omega)]; exact hP _ _ h2, h3.eq hP fun a a1 a2 => e a a1 (by omega)⟩
theorem STK.tle {pl : Nat → Int} : ∀ {l l' : List Int} {b h : Nat}, tle l' l → STK (vt nx oc N) pl l b h → STK (vt nx oc N) pl l' b h
  | [], [], b, h, _, H => H
  | t :: r, t' :: r', b, h, T, ⟨k, h1, h2, h3⟩ => ⟨k, h1, by
      rcases T.1 with z | z
      · rw [z]
        exact h2
      · exact vt.any z, h3.tle T.2⟩
theorem STK.app {P : Int → Int → Prop} {pl : Nat → Int} : ∀ {l r : List Int} {b h : Nat}, STK P pl (l ++ r) b h → ∃ k, STK P pl l k h ∧ STK P pl r b k
  | [], r, b, h, H => ⟨h, rfl, H⟩
  | t :: l, r, b, h, ⟨k, h1, h2, h3⟩ => by
    obtain ⟨k', a1, a2⟩ := h3.app
    exact ⟨k', ⟨k, h1, h2, a1⟩, a2⟩
/-- arguments, from the bottom on -/
theorem STK.rev {P : Int → Int → Prop} {pl : Nat → Int} : ∀ {l : List Int} {b h : Nat}, STK P pl l.reverse b h → ∀ (i : Nat) (t : Int), l[i]? = some t → P t (pl (b + i))
  | [], b, h, H, i, t, e => by simp at e
  | t0 :: l, b, h, H, i, t, e => by
    rw [List.reverse_cons] at H
    obtain ⟨k, a1, a2⟩ := H.app
    obtain ⟨k', b1, b2, b3⟩ := a2
    have b3 : k' = b := b3
    cases i with
    | zero =>
      have e : t0 = t := by simpa using e
      rw [← e, Nat.add_zero, ← b3]
      exact b2
    | succ i =>
      have e : l[i]? = some t := by simpa using e
      have := a1.rev i t e
      rw [show b + (i + 1) = k + i by omega]
      exact this
end VT
section STATE
variable (B : Nat → Nat → Int) (nx cn ct : Nat → Int) (m cl : Nat) (S F E : Nat → Int) (T : Nat)
/-- objects and their fields -/
def HEAP (N : Nat) (oc ofs : Nat → Int) (fu : Nat) (cells : Nat → Int) : Prop := fu ≤ 192 * N ∧ (∀ v, 1 ≤ v → v ≤ N → ∃ c o : Nat, oc v = (c : Int) ∧ c < cl ∧ ofs v = (o : Int) ∧ ∀ s d o', OFF B nx cn ct m c s d o' → o + o' < fu) ∧ ∃ τ : Nat → Int, (∀ v c o s d o' : Nat, 1 ≤ v → v ≤ N → oc v = (c : Int) → ofs v = (o : Int) → OFF B nx cn ct m c s d o' → τ (o + o') = B 8 d) ∧ ∀ a, a < fu → vt nx oc N (τ a) (cells a)
def STAT (N : Nat) (oc : Nat → Int) (st : Nat → Int) : Prop := ∀ q, q < m → B 0 q = 1 → B 4 q = 1 → vt nx oc N (B 8 q) (st q)
/-- a whole piece of acts: lo .. k -/
def PKG (lo k : Nat) (σ : Nat → cx) (H : Nat → Nat) (z w : Int) : Prop := (lo ≤ k ∧ k < T) ∧ (∀ i, lo ≤ i → i < k → (H i < m ∧ (B 4 (H i) = 0 → up nx z (hkn B cn (H i))) ∧ (B 0 (H i) = 2 → w = (H i : Int))) ∧ AO B nx cn m cl (H i) (hkn B cn (H i)) S F E σ lo k i) ∧ (∀ i, lo ≤ i → i ≤ k → (σ i).1.length ≤ 2410) ∧ (0 ≤ w ∧ (∀ i, (H i : Int) = w) ∨ w = -1 ∧ ∀ i q, lo ≤ i → i ≤ k → (σ i).2 q → m ≤ q) ∧ (S k = 0 ∧ w = -1 ∧ z = -1 ∧ ((σ k).1 = [] ∨ S T = 1) ∨ S k = 24 ∧ (∃ h : Nat, w = (h : Int) ∧ h < m ∧ B 0 h = 2 ∧ ∃ t, (σ k).1 = [t] ∧ fit nx t (B 8 h)) ∨ S k = 27 ∧ (σ k).1 = [] ∧ w = -1 ∧ ∃ c : Nat, z = (c : Int) ∧ c < cl)
/-- what a frame brings back -/
def rtt (z w : Int) : Int := if 0 ≤ w then B 8 w.toNat else 10 + z
/-- a frame's self and locals, at act i -/
def FRD (fr : Nat → Int) (N : Nat) (oc : Nat → Int) (σ : Nat → cx) (i : Nat) (z w self fm : Int) (bs tp : Nat) : Prop := (0 ≤ z → ∃ v : Nat, self = (v : Int) ∧ 1 ≤ v ∧ v ≤ N ∧ up nx (oc v) z) ∧ ∀ h : Nat, w = (h : Int) → fm = (h : Int) ∧ ∀ q, q < m → B 3 q = (h : Int) → (B 0 q = 3 ∨ B 0 q = 4) → bs + (q - h - 1) < tp ∧ ((σ i).2 q → vt nx oc N (B 8 q) (fr (bs + (q - h - 1))))
/-- u frames that wait; the pile from b on and the locals from lb on are not theirs; t: what the last waits for; su: what they have still to go -/
def CHW (g : Nat → Nat → Int) (N : Nat) (oc : Nat → Int) : Nat → Nat → Nat → Int → Nat → Prop
  | 0, _, _, _, su => su = 0
  | u + 1, b, lb, t, su => ∃ (lo k pc bs tp b' lb' su' : Nat) (σ : Nat → cx) (H : Nat → Nat) (z w : Int) (r : List Int), PKG B nx cn m cl S F E T lo k σ H z w ∧ (g 43 u = (pc : Int) ∧ g 44 u = (bs : Int) ∧ g 45 u = (tp : Int)) ∧ (lo ≤ pc ∧ pc ≤ k) ∧ FRD B nx m (g 24) N oc σ pc z w (g 47 u) (g 46 u) bs tp ∧ tle (σ pc).1 (t :: r) ∧ STK (vt nx oc N) (g 39) r b' b ∧ (lb' ≤ tp ∧ tp ≤ lb ∧ (0 ≤ w → lb' ≤ bs) ∧ (u = 0 ↔ w = -1 ∧ z = -1)) ∧ (b' ≤ 2410 * u ∧ tp ≤ 610 * u) ∧ su = su' + (T - pc) ∧ CHW g N oc u b' lb' (rtt B z w) su'
end STATE
section STATET
variable {B : Nat → Nat → Int} {nx cn ct fc fs : Nat → Int} {V : Nat → Nat → Prop} {m cl : Nat} {S F E : Nat → Int} {T : Nat} {N N' : Nat} {oc oc' ofs ofs' : Nat → Int} {fu : Nat} {cells cells' : Nat → Int}
theorem HEAP.eq (H : HEAP B nx cn ct m cl N oc ofs fu cells) (ho : ∀ v, 1 ≤ v → v ≤ N → oc' v = oc v ∧ ofs' v = ofs v) (hc : ∀ a, a < fu → cells' a = cells a) : HEAP B nx cn ct m cl N oc' ofs' fu cells' := by
  obtain ⟨h1, h2, τ, h3, h4⟩ := H
  refine ⟨h1, fun v v1 v2 => ?_, τ, fun v c o s d o' v1 v2 c1 o1 K => ?_, fun a a1 => ?_⟩
  · rw [(ho v v1 v2).1, (ho v v1 v2).2]
    exact h2 v v1 v2
  · rw [(ho v v1 v2).1] at c1
    rw [(ho v v1 v2).2] at o1
    exact h3 v c o s d o' v1 v2 c1 o1 K
  · rw [hc a a1]
    exact (h4 a a1).mo (Nat.le_refl _) fun o o1 o2 => (ho o o1 o2).1
/-- a field is set -/
theorem HEAP.set (H : HEAP B nx cn ct m cl N oc ofs fu cells) {v c o s d o' : Nat} {x : Int} (v1 : 1 ≤ v) (v2 : v ≤ N) (c1 : oc v = (c : Int)) (o1 : ofs v = (o : Int)) (K : OFF B nx cn ct m c s d o') (hx : vt nx oc N (B 8 d) x) (ho : ∀ v, 1 ≤ v → v ≤ N → oc' v = oc v ∧ ofs' v = ofs v) (hc : ∀ a, a < fu → cells' a = if a = o + o' then x else cells a) : HEAP B nx cn ct m cl N oc' ofs' fu cells' := by
  have H1 : HEAP B nx cn ct m cl N oc ofs fu (fun a => if a = o + o' then x else cells a) := by
    obtain ⟨h1, h2, τ, h3, h4⟩ := H
    refine ⟨h1, h2, τ, h3, fun a a1 => ?_⟩
    show vt nx oc N (τ a) (if a = o + o' then x else cells a)
    by_cases e : a = o + o'
    · rw [if_pos e, e, h3 v c o s d o' v1 v2 c1 o1 K]
      exact hx
    · rw [if_neg e]
      exact h4 a a1
  exact H1.eq ho hc
/-- a field's value -/
theorem HEAP.get (H : HEAP B nx cn ct m cl N oc ofs fu cells) {v c o s d o' : Nat} (v1 : 1 ≤ v) (v2 : v ≤ N) (c1 : oc v = (c : Int)) (o1 : ofs v = (o : Int)) (K : OFF B nx cn ct m c s d o') : o + o' < fu ∧ vt nx oc N (B 8 d) (cells (o + o')) := by
  obtain ⟨h1, h2, τ, h3, h4⟩ := H
  obtain ⟨c', o2, b1, b2, b3, b4⟩ := h2 v v1 v2
  have : c' = c := by omega
  have : o2 = o := by omega
  subst c' o2
  have lt := b4 s d o' K
  refine ⟨lt, ?_⟩
  rw [← h3 v c o s d o' v1 v2 c1 o1 K]
  exact h4 _ lt
/-- an object more -/
theorem HEAP.new (CFH : CF B nx cn ct fc fs V m cl) (H : HEAP B nx cn ct m cl N oc ofs fu cells) {c r : Nat} (hc : c < cl) (hr : ∀ u, u < r → 0 ≤ it nx u (c : Int)) (hr2 : it nx r (c : Int) < 0) (ho : ∀ v, 1 ≤ v → v ≤ N → oc' v = oc v ∧ ofs' v = ofs v) (c1 : oc' (N + 1) = (c : Int)) (o1 : ofs' (N + 1) = (fu : Int)) (hl : ∀ a, a < fu → cells' a = cells a) (hz : ∀ a, fu ≤ a → a < fu + gs9 nx (KF B ct m) r c → cells' a = 0) : HEAP B nx cn ct m cl (N + 1) oc' ofs' (fu + gs9 nx (KF B ct m) r c) cells' := by
  obtain ⟨h1, h2, τ, h3, h4⟩ := H
  obtain ⟨τ', ht⟩ := CFH.tau hc
  have tot := CFH.tot hc hr
  have lt : ∀ s d o', OFF B nx cn ct m c s d o' → o' < gs9 nx (KF B ct m) r c := fun s d o' K => by
    have a := K.lt CFH
    have sr : s < r := by
      rcases Nat.lt_or_ge s r with z | z
      · exact z
      · have b := it_back (nx := nx) (s := s) (k := (c : Int)) (by have := K.2.2.2.1; omega) z
        omega
    have := gs9_mo (nx := nx) (F := KF B ct m) (c := c) (s := s + 1) (t := r) sr hr
    omega
  refine ⟨by omega, fun v v1 v2 => ?_, fun a => if a < fu then τ a else τ' (a - fu), fun v c' o s d o' v1 v2 c2 o2 K => ?_, fun a a1 => ?_⟩
  · by_cases e : v = N + 1
    · rw [e]
      exact ⟨c, fu, c1, hc, o1, fun s d o' K => by have := lt s d o' K; omega⟩
    · obtain ⟨c', o, b1, b2, b3, b4⟩ := h2 v v1 (by omega)
      rw [(ho v v1 (by omega)).1, (ho v v1 (by omega)).2]
      exact ⟨c', o, b1, b2, b3, fun s d o' K => by have := b4 s d o' K; omega⟩
  · show (if o + o' < fu then τ (o + o') else τ' (o + o' - fu)) = B 8 d
    by_cases e : v = N + 1
    · rw [e, c1] at c2
      rw [e, o1] at o2
      have : c' = c := by omega
      have : o = fu := by omega
      subst c' o
      rw [if_neg (by omega), show fu + o' - fu = o' by omega]
      exact ht s d o' K
    · rw [(ho v v1 (by omega)).1] at c2
      rw [(ho v v1 (by omega)).2] at o2
      obtain ⟨c3, o3, b1, b2, b3, b4⟩ := h2 v v1 (by omega)
      have : c3 = c' := by omega
      have : o3 = o := by omega
      subst c3 o3
      have := b4 s d o' K
      rw [if_pos this]
      exact h3 v _ _ s d o' v1 (by omega) c2 o2 K
  · show vt nx oc' (N + 1) (if a < fu then τ a else τ' (a - fu)) (cells' a)
    by_cases e : a < fu
    · rw [if_pos e, hl a e]
      exact (h4 a e).mo (by omega) fun o a1 a2 => (ho o a1 a2).1
    · rw [hz a (by omega) a1]
      exact vt.zero
theorem STAT.mo {st st' : Nat → Int} (H : STAT B nx m N oc st) (h : N ≤ N') (ho : ∀ v, 1 ≤ v → v ≤ N → oc' v = oc v) (e : ∀ q, q < m → st' q = st q) : STAT B nx m N' oc' st' := fun q q1 q2 q3 => by
  rw [e q q1]
  exact (H q q1 q2 q3).mo h ho
theorem FRD.mo {fr fr' : Nat → Int} {σ : Nat → cx} {i i' bs tp : Nat} {z w self fm : Int} (H : FRD B nx m fr N oc σ i z w self fm bs tp) (h : N ≤ N') (ho : ∀ v, 1 ≤ v → v ≤ N → oc' v = oc v) (e : ∀ a, bs ≤ a → a < tp → fr' a = fr a) (hD : ∀ q, q < m → (σ i').2 q → (σ i).2 q) : FRD B nx m fr' N' oc' σ i' z w self fm bs tp := by
  refine ⟨fun z0 => ?_, fun h' w' => ⟨(H.2 h' w').1, fun q q1 q2 q3 => ⟨((H.2 h' w').2 q q1 q2 q3).1, fun q4 => ?_⟩⟩⟩
  · obtain ⟨v, v1, v2, v3, v4⟩ := H.1 z0
    exact ⟨v, v1, v2, by omega, by rw [ho v v2 v3]; exact v4⟩
  · obtain ⟨a, b⟩ := (H.2 h' w').2 q q1 q2 q3
    rw [e _ (by omega) a]
    exact (b (hD q q1 q4)).mo h ho
theorem CHW.mo {g g' : Nat → Nat → Int} (h : N ≤ N') (ho : ∀ v, 1 ≤ v → v ≤ N → oc' v = oc v) : ∀ {u b lb : Nat} {t : Int} {su : Nat}, CHW B nx cn m cl S F E T g N oc u b lb t su → (∀ j v, 43 ≤ j → j ≤ 47 → v < u → g' j v = g j v) → (∀ a, a < b → g' 39 a = g 39 a) → (∀ a, a < lb → g' 24 a = g 24 a) → CHW B nx cn m cl S F E T g' N' oc' u b lb t su
  | 0, _, _, _, _, H, _, _, _ => H
  | u + 1, b, lb, t, su, ⟨lo, k, pc, bs, tp, b', lb', su', σ, H, z, w, r, p1, ⟨p2, p3, p4⟩, p5, p6, p7, p8, p9, p10, p11, p12⟩, e1, e2, e3 => by
    have l := p8.len
    refine ⟨lo, k, pc, bs, tp, b', lb', su', σ, H, z, w, r, p1, ⟨(e1 43 u (by omega) (by omega) (by omega)).trans p2, (e1 44 u (by omega) (by omega) (by omega)).trans p3, (e1 45 u (by omega) (by omega) (by omega)).trans p4⟩, p5, ?_, p7, p8.eq (fun t v q => q.mo h ho) (fun a _ a2 => e2 a a2), p9, p10, p11, p12.mo h ho (fun j v j1 j2 v1 => e1 j v j1 j2 (by omega)) (fun a a1 => e2 a (by omega)) fun a a1 => e3 a (by omega)⟩
    rw [e1 47 u (by omega) (by omega) (by omega), e1 46 u (by omega) (by omega) (by omega)]
    exact p6.mo h ho (fun a _ a2 => e3 a (by omega)) fun q _ q2 => q2
end STATET
