/-! the same tokens read alike, wherever they stand -/
def G2 (C C' E : Nat) (a b : Option Nat) : Prop := a = none ∧ b = none ∨ ∃ t, t ≤ E ∧ a = some (C + t) ∧ b = some (C' + t)
section SH
variable {C C' E L K t : Nat} {s c s' c' : Nat → Int}
theorem G2.no : G2 C C' E none none := Or.inl ⟨rfl, rfl⟩
theorem G2.yes (h : t ≤ E) : G2 C C' E (some (C + t)) (some (C' + t)) := Or.inr ⟨t, h, rfl, rfl⟩
theorem G2.bind {a b : Option Nat} {f g : Nat → Option Nat} (h : G2 C C' E a b) (k : ∀ t, t ≤ E → G2 C C' E (f (C + t)) (g (C' + t))) : G2 C C' E (a.bind f) (b.bind g) := by
  rcases h with ⟨rfl, rfl⟩ | ⟨t, h1, rfl, rfl⟩
  · exact G2.no
  · exact k t h1
theorem G2.ite {p q : Prop} {dp : Decidable p} {dq : Decidable q} {a a' b b' : Option Nat} (e : p ↔ q) (h : p → G2 C C' E a a') (k : ¬ p → G2 C C' E b b') : G2 C C' E (if p then a else b) (if q then a' else b') := by
  by_cases w : p
  · rw [if_pos w, if_pos (e.mp w)]
    exact h w
  · rw [if_neg w, if_neg (fun z => w (e.mpr z))]
    exact k w
/-- the two rows of tokens say the same -/
def SH (C C' E : Nat) (s c s' c' : Nat → Int) : Prop := (∀ t, t ≤ E → s' (C' + t) = s (C + t) ∧ c' (C' + t) = c (C + t)) ∧ s (C + E) = 0
theorem SH.lt (H : SH C C' E s c s' c') (h : t ≤ E) (n : ¬ s (C + t) = 0) : t + 1 ≤ E := by
  have : ¬ t = E := fun e => n (by rw [e]; exact H.2)
  omega
theorem sh_need (H : SH C C' E s c s' c') (x : Int) (h : t ≤ E) : G2 C C' E (g_need s c (C + L) x (C + t)) (g_need s' c' (C' + L) x (C' + t)) := by
  obtain ⟨h1, h2⟩ := H.1 t h
  unfold g_need
  rw [h1, h2]
  refine G2.ite (by omega) (fun z => ?_) (fun _ => G2.no)
  have := H.lt h (by omega)
  exact G2.yes (t := t + 1) this
theorem sh_name (H : SH C C' E s c s' c') (h : t ≤ E) : G2 C C' E (g_name s (C + L) (C + t)) (g_name s' (C' + L) (C' + t)) := by
  obtain ⟨h1, h2⟩ := H.1 t h
  unfold g_name
  rw [h1]
  refine G2.ite (by omega) (fun z => ?_) (fun _ => G2.no)
  have := H.lt h (by omega)
  exact G2.yes (t := t + 1) this
theorem sh_in (H : SH C C' E s c s' c') (dp : Nat) (h : t ≤ E) : g_in s c dp (C + t) ↔ g_in s' c' dp (C' + t) := by
  obtain ⟨h1, h2⟩ := H.1 t h
  unfold g_in
  rw [h1, h2]
theorem sh_g (H : SH C C' E s c s' c') : ∀ (n m l t dp : Nat), t ≤ E → G2 C C' E (g s c (C + L) gd0 n m l (C + t) dp) (g s' c' (C' + L) gd0 n m l (C' + t) dp)
  | 0, _, _, _, _, _ => Or.inl ⟨by rw [g], by rw [g]⟩
  | n + 1, 0, l, t, dp, h => by
    rw [g, g]
    exact G2.ite Iff.rfl (fun _ => sh_g H n 2 0 t dp h) fun _ => (sh_g H n 0 (l + 1) t dp h).bind fun t1 h1 => sh_g H n 1 l t1 dp h1
  | n + 1, 1, l, t, dp, h => by
    obtain ⟨h1, h2⟩ := H.1 t h
    rw [g, g, h1, h2]
    refine G2.ite Iff.rfl (fun _ => G2.no) fun _ => G2.ite Iff.rfl (fun z => G2.ite (by omega) (fun _ => ?_) fun _ => G2.no) fun _ => G2.yes h
    have ht := H.lt h (by omega)
    exact (sh_g H n 0 (l + 1) (t + 1) dp ht).bind fun t1 h1 => sh_g H n 1 l t1 dp h1
  | n + 1, 2, l, t, dp, h => by
    obtain ⟨h1, h2⟩ := H.1 t h
    rw [g, g, h1, h2]
    refine G2.ite Iff.rfl (fun _ => G2.no) fun _ => G2.ite Iff.rfl (fun z => ?_) fun _ => (sh_g H n 3 0 t dp h).bind fun t1 h1 => sh_g H n 4 0 t1 dp h1
    have ht := H.lt h (by omega)
    exact G2.ite (and_congr (by omega) (sh_in H dp ht)) (fun _ => sh_g H n 2 0 (t + 1) (dp + 1) ht) fun _ => G2.no
  | n + 1, 3, l, t, dp, h => by
    obtain ⟨h1, h2⟩ := H.1 t h
    rw [g, g]
    by_cases e : t = E
    · subst e
      have z1 := H.2
      have z2 : s' (C' + t) = 0 := by rw [h1, z1]
      rw [if_neg (by omega), if_neg (by omega), if_neg (by omega), if_neg (by omega), if_neg (by omega), if_neg (by omega), if_neg (by omega), if_neg (by omega), if_neg (by omega), if_neg (by omega), if_neg (by omega), if_neg (by omega)]
      exact G2.no
    have ht : t + 1 ≤ E := by omega
    obtain ⟨k1, k2⟩ := H.1 (t + 1) ht
    have k1 : s' (C' + t + 1) = s (C + t + 1) := k1
    have k2 : c' (C' + t + 1) = c (C + t + 1) := k2
    refine G2.ite (by rw [h1]) (fun _ => G2.ite (by omega) (fun _ => G2.yes (t := t + 1) ht) fun _ => G2.no) fun _ => G2.ite (by omega) (fun _ => G2.ite (by omega) (fun _ => G2.ite (by omega) (fun _ => G2.no) fun _ => G2.ite (by omega) (fun _ => sh_g H n 5 0 (t + 1) dp ht) fun _ => G2.yes (t := t + 1) ht) fun _ => G2.no) fun _ => G2.ite (by omega) (fun _ => G2.ite (by omega) (fun _ => G2.no) fun _ => G2.no) fun _ => G2.ite (by omega) (fun _ => G2.ite (by omega) (fun _ => G2.yes (t := t + 1) ht) fun _ => G2.no) fun _ => G2.ite (by omega) (fun _ => G2.ite (by omega) (fun _ => (sh_name H ht).bind fun t1 h1 => (sh_need H 40 h1).bind fun t2 h2 => sh_need H 41 h2) fun _ => G2.no) fun _ => G2.ite (and_congr (by rw [h1]) (and_congr (by rw [h2]) (and_congr (by omega) (sh_in H dp ht)))) (fun _ => (sh_g H n 0 1 (t + 1) (dp + 1) ht).bind fun t1 h1 => sh_need H 41 h1) fun _ => G2.no
  | n + 1, 4, l, t, dp, h => by
    obtain ⟨h1, h2⟩ := H.1 t h
    rw [g, g, h1, h2]
    refine G2.ite Iff.rfl (fun _ => G2.no) fun _ => G2.ite Iff.rfl (fun z => G2.ite (by omega) (fun _ => ?_) fun _ => G2.no) fun _ => G2.yes h
    have ht := H.lt h (by omega)
    refine (sh_name H ht).bind fun t1 h1 => ?_
    obtain ⟨k1, k2⟩ := H.1 t1 h1
    rw [k1, k2]
    exact G2.ite Iff.rfl (fun _ => G2.no) fun _ => G2.ite Iff.rfl (fun _ => (sh_g H n 5 0 t1 dp h1).bind fun t2 h2 => sh_g H n 4 0 t2 dp h2) fun _ => sh_g H n 4 0 t1 dp h1
  | n + 1, 5, l, t, dp, h => by
    rw [g, g]
    refine (sh_need H 40 h).bind fun t1 h1 => ?_
    obtain ⟨k1, k2⟩ := H.1 t1 h1
    refine G2.ite (by omega) (fun _ => G2.no) fun _ => G2.ite (by omega) (fun z => G2.ite (by omega) (fun _ => ?_) fun _ => G2.no) fun _ => G2.ite (sh_in H dp h1) (fun _ => sh_g H n 6 0 t1 (dp + 1) h1) fun _ => G2.no
    have ht := H.lt h1 (by omega)
    exact G2.yes (t := t1 + 1) ht
  | n + 1, 6, l, t, dp, h => by
    rw [g, g]
    refine (sh_g H n 0 1 t dp h).bind fun t1 h1 => ?_
    obtain ⟨k1, k2⟩ := H.1 t1 h1
    rw [k1, k2]
    refine G2.ite Iff.rfl (fun _ => G2.no) fun _ => G2.ite Iff.rfl (fun z => G2.ite (by omega) (fun _ => ?_) fun _ => G2.no) fun _ => sh_need H 41 h1
    have ht := H.lt h1 (by omega)
    exact sh_g H n 6 0 (t1 + 1) dp ht
  | n + 1, 7, l, t, dp, h => by
    obtain ⟨h1, h2⟩ := H.1 t h
    rw [g, g]
    by_cases e : s (C + t) = 0
    · have lo : ¬ g_lo s c (C + t) := by unfold g_lo; omega
      have lo' : ¬ g_lo s' c' (C' + t) := by unfold g_lo; omega
      have e' : s' (C' + t) = 0 := by omega
      rw [if_neg (by omega), if_neg (by omega), if_neg lo, if_neg (by omega), if_neg (by omega), if_neg (by omega), if_neg (by omega), if_neg (by omega), if_neg (by omega), if_neg lo', if_neg (by omega), if_neg (by omega), if_neg (by omega), if_neg (by omega)]
      refine (sh_g H n 0 1 t dp h).bind fun t1 h1 => ?_
      obtain ⟨k1, k2⟩ := H.1 t1 h1
      refine G2.ite (by omega) (fun _ => G2.no) fun _ => G2.ite (by omega) (fun z => G2.ite (by omega) (fun _ => ?_) fun _ => G2.no) fun _ => sh_need H 59 h1
      have ht := H.lt h1 (by omega)
      exact (sh_g H n 0 1 (t1 + 1) dp ht).bind fun t2 h2 => sh_need H 59 h2
    have ht := H.lt h e
    obtain ⟨j1, j2⟩ := H.1 (t + 1) ht
    have j1 : s' (C' + t + 1) = s (C + t + 1) := j1
    have j2 : c' (C' + t + 1) = c (C + t + 1) := j2
    have lo : g_lo s c (C + t) ↔ g_lo s' c' (C' + t) := by
      unfold g_lo
      rw [h1, h2, j1]
    refine G2.ite (by omega) (fun _ => G2.no) fun _ => G2.ite (by omega) (fun _ => sh_g H n 8 0 t dp h) fun _ => G2.ite lo (fun _ => G2.ite (by omega) (fun _ => (sh_name H ht).bind fun t1 h1 => (sh_need H 61 h1).bind fun t2 h2 => (sh_g H n 0 1 t2 dp h2).bind fun t3 h3 => sh_need H 59 h3) fun _ => G2.no) fun _ => G2.ite (by omega) (fun _ => G2.ite (by omega) (fun _ => (sh_g H n 11 0 (t + 1) dp ht).bind fun t1 h1 => (sh_g H n 10 0 t1 dp h1).bind fun t2 h2 => ?_) fun _ => G2.no) fun _ => G2.ite (by omega) (fun _ => G2.ite (by omega) (fun _ => (sh_g H n 11 0 (t + 1) dp ht).bind fun t1 h1 => sh_g H n 10 0 t1 dp h1) fun _ => G2.no) fun _ => G2.ite (by omega) (fun _ => G2.ite (by omega) (fun _ => G2.ite (by omega) (fun _ => G2.no) fun _ => G2.ite (by omega) (fun _ => sh_need H 59 ht) fun _ => (sh_g H n 0 1 (t + 1) dp ht).bind fun t1 h1 => sh_need H 59 h1) fun _ => G2.no) fun _ => G2.ite (by omega) (fun _ => G2.ite (by omega) (fun _ => (sh_g H n 0 1 (t + 1) dp ht).bind fun t1 h1 => sh_need H 59 h1) fun _ => G2.no) fun _ => (sh_g H n 0 1 t dp h).bind fun t1 h1 => ?_
    · obtain ⟨k1, k2⟩ := H.1 t2 h2
      refine G2.ite (by omega) (fun _ => G2.no) fun _ => G2.ite (by omega) (fun z => G2.ite (by omega) (fun _ => ?_) fun _ => G2.no) fun _ => G2.yes h2
      have ht2 := H.lt h2 (by omega)
      exact sh_g H n 10 0 (t2 + 1) dp ht2
    · obtain ⟨k1, k2⟩ := H.1 t1 h1
      refine G2.ite (by omega) (fun _ => G2.no) fun _ => G2.ite (by omega) (fun z => G2.ite (by omega) (fun _ => ?_) fun _ => G2.no) fun _ => sh_need H 59 h1
      have ht2 := H.lt h1 (by omega)
      exact (sh_g H n 0 1 (t1 + 1) dp ht2).bind fun t2 h2 => sh_need H 59 h2
  | n + 1, 8, l, t, dp, h => by
    rw [g, g]
    exact (sh_need H 123 h).bind fun t1 h1 => G2.ite (sh_in H dp h1) (fun _ => sh_g H n 9 0 t1 (dp + 1) h1) fun _ => G2.no
  | n + 1, 9, l, t, dp, h => by
    obtain ⟨h1, h2⟩ := H.1 t h
    rw [g, g, h1, h2]
    refine G2.ite Iff.rfl (fun _ => G2.no) fun _ => G2.ite Iff.rfl (fun z => G2.ite (by omega) (fun _ => ?_) fun _ => G2.no) fun _ => (sh_g H n 7 0 t dp h).bind fun t1 h1 => sh_g H n 9 0 t1 dp h1
    have ht := H.lt h (by omega)
    exact G2.yes (t := t + 1) ht
  | n + 1, 10, l, t, dp, h => by
    rw [g, g]
    exact G2.ite (sh_in H dp h) (fun _ => sh_g H n 7 0 t (dp + 1) h) fun _ => G2.no
  | n + 1, 11, l, t, dp, h => by
    rw [g, g]
    exact (sh_need H 40 h).bind fun t1 h1 => G2.ite (sh_in H dp h1) (fun _ => (sh_g H n 0 1 t1 (dp + 1) h1).bind fun t2 h2 => sh_need H 41 h2) fun _ => G2.no
  | n + 1, m + 12, l, t, dp, h => Or.inl ⟨by rw [g], by rw [g]⟩
end SH
