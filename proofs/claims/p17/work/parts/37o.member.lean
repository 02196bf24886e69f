/-! the reference's parser: members -/
/-- where reading a member changes ints -/
def rM (p n0 d0 : Nat) : Nat → Nat → Prop := fun b j => rS p n0 d0 b j ∨ b = p ∧ j = 38
theorem rM_S {p n0 n1 d0 d1 : Nat} (h : n0 ≤ n1) (h' : d0 ≤ d1) : ∀ b j, rS p n1 d1 b j → rM p n0 d0 b j := fun b j z => Or.inl (rS_mo h h' b j z)
theorem rM_mo {p n0 n1 d0 d1 : Nat} (h : n0 ≤ n1) (h' : d0 ≤ d1) : ∀ b j, rM p n1 d1 b j → rM p n0 d0 b j := fun b j z => z.imp (rS_mo h h' b j) id
theorem rM_F {p n0 d0 : Nat} : ∀ b j, fF b j → rM p n0 d0 b j := fun _ _ z => Or.inl (rS_F _ _ z)
/-- a param's telling -/
def pd (B : Nat → Nat → Int) (s c : Nat → Int) (m bg t d : Nat) : Prop := B 0 d = 3 ∧ ((bg : Int) ≤ B 6 d ∧ B 6 d ≤ B 2 d ∧ B 2 d < B 1 d ∧ B 1 d ≤ B 7 d ∧ B 7 d < t) ∧ s (B 1 d).toNat = 1 ∧ g_ty s c (B 2 d).toNat ∧ B 3 d = m ∧ B 4 d = 0 ∧ B 5 d = -1 ∧ B 8 d = -5 ∧ B 9 d = 0
/-- a member that is being read: pc params so far -/
def MM (p : Nat) (s c : Nat → Int) (e0 : Nat) (so : Int) (u m n bg ty nm : Nat) (st : Int) (M0 M : me_M) (t pc : Nat) : Prop :=
  fr (rM p n m) M0 M ∧ me_i M p 35 = (t : Int) ∧ me_i M p 37 = ((0 : Nat) : Int) ∧ me_i M p 4 = (n : Int) ∧ me_i M p 38 = (m : Int) ∧ me_i M p 16 = ((m + 1 + pc : Nat) : Int) ∧ (pc ≤ 8 ∧ bg ≤ ty ∧ ty < nm ∧ nm < t ∧ t ≤ e0 ∧ m + 1 + pc ≤ t) ∧ s nm = 1 ∧
  (tA p M 0 m = so ∧ tA p M 1 m = (nm : Int) ∧ tA p M 2 m = (ty : Int) ∧ tA p M 3 m = (u : Int) ∧ tA p M 4 m = st ∧ tA p M 5 m = -1 ∧ tA p M 6 m = (bg : Int) ∧ tA p M 8 m = -5 ∧ tA p M 9 m = (pc : Int)) ∧
  ((∀ d, m < d → d < m + 1 + pc → pd (tA p M) s c m (nm + 1) t d) ∧ ∀ d d', m < d → d < d' → d' < m + 1 + pc → tA p M 7 d < tA p M 6 d') ∧ ∀ k, bg ≤ k → k < t → s k = 1 → tc (tA p M) m (m + 1 + pc) k
section MMS
variable {N : Nat} {X : Nat → Int32} {p : Nat} {s c : Nat → Int} {lim : Nat} {gd : Nat → Option Nat} {e0 : Nat} {so st : Int} {u m n bg ty nm t pc : Nat} {M0 M : me_M}
theorem pk_m (k : pk p s c lim M0) (hp : 164 < p) (f : fr (rM p n m) M0 M) : pk p s c lim M := by
  refine k.fr f (fun j => ?_) (fun j => ?_) ?_ ?_ <;> unfold rM rS rE fF <;> omega
theorem MM.pass (Q : MM p s c e0 so u m n bg ty nm st M0 M t pc) (hp : 164 < p) (ht : t < 2147483646) (he : t < e0) (hs : ¬ s t = 1) : MM p s c e0 so u m n bg ty nm st M0 (pT M p t) (t + 1) pc := by
  obtain ⟨f, q1, q2, q3, q4, q5, q6, q7, q8, ⟨q9, q9b⟩, q10⟩ := Q
  have f1 : fr (fun b j => b = p ∧ j = 35) M (pT M p t) := fr_sI ⟨rfl, rfl⟩
  have eB : ∀ i j, tA p (pT M p t) i j = tA p M i j := fun i j => f1.i (by omega)
  refine ⟨f.tr (f1.mo fun b j z => Or.inl (Or.inl (Or.inr (Or.inl ⟨z.1, by omega⟩)))), ?_, by rw [f1.i (by omega), q2], by rw [f1.i (by omega), q3], by rw [f1.i (by omega), q4], by rw [f1.i (by omega), q5], by omega, q7, ?_, ⟨fun d d1 d2 => ?_, fun d d' d1 d2 d3 => ?_⟩, fun k k1 k2 k3 => ?_⟩
  · show me_i (me_sI _ _ _ _) _ _ = _
    rw [me_i_sI, if_pos ⟨rfl, rfl⟩, me_to ⟨by omega, by omega⟩]
    omega
  · rw [eB, eB, eB, eB, eB, eB, eB, eB, eB]
    exact q8
  · obtain ⟨a1, a2, a3⟩ := q9 d d1 d2
    unfold pd
    rw [eB, eB, eB, eB, eB, eB, eB, eB, eB, eB]
    exact ⟨a1, by omega, a3⟩
  · rw [eB, eB]
    exact q9b d d' d1 d2 d3
  · by_cases e : k = t
    · exact absurd (e ▸ k3) hs
    · exact (q10 k k1 (by omega) k3).mo (Nat.le_refl _) (Nat.le_refl _) fun i j _ _ _ => eB i j
/-- the params of a method, from the type of one on -/
def g_par (s c : Nat → Int) (lim : Nat) : Nat → Nat → Nat → Option Nat
  | 0, _, _ => none
  | k + 1, pc, t => if g_ty s c t ∧ t < lim ∧ s (t + 1) = 1 ∧ ¬ pc = 8 ∧ t + 1 < lim then (if s (t + 2) = -1 then none else if s (t + 2) = 4 ∧ c (t + 2) = 44 then (if t + 2 < lim then g_par s c lim k (pc + 1) (t + 3) else none) else g_need s c lim 41 (t + 2)) else none
/-- one param more -/
theorem MM.param (Q : MM p s c e0 so u m n bg ty nm st M0 M t pc) (hp : 164 < p) (he : e0 ≤ 2405) (k0 : pk p s c lim M0) (hty : g_ty s c t) (hs : s (t + 1) = 1) (hpc : ¬ pc = 8) (he1 : t + 1 < e0) {M3 M4 M5 : me_M} (f3 : fr (fun b j => b = p ∧ j = 16 ∨ p + 25 ≤ b ∧ b ≤ p + 34 ∧ j = m + 1 + pc) (pT (pT M p t) p (t + 1)) M3) (D3 : me_i M3 p 16 = ((m + 1 + pc + 1 : Nat) : Int)) (v : ∀ i, i < 10 → tA p M3 i (m + 1 + pc) = tv 3 ((t + 1 : Nat) : Int) t m 0 t i) (e4 : M4 = me_sI M3 (p + 32) (m + 1 + pc) (Int32.ofInt ((t + 1 : Nat) : Int))) (e5 : M5 = me_sI M4 (p + 34) m (Int32.ofInt ((pc : Int) + 1))) : MM p s c e0 so u m n bg ty nm st M0 M5 (t + 2) (pc + 1) := by
  obtain ⟨f, q1, q2, q3, q4, q5, q6, q7, q8, ⟨q9, q9b⟩, q10⟩ := Q
  have f1 : fr (fun b j => b = p ∧ j = 35) M (pT M p t) := fr_sI ⟨rfl, rfl⟩
  have f2 : fr (fun b j => b = p ∧ j = 35) (pT M p t) (pT (pT M p t) p (t + 1)) := fr_sI ⟨rfl, rfl⟩
  have f4 : fr (fun b j => b = p + 32 ∧ j = m + 1 + pc) M3 M4 := e4 ▸ fr_sI ⟨rfl, rfl⟩
  have f5 : fr (fun b j => b = p + 34 ∧ j = m) M4 M5 := e5 ▸ fr_sI ⟨rfl, rfl⟩
  have t2 : me_i (pT (pT M p t) p (t + 1)) p 35 = ((t + 2 : Nat) : Int) := by
    show me_i (me_sI _ _ _ _) _ _ = _
    rw [me_i_sI, if_pos ⟨rfl, rfl⟩, me_to ⟨by omega, by omega⟩]
    omega
  have fa : fr (fun b j => b = p ∧ (j = 16 ∨ j = 35) ∨ p + 25 ≤ b ∧ b ≤ p + 34 ∧ j = m + 1 + pc ∨ b = p + 34 ∧ j = m) M M5 := (((f1.mo fun b j z => by omega).tr (f2.mo fun b j z => by omega)).tr (f3.mo fun b j z => by omega)).tr ((f4.mo fun b j z => by omega).tr (f5.mo fun b j z => by omega))
  have eB : ∀ i j, i < 10 → ¬ j = m + 1 + pc → ¬ (i = 9 ∧ j = m) → tA p M5 i j = tA p M i j := fun i j _ _ _ => fa.i (by omega)
  have eN : ∀ i, i < 10 → ¬ i = 7 → tA p M5 i (m + 1 + pc) = tv 3 ((t + 1 : Nat) : Int) t m 0 t i := fun i i1 i2 => by
    rw [← v i i1]
    show me_i M5 _ _ = _
    rw [f5.i (by omega), f4.i (by omega)]
    rfl
  have n0 : tA p M5 0 (m + 1 + pc) = 3 := eN 0 (by omega) (by omega)
  have n1 : tA p M5 1 (m + 1 + pc) = ((t + 1 : Nat) : Int) := eN 1 (by omega) (by omega)
  have n2 : tA p M5 2 (m + 1 + pc) = (t : Int) := eN 2 (by omega) (by omega)
  have n3 : tA p M5 3 (m + 1 + pc) = (m : Int) := eN 3 (by omega) (by omega)
  have n4 : tA p M5 4 (m + 1 + pc) = 0 := eN 4 (by omega) (by omega)
  have n5 : tA p M5 5 (m + 1 + pc) = -1 := eN 5 (by omega) (by omega)
  have n6 : tA p M5 6 (m + 1 + pc) = (t : Int) := eN 6 (by omega) (by omega)
  have n8 : tA p M5 8 (m + 1 + pc) = -5 := eN 8 (by omega) (by omega)
  have n9 : tA p M5 9 (m + 1 + pc) = 0 := eN 9 (by omega) (by omega)
  have n7 : tA p M5 7 (m + 1 + pc) = ((t + 1 : Nat) : Int) := by
    show me_i M5 (p + 32) _ = _
    rw [f5.i (by omega), e4, me_i_sI, if_pos ⟨rfl, rfl⟩, me_to ⟨by omega, by omega⟩]
  have n9m : tA p M5 9 m = ((pc + 1 : Nat) : Int) := by
    show me_i M5 (p + 34) _ = _
    rw [e5, me_i_sI, if_pos ⟨rfl, rfl⟩, me_to ⟨by omega, by omega⟩]
    omega
  refine ⟨f.tr (fa.mo fun b j z => ?_), ?_, by rw [fa.i (by omega), q2], by rw [fa.i (by omega), q3], by rw [fa.i (by omega), q4], ?_, by omega, q7, ?_, ⟨fun d d1 d2 => ?_, fun d d' d1 d2 d3 => ?_⟩, fun k k1 k2 k3 => ?_⟩
  · unfold rM rS rE
    omega
  · rw [f5.i (by omega), f4.i (by omega), f3.i (by omega), t2]
  · rw [f5.i (by omega), f4.i (by omega), D3]
    omega
  · rw [eB 0 m (by omega) (by omega) (by omega), eB 1 m (by omega) (by omega) (by omega), eB 2 m (by omega) (by omega) (by omega), eB 3 m (by omega) (by omega) (by omega), eB 4 m (by omega) (by omega) (by omega), eB 5 m (by omega) (by omega) (by omega), eB 6 m (by omega) (by omega) (by omega), eB 8 m (by omega) (by omega) (by omega), n9m]
    exact ⟨q8.1, q8.2.1, q8.2.2.1, q8.2.2.2.1, q8.2.2.2.2.1, q8.2.2.2.2.2.1, q8.2.2.2.2.2.2.1, q8.2.2.2.2.2.2.2.1, rfl⟩
  · by_cases e : d = m + 1 + pc
    · subst e
      unfold pd
      rw [n0, n1, n2, n3, n4, n5, n6, n7, n8, n9, Int.toNat_natCast, Int.toNat_natCast]
      exact ⟨rfl, by omega, hs, hty, rfl, rfl, rfl, rfl, rfl⟩
    · obtain ⟨a1, a2, a3⟩ := q9 d d1 (by omega)
      unfold pd
      rw [eB 0 d (by omega) e (by omega), eB 1 d (by omega) e (by omega), eB 2 d (by omega) e (by omega), eB 3 d (by omega) e (by omega), eB 4 d (by omega) e (by omega), eB 5 d (by omega) e (by omega), eB 6 d (by omega) e (by omega), eB 7 d (by omega) e (by omega), eB 8 d (by omega) e (by omega), eB 9 d (by omega) e (by omega)]
      exact ⟨a1, by omega, a3⟩
  · rw [eB 7 d (by omega) (by omega) (by omega)]
    by_cases e : d' = m + 1 + pc
    · rw [e, n6]
      have := (q9 d d1 (by omega)).2.1
      omega
    · rw [eB 6 d' (by omega) e (by omega)]
      exact q9b d d' d1 d2 (by omega)
  · by_cases e : k < t
    · obtain ⟨d, d1, d2, d3⟩ := q10 k k1 e k3
      exact ⟨d, d1, by omega, by rw [eB 1 d (by omega) (by omega) (by omega), eB 2 d (by omega) (by omega) (by omega)]; exact d3⟩
    · exact ⟨m + 1 + pc, by omega, by omega, by rw [n1, n2]; omega⟩
end MMS
