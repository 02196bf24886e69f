/-! the reference's judge: classes above have an end -/
theorem pigeon : ∀ (cl : Nat) (f : Nat → Nat) (k : Nat), cl < k → (∀ i, i < k → f i < cl) → ∃ i j, i < j ∧ j < k ∧ f i = f j
  | 0, f, k, h, hf => absurd (hf 0 (by omega)) (by omega)
  | cl + 1, f, 0, h, hf => by omega
  | cl + 1, f, k + 1, h, hf => by
    by_cases e : ∃ i, i < k ∧ f i = f k
    · obtain ⟨i, i1, i2⟩ := e
      exact ⟨i, k, i1, by omega, i2⟩
    · have ne : ∀ i, i < k → ¬ f i = f k := fun i i1 i2 => e ⟨i, i1, i2⟩
      have hk := hf k (by omega)
      obtain ⟨i, j, h1, h2, h3⟩ := pigeon cl (fun i => if f i = cl then f k else f i) k (by omega) (fun i i1 => by
        have := hf i (by omega)
        have := ne i i1
        show (if f i = cl then f k else f i) < cl
        split <;> omega)
      have n1 := ne i (by omega)
      have n2 := ne j h2
      have h3 : (if f i = cl then f k else f i) = (if f j = cl then f k else f j) := h3
      refine ⟨i, j, h1, by omega, ?_⟩
      split at h3 <;> split at h3 <;> omega
def rkn (nx : Nat → Int) : Nat → Int → Nat
  | 0, _ => 0
  | m + 1, k => if k < 0 then 0 else 1 + rkn nx m (nx k.toNat)
theorem rkn_s {nx : Nat → Int} : ∀ (m : Nat) (k : Int), it nx m k < 0 → rkn nx (m + 1) k = rkn nx m k
  | 0, k, h => by
    have h : k < 0 := h
    show (if k < 0 then 0 else 1 + rkn nx 0 (nx k.toNat)) = 0
    rw [if_pos h]
  | m + 1, k, h => by
    show (if k < 0 then 0 else 1 + rkn nx (m + 1) (nx k.toNat)) = if k < 0 then 0 else 1 + rkn nx m (nx k.toNat)
    by_cases e : k < 0
    · rw [if_pos e, if_pos e]
    · rw [it, if_neg e] at h
      rw [if_neg e, if_neg e, rkn_s m _ h]
theorem it_add {nx : Nat → Int} : ∀ (a b : Nat) (k : Int), it nx (a + b) k = it nx b (it nx a k) ∨ it nx (a + b) k < 0
  | 0, b, k => Or.inl (by rw [Nat.zero_add]; rfl)
  | a + 1, b, k => by
    rw [show a + 1 + b = (a + b) + 1 by omega, it, it]
    by_cases e : k < 0
    · rw [if_pos e]
      exact Or.inr (by omega)
    · rw [if_neg e, if_neg e]
      exact it_add a b _
/-- without a class above itself every row of classes above ends -/
theorem acyc {nx : Nat → Int} {cl : Nat} (h8 : cl ≤ 8) (hs : ∀ i, i < cl → -1 ≤ nx i ∧ nx i < cl) (hn : ∀ i : Nat, i < cl → ¬ heir nx (i : Int) (i : Int)) : ∀ k : Int, k < cl → it nx 8 k < 0 := by
  intro k hk
  by_cases e : it nx 8 k < 0
  · exact e
  have pos : ∀ s, s ≤ 8 → 0 ≤ it nx s k := fun s s1 => by
    rcases it_add (nx := nx) s (8 - s) k with h | h
    · rw [show s + (8 - s) = 8 by omega] at h
      by_cases z : it nx s k < 0
      · have := it_neg (nx := nx) (m := 8 - s) z
        omega
      · omega
    · rw [show s + (8 - s) = 8 by omega] at h
      omega
  have lt : ∀ s, s ≤ 8 → it nx s k < cl := by
    intro s
    induction s with
    | zero => intro _; exact hk
    | succ s ih =>
      intro s1
      rw [it_last, if_neg (by have := pos s (by omega); omega)]
      have := ih (by omega)
      have := pos s (by omega)
      exact (hs _ (by omega)).2
  obtain ⟨i, j, h1, h2, h3⟩ := pigeon cl (fun s => (it nx s k).toNat) 9 (by omega) (fun s s1 => by
    have := lt s (by omega)
    have := pos s (by omega)
    show (it nx s k).toNat < cl
    omega)
  have pi := pos i (by omega)
  have li := lt i (by omega)
  have h3 : (it nx i k).toNat = (it nx j k).toNat := h3
  have eij : it nx j k = it nx i k := by
    have := pos j (by omega)
    omega
  refine absurd ?_ (hn (it nx i k).toNat (by omega))
  refine ⟨by omega, by omega, j - i - 1, by omega, ?_⟩
  rw [show ((it nx i k).toNat : Int) = it nx i k by omega]
  rcases it_add (nx := nx) i (j - i) k with h | h
  · rw [show i + (j - i) = j by omega, eij, show j - i = (j - i - 1) + 1 by omega, it, if_neg (by omega)] at h
    exact h.symm
  · rw [show i + (j - i) = j by omega] at h
    have := pos j (by omega)
    omega
/-- how many classes there are from k on upwards -/
def rank (nx : Nat → Int) (k : Int) : Nat := rkn nx 8 k
theorem rank_lt {nx : Nat → Int} {cl : Nat} (h8 : cl ≤ 8) (hs : ∀ i, i < cl → -1 ≤ nx i ∧ nx i < cl) (hn : ∀ i : Nat, i < cl → ¬ heir nx (i : Int) (i : Int)) {i : Nat} (hi : i < cl) : rank nx (nx i) < rank nx (i : Int) := by
  have h := acyc h8 hs hn (nx i) (hs i hi).2
  have h2 := acyc h8 hs hn (i : Int) (by omega)
  unfold rank
  rw [← rkn_s 8 (i : Int) h2]
  show rkn nx 8 (nx i) < if (i : Int) < 0 then 0 else 1 + rkn nx 8 (nx (i : Int).toNat)
  rw [if_neg (by omega), Int.toNat_natCast]
  omega
section BEG
variable {N : Nat} {X : Nat → Int32} {d p cl m n C : Nat} {M : me_M}
/-- begin: nothing is known, here, static, method are set -/
theorem c_341 {e : Nat} (he : e < m) (hm : m ≤ 2407) (hC : CS p M cl m) (oe : ∃ q : Nat, tA p M 3 e = (q : Int) ∧ q < m ∧ tA p M 0 q = 0) : me_W (mt_G N X) 341 d 0 [some (.inr (.inl (some p, 29, 0))), some (.inl (e : Int))] [] M (sx_qV (fun M' => fr (fun b j => b = p ∧ (j = 48 ∨ j = 49 ∨ j = 50 ∨ j = 51)) M M' ∧ KN p M' m 0 ∧ (∃ i : Nat, i < cl ∧ me_i M' p 49 = (i : Int) ∧ me_i M (p + 37) (tA p M 3 e).toNat = (i : Int)) ∧ me_i M' p 50 = tA p M 4 e ∧ me_i M' p 51 = (e : Int)) nt_E) := by
  obtain ⟨q, q1, q2, q3⟩ := oe
  obtain ⟨i, i1, i2, _⟩ := hC.2.2.2.1 q q2 q3
  have c8 := hC.2.1
  refine b341_0 ?_
  intro M1
  have f1 : fr (fun b j => b = p ∧ j = 48) M M1 := fr_sI ⟨rfl, rfl⟩
  have v1 : me_i M1 p 48 = 0 := by
    show me_i (me_sI _ _ _ _) _ _ = _
    rw [me_i_sI, if_pos ⟨rfl, rfl⟩]
    rfl
  rw [Int.toNat_natCast, show me_i M1 (p + 28) e = (q : Int) by rw [f1.i (by omega)]; exact q1, Int.toNat_natCast, show me_i M1 (p + 37) q = (i : Int) by rw [f1.i (by omega)]; exact i2]
  refine ⟨by omega, by omega, by omega, by omega, ?_⟩
  intro M2
  have f2 : fr (fun b j => b = p ∧ j = 49) M1 M2 := fr_sI ⟨rfl, rfl⟩
  have v2 : me_i M2 p 49 = (i : Int) := by
    show me_i (me_sI _ _ _ _) _ _ = _
    rw [me_i_sI, if_pos ⟨rfl, rfl⟩, me_to ⟨by omega, by omega⟩]
  have s4 : me_i M2 (p + 29) e = tA p M 4 e := by
    rw [f2.i (by omega), f1.i (by omega)]
    rfl
  refine ⟨by omega, by omega, fun hb => ⟨hb, ?_⟩⟩
  rw [s4]
  intro M3
  have f3 : fr (fun b j => b = p ∧ j = 50) M2 M3 := fr_sI ⟨rfl, rfl⟩
  have v3 : me_i M3 p 50 = tA p M 4 e := by
    show me_i (me_sI _ _ _ _) _ _ = _
    rw [me_i_sI, if_pos ⟨rfl, rfl⟩, me_to (show me_r (tA p M 4 e) from me_i_r _ _ _)]
  intro M4
  have f4 : fr (fun b j => b = p ∧ j = 51) M3 M4 := fr_sI ⟨rfl, rfl⟩
  have v4 : me_i M4 p 51 = (e : Int) := by
    show me_i (me_sI _ _ _ _) _ _ = _
    rw [me_i_sI, if_pos ⟨rfl, rfl⟩, me_to ⟨by omega, by omega⟩]
  refine ⟨((f1.mo fun b j z => by omega).tr (f2.mo fun b j z => by omega)).tr ((f3.mo fun b j z => by omega).tr (f4.mo fun b j z => by omega)), ⟨by rw [f4.i (by omega), f3.i (by omega), f2.i (by omega), v1]; rfl, Nat.zero_le _, fun i z => by omega⟩, ⟨i, i1, by rw [f4.i (by omega), f3.i (by omega), v2], by rw [q1, Int.toNat_natCast, i2]⟩, by rw [f4.i (by omega), v3], v4⟩
end BEG
