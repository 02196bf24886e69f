/-! pieces of acts, one behind another: fields' pieces; whole segments -/
/-- nothing is set -/
def Dm (m : Nat) : Nat → Prop := fun q => m ≤ q
/-- at a method's begin its params are set -/
def D0 (B : Nat → Nat → Int) (m h : Nat) : Nat → Prop := fun q => m ≤ q ∨ B 3 q = (h : Int) ∧ B 0 q = 3
section SEGS
variable {B : Nat → Nat → Int} {nx cn ct fc fs : Nat → Int} {V : Nat → Nat → Prop} {m cl h hc q : Nat} {S F E S' F' E' : Nat → Int} {lo mid hi k : Nat} {x y : cx}
def cut2 (m : Nat) (x : cx) : cx := (x.1, fun q => x.2 q ∧ m ≤ q)
theorem cle.cut {a b : cx} (H : cle a b) : cle (cut2 m a) (cut2 m b) := ⟨H.1, fun q z => ⟨H.2 q z.1, z.2⟩⟩
theorem CF.fieldno (C : CF B nx cn ct fc fs V m cl) (hh : B 0 h = 1) (hq : q < m) (h3 : B 3 q = (h : Int)) (h0 : B 0 q = 3 ∨ B 0 q = 4) : False := by
  obtain ⟨h', a, _, b, _⟩ := C.2.2.2.2.2.2.1 q hq h0
  rw [show h' = h by omega] at b
  omega
theorem SA.cut {s f e : Int} (C : CF B nx cn ct fc fs V m cl) (hh : B 0 h = 1) (H : SA B nx cn m cl h hc s f e x y) : SA B nx cn m cl h hc s f e (cut2 m x) (cut2 m y) := by
  have w : y.2 = x.2 → (cut2 m y).2 = (cut2 m x).2 := fun z => by
    unfold cut2
    rw [z]
  rcases H with ⟨a, b, c⟩ | ⟨a, b, c⟩ | ⟨a, b, c⟩ | ⟨a, b, q, c1, c2, c3, c4, c5⟩ | ⟨a, b, c⟩ | ⟨a, b, c⟩ | ⟨a, b, c⟩ | ⟨a, b, c⟩ | ⟨a, b, c⟩ | ⟨a, b, c⟩ | ⟨a, b, c⟩ | ⟨a, b, c⟩ | ⟨a, q, t, r, c1, c2, c3, c4, c5⟩ | ⟨a, b, c⟩ | ⟨a, b, c⟩ | ⟨a, b, c⟩ | ⟨a, b, c⟩
  · exact Or.inl ⟨a, w b, c⟩
  · exact Or.inr (Or.inl ⟨a, w b, c⟩)
  · exact Or.inr (Or.inr (Or.inl ⟨a, w b, c⟩))
  · exact (C.fieldno hh c2 c3 c4).elim
  · exact Or.inr (Or.inr (Or.inr (Or.inr (Or.inl ⟨a, w b, c⟩))))
  · exact Or.inr (Or.inr (Or.inr (Or.inr (Or.inr (Or.inl ⟨a, w b, c⟩)))))
  · exact Or.inr (Or.inr (Or.inr (Or.inr (Or.inr (Or.inr (Or.inl ⟨a, w b, c⟩))))))
  · exact Or.inr (Or.inr (Or.inr (Or.inr (Or.inr (Or.inr (Or.inr (Or.inl ⟨a, w b, c⟩)))))))
  · exact Or.inr (Or.inr (Or.inr (Or.inr (Or.inr (Or.inr (Or.inr (Or.inr (Or.inl ⟨a, w b, c⟩))))))))
  · exact Or.inr (Or.inr (Or.inr (Or.inr (Or.inr (Or.inr (Or.inr (Or.inr (Or.inr (Or.inl ⟨a, w b, c⟩)))))))))
  · exact Or.inr (Or.inr (Or.inr (Or.inr (Or.inr (Or.inr (Or.inr (Or.inr (Or.inr (Or.inr (Or.inl ⟨a, w b, c⟩))))))))))
  · exact Or.inr (Or.inr (Or.inr (Or.inr (Or.inr (Or.inr (Or.inr (Or.inr (Or.inr (Or.inr (Or.inr (Or.inl ⟨a, w b, c⟩)))))))))))
  · exact (C.fieldno hh c2 c3 c4).elim
  · exact Or.inr (Or.inr (Or.inr (Or.inr (Or.inr (Or.inr (Or.inr (Or.inr (Or.inr (Or.inr (Or.inr (Or.inr (Or.inr (Or.inl ⟨a, w b, c⟩)))))))))))))
  · exact Or.inr (Or.inr (Or.inr (Or.inr (Or.inr (Or.inr (Or.inr (Or.inr (Or.inr (Or.inr (Or.inr (Or.inr (Or.inr (Or.inr (Or.inl ⟨a, w b, c⟩))))))))))))))
  · exact Or.inr (Or.inr (Or.inr (Or.inr (Or.inr (Or.inr (Or.inr (Or.inr (Or.inr (Or.inr (Or.inr (Or.inr (Or.inr (Or.inr (Or.inr (Or.inl ⟨a, w b, c⟩)))))))))))))))
  · exact Or.inr (Or.inr (Or.inr (Or.inr (Or.inr (Or.inr (Or.inr (Or.inr (Or.inr (Or.inr (Or.inr (Or.inr (Or.inr (Or.inr (Or.inr (Or.inr ⟨a, w b, c⟩)))))))))))))))
theorem AO.cut {σ : Nat → cx} {i : Nat} (C : CF B nx cn ct fc fs V m cl) (hh : B 0 h = 1) (H : AO B nx cn m cl h hc S F E σ lo hi i) : AO B nx cn m cl h hc S F E (fun j => cut2 m (σ j)) lo hi i := by
  rcases H with ⟨u, H1, H2⟩ | ⟨a, j, u, r, j1, j2, j3, j4, j5, j6, j7⟩ | ⟨a, j, u, r, j1, j2, j3, j4, j5, j6⟩ | ⟨a, j, j1, j2, j3, j4, j5⟩ | H
  · exact Or.inl ⟨_, H1.cut C hh, H2.cut⟩
  · exact Or.inr (Or.inl ⟨a, j, u, r, j1, j2, j3, j4, j5, j6.cut, j7.cut⟩)
  · exact Or.inr (Or.inr (Or.inl ⟨a, j, u, r, j1, j2, j3, j4, j5.cut, j6.cut⟩))
  · exact Or.inr (Or.inr (Or.inr (Or.inl ⟨a, j, j1, j2, j3, j4, j5.cut⟩)))
  · exact Or.inr (Or.inr (Or.inr (Or.inr H)))
/-- fields' pieces; z: the class of the object that is made, or -1 -/
def FCG (B : Nat → Nat → Int) (nx cn : Nat → Int) (m cl : Nat) (S F E : Nat → Int) (z : Int) (lo hi : Nat) : Prop := lo ≤ hi ∧ ∃ (σ : Nat → cx) (H : Nat → Nat), cle (σ lo) ([], Dm m) ∧ σ hi = ([], Dm m) ∧ (∀ i, lo ≤ i → i < hi → (H i < m ∧ B 0 (H i) = 1 ∧ (B 4 (H i) = 0 → up nx z (hkn B cn (H i)))) ∧ AO B nx cn m cl (H i) (hkn B cn (H i)) S F E σ lo hi i) ∧ ∀ i, lo ≤ i → i ≤ hi → (∀ q, (σ i).2 q → m ≤ q) ∧ (σ i).1.length ≤ 2410
theorem FCG.nil {z : Int} : FCG B nx cn m cl S F E z lo lo := ⟨Nat.le_refl _, fun _ => ([], Dm m), fun _ => 0, cle.rf, rfl, fun i i1 i2 => by omega, fun i _ _ => ⟨fun q z => z, by show 0 ≤ 2410; omega⟩⟩
theorem FCG.eq {z : Int} (G : FCG B nx cn m cl S F E z lo hi) (e : ∀ j, lo ≤ j → j < hi → S' j = S j ∧ F' j = F j ∧ E' j = E j) : FCG B nx cn m cl S' F' E' z lo hi := by
  obtain ⟨h0, σ, H, h1, h2, h3, h4⟩ := G
  exact ⟨h0, σ, H, h1, h2, fun i i1 i2 => ⟨(h3 i i1 i2).1, (h3 i i1 i2).2.eq i1 i2 e⟩, h4⟩
theorem FCG.of {z : Int} {st : Nat → Prop} (C : CF B nx cn ct fc fs V m cl) (hm : h < m) (hh : B 0 h = 1) (hz : B 4 h = 0 → up nx z (hkn B cn h)) (G : ACD B nx cn m cl h (hkn B cn h) S F E lo hi ([], Dm m) ([], st)) (hs : ∀ q, m ≤ q → st q) (hl : hi ≤ lo + 2410) : FCG B nx cn m cl S F E z lo hi := by
  obtain ⟨h0, σ, h1, h2, h3, h4⟩ := G
  have hb : cle (σ lo) ([], Dm m) := h1
  refine ⟨h0, fun j => cut2 m (if j = hi then ([], Dm m) else σ j), fun _ => h, ?_, ?_, fun i i1 i2 => ⟨⟨hm, hh, hz⟩, ?_⟩, fun i i1 i2 => ⟨fun q z => z.2, ?_⟩⟩
  · show cle (cut2 m (if lo = hi then ([], Dm m) else σ lo)) ([], Dm m)
    split
    · exact ⟨tle.rf, fun q z => z.2⟩
    · exact ⟨hb.1, fun q z => z.2⟩
  · show cut2 m (if hi = hi then ([], Dm m) else σ hi) = ([], Dm m)
    rw [if_pos rfl]
    unfold cut2
    refine Prod.ext rfl ?_
    funext q
    exact propext ⟨fun z => z.2, fun z => ⟨z, z⟩⟩
  · have le : ∀ j, cle (if j = hi then ([], Dm m) else σ j) (σ j) := fun j => by
      split
      · next c =>
        rw [c, h2]
        exact ⟨tle.rf, hs⟩
      · exact cle.rf
    exact ((h3 i i1 i2).re (lo' := lo) (hi' := hi) (σ' := fun j => if j = hi then ([], Dm m) else σ j) i1 i2 (if_neg (by omega)) (fun j _ _ => le j) (Nat.le_refl _) (Nat.le_refl _)).cut C hh
  · show (if i = hi then (([], Dm m) : cx) else σ i).1.length ≤ 2410
    split
    · exact Nat.zero_le _
    · have := h4 i i1 i2
      have e : (([], Dm m) : cx).1.length = 0 := rfl
      omega
theorem FCG.seq {z : Int} (G : FCG B nx cn m cl S F E z lo mid) (K : FCG B nx cn m cl S F E z mid hi) : FCG B nx cn m cl S F E z lo hi := by
  obtain ⟨h0, σ, H, h1, h2, h3, h4⟩ := G
  obtain ⟨k0, τ, H2, k1, k2, k3, k4⟩ := K
  have le1 : ∀ j, j ≤ mid → cle (if j < mid then σ j else τ j) (σ j) := fun j j1 => by
    split
    · exact cle.rf
    · rw [show j = mid by omega, h2]
      exact k1
  have le2 : ∀ j, mid ≤ j → (if j < mid then σ j else τ j) = τ j := fun j j1 => if_neg (by omega)
  refine ⟨by omega, fun j => if j < mid then σ j else τ j, fun j => if j < mid then H j else H2 j, (le1 lo h0).tr h1, (le2 hi k0).trans k2, fun i i1 i2 => ?_, fun i i1 i2 => ?_⟩
  · by_cases c : i < mid
    · show ((if i < mid then H i else H2 i) < m ∧ B 0 (if i < mid then H i else H2 i) = 1 ∧ (B 4 (if i < mid then H i else H2 i) = 0 → up nx z (hkn B cn (if i < mid then H i else H2 i)))) ∧ AO B nx cn m cl (if i < mid then H i else H2 i) (hkn B cn (if i < mid then H i else H2 i)) S F E _ lo hi i
      rw [if_pos c]
      exact ⟨(h3 i i1 c).1, (h3 i i1 c).2.re i1 c (if_pos c) (fun j _ j2 => le1 j j2) (Nat.le_refl _) k0⟩
    · show ((if i < mid then H i else H2 i) < m ∧ B 0 (if i < mid then H i else H2 i) = 1 ∧ (B 4 (if i < mid then H i else H2 i) = 0 → up nx z (hkn B cn (if i < mid then H i else H2 i)))) ∧ AO B nx cn m cl (if i < mid then H i else H2 i) (hkn B cn (if i < mid then H i else H2 i)) S F E _ lo hi i
      rw [if_neg c]
      exact ⟨(k3 i (by omega) i2).1, (k3 i (by omega) i2).2.re (by omega) i2 (le2 i (by omega)) (fun j j1 _ => by rw [le2 j j1]; exact cle.rf) h0 (Nat.le_refl _)⟩
  · show (∀ q, (if i < mid then σ i else τ i).2 q → m ≤ q) ∧ (if i < mid then σ i else τ i).1.length ≤ 2410
    split
    · exact h4 i i1 (by omega)
    · exact k4 i (by omega) i2
/-- a method's acts; k: its last one -/
def PM (B : Nat → Nat → Int) (nx cn : Nat → Int) (m cl : Nat) (S F E : Nat → Int) (h lo k : Nat) : Prop := lo ≤ k ∧ ∃ σ : Nat → cx, cle (σ lo) ([], D0 B m h) ∧ (∀ i, lo ≤ i → i < k → AO B nx cn m cl h (hkn B cn h) S F E σ lo k i) ∧ (∀ i, lo ≤ i → i ≤ k → (σ i).1.length ≤ 2410) ∧ S k = 24 ∧ ∃ t, (σ k).1 = [t] ∧ fit nx t (B 8 h)
theorem PM.eq (G : PM B nx cn m cl S F E h lo k) (e : ∀ j, lo ≤ j → j ≤ k → S' j = S j ∧ F' j = F j ∧ E' j = E j) : PM B nx cn m cl S' F' E' h lo k := by
  obtain ⟨h0, σ, h1, h3, h4, h5, h6⟩ := G
  exact ⟨h0, σ, h1, fun i i1 i2 => (h3 i i1 i2).eq i1 i2 fun j j1 j2 => e j j1 (by omega), h4, by rw [(e k h0 (Nat.le_refl _)).1, h5], h6⟩
theorem PM.of {t : Int} {st : Nat → Prop} (G : ACD B nx cn m cl h (hkn B cn h) S F E lo k ([], D0 B m h) ([t], st)) (hl : k ≤ lo + 2410) (hs : S k = 24) (hf : fit nx t (B 8 h)) : PM B nx cn m cl S F E h lo k := by
  obtain ⟨h0, σ, h1, h2, h3, h4⟩ := G
  refine ⟨h0, σ, h1, h3, fun i i1 i2 => ?_, hs, t, by rw [h2], hf⟩
  have := h4 i i1 i2
  have e : (([], D0 B m h) : cx).1.length = 0 := rfl
  omega
end SEGS
/-! sums over lists -/
def lsum (g : Nat → Nat) : List Nat → Nat
  | [] => 0
  | a :: r => g a + lsum g r
theorem lsum_add {f g : Nat → Nat} : ∀ L : List Nat, lsum (fun d => f d + g d) L = lsum f L + lsum g L
  | [] => rfl
  | a :: r => by
    rw [lsum, lsum, lsum, lsum_add r]
    omega
theorem lsum_zero : ∀ L : List Nat, lsum (fun _ => 0) L = 0
  | [] => rfl
  | a :: r => by rw [lsum, lsum_zero r]
theorem lsum_one : ∀ L : List Nat, lsum (fun _ => 1) L = L.length
  | [] => rfl
  | a :: r => by
    rw [lsum, lsum_one r, List.length_cons]
    omega
theorem lsum_mo {f g : Nat → Nat} : ∀ L : List Nat, (∀ a, a ∈ L → f a ≤ g a) → lsum f L ≤ lsum g L
  | [], _ => Nat.le_refl _
  | a :: r, h => by
    have := h a List.mem_cons_self
    have := lsum_mo r fun b b1 => h b (List.mem_cons_of_mem _ b1)
    rw [lsum, lsum]
    omega
theorem lsum_in {x : Int} : ∀ L : List Nat, L.Nodup → lsum (fun (d : Nat) => if x = (d : Int) then 1 else 0) L ≤ 1
  | [], _ => Nat.zero_le _
  | a :: r, h => by
    have hn := List.nodup_cons.mp h
    rw [lsum]
    by_cases c : x = (a : Int)
    · rw [if_pos c]
      have := lsum_mo (f := fun (d : Nat) => if x = (d : Int) then 1 else 0) (g := fun _ => 0) r fun b b1 => by
        show (if x = (b : Int) then 1 else 0) ≤ 0
        rw [if_neg fun z => hn.1 (by rw [show a = b by omega]; exact b1)]
        exact Nat.le_refl _
      rw [lsum_zero] at this
      omega
    · rw [if_neg c]
      have := lsum_in (x := x) r hn.2
      omega
/-- how many of the nodes before N are d's -/
def cnt (A : Nat → Nat → Int) (d : Nat) : Nat → Nat
  | 0 => 0
  | N + 1 => cnt A d N + if A 10 N = (d : Int) then 1 else 0
theorem cnt_all {A : Nat → Nat → Int} {L : List Nat} (hL : L.Nodup) : ∀ N, lsum (fun d => cnt A d N) L ≤ N
  | 0 => by
    show lsum (fun _ => 0) L ≤ 0
    rw [lsum_zero]
    exact Nat.le_refl _
  | N + 1 => by
    have a := cnt_all (A := A) hL N
    have b := lsum_in (x := A 10 N) L hL
    have c := lsum_add (f := fun d => cnt A d N) (g := fun (d : Nat) => if A 10 N = (d : Int) then 1 else 0) L
    show lsum (fun d => cnt A d N + if A 10 N = (d : Int) then 1 else 0) L ≤ N + 1
    rw [c]
    omega
theorem cnt_seg {A : Nat → Nat → Int} {d lo e : Nat} (h : ∀ k, lo ≤ k → k ≤ e → A 10 k = (d : Int)) : ∀ N, e < N → e + 1 - lo ≤ cnt A d N := by
  have key : ∀ N, N ≤ e + 1 → N - lo ≤ cnt A d N := by
    intro N
    induction N with
    | zero => intro _; omega
    | succ N ih =>
      intro hN
      have := ih (by omega)
      rw [cnt]
      by_cases c : lo ≤ N
      · rw [if_pos (h N c (by omega))]
        omega
      · omega
  intro N
  induction N with
  | zero => intro z; omega
  | succ N ih =>
    intro z
    by_cases c : e = N
    · rw [← c]
      exact key (e + 1) (Nat.le_refl _)
    · have := ih (by omega)
      rw [cnt]
      omega
theorem mem_all {B : Nat → Nat → Int} {L : List Nat} (hL : L.Nodup) : ∀ D, lsum (fun (d : Nat) => if d < D ∧ (B 0 d = 1 ∨ B 0 d = 2) then 1 else 0) L ≤ mcn B D
  | 0 => by
    refine Nat.le_trans (lsum_mo (g := fun _ => 0) L fun a _ => ?_) (by rw [lsum_zero]; exact Nat.zero_le _)
    show (if a < 0 ∧ (B 0 a = 1 ∨ B 0 a = 2) then 1 else 0) ≤ 0
    rw [if_neg fun z => Nat.not_lt_zero _ z.1]
    exact Nat.le_refl _
  | D + 1 => by
    have a := mem_all (B := B) hL D
    have b := lsum_in (x := (D : Int)) L hL
    by_cases e : B 0 D = 1 ∨ B 0 D = 2
    · rw [mcn, if_pos e]
      refine Nat.le_trans (lsum_mo (g := fun (d : Nat) => (if d < D ∧ (B 0 d = 1 ∨ B 0 d = 2) then 1 else 0) + if (D : Int) = (d : Int) then 1 else 0) L fun i _ => ?_) (by rw [lsum_add]; omega)
      show (if i < D + 1 ∧ (B 0 i = 1 ∨ B 0 i = 2) then 1 else 0) ≤ (if i < D ∧ (B 0 i = 1 ∨ B 0 i = 2) then 1 else 0) + if (D : Int) = (i : Int) then 1 else 0
      by_cases c : D = i
      · rw [if_pos (show (D : Int) = (i : Int) by omega)]
        split <;> omega
      · by_cases c2 : i < D + 1 ∧ (B 0 i = 1 ∨ B 0 i = 2)
        · rw [if_pos c2, if_pos ⟨by omega, c2.2⟩]
          omega
        · rw [if_neg c2]
          omega
    · rw [mcn, if_neg e]
      refine Nat.le_trans (lsum_mo (g := fun (d : Nat) => if d < D ∧ (B 0 d = 1 ∨ B 0 d = 2) then 1 else 0) L fun i _ => ?_) a
      show (if i < D + 1 ∧ (B 0 i = 1 ∨ B 0 i = 2) then 1 else 0) ≤ (if i < D ∧ (B 0 i = 1 ∨ B 0 i = 2) then 1 else 0)
      by_cases c2 : i < D + 1 ∧ (B 0 i = 1 ∨ B 0 i = 2)
      · have : ¬ i = D := fun z => e (by rw [← z]; exact c2.2)
        rw [if_pos c2, if_pos ⟨by omega, c2.2⟩]
        omega
      · rw [if_neg c2]
        omega
theorem mem_len {B : Nat → Nat → Int} {L : List Nat} {m : Nat} (hL : L.Nodup) (h : ∀ d, d ∈ L → d < m ∧ (B 0 d = 1 ∨ B 0 d = 2)) : L.length ≤ mcn B m := by
  have a := mem_all (B := B) hL m
  have b := lsum_mo (f := fun _ => 1) (g := fun (d : Nat) => if d < m ∧ (B 0 d = 1 ∨ B 0 d = 2) then 1 else 0) L fun d d1 => by
    show 1 ≤ if d < m ∧ (B 0 d = 1 ∨ B 0 d = 2) then 1 else 0
    rw [if_pos (h d d1)]
    exact Nat.le_refl _
  rw [lsum_one] at b
  omega
