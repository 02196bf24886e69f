/-! the reference's parser: rows of nodes -/
/-- the place reached from k by m steps -/
def it (nx : Nat → Int) : Nat → Int → Int
  | 0, k => k
  | m + 1, k => if k < 0 then -1 else it nx m (nx k.toNat)
def rc (nx : Nat → Int) (k : Int) (j : Nat) : Prop := ∃ m, it nx m k = (j : Int)
section RC
variable {nx : Nat → Int} {P : Nat → Prop}
theorem it_neg {m : Nat} {k : Int} (h : k < 0) : it nx m k < 0 := by
  cases m with
  | zero => exact h
  | succ m =>
    rw [it, if_pos h]
    omega
theorem rc_neg {k : Int} {j : Nat} (h : k < 0) : ¬ rc nx k j := by
  rintro ⟨m, hm⟩
  have := it_neg (nx := nx) (m := m) h
  omega
theorem rc_iff {k j : Nat} : rc nx k j ↔ j = k ∨ rc nx (nx k) j := by
  constructor
  · rintro ⟨m, hm⟩
    cases m with
    | zero =>
      have hm : (k : Int) = j := hm
      exact Or.inl (by omega)
    | succ m =>
      rw [it, if_neg (by omega), Int.toNat_natCast] at hm
      exact Or.inr ⟨m, hm⟩
  · rintro (rfl | ⟨m, hm⟩)
    · exact ⟨0, rfl⟩
    · refine ⟨m + 1, ?_⟩
      rw [it, if_neg (by omega), Int.toNat_natCast]
      exact hm
theorem rc_ind (hs : ∀ j, P j → 0 ≤ nx j → P (nx j).toNat) : ∀ (m : Nat) (k : Int), (0 ≤ k → P k.toNat) → ∀ j : Nat, it nx m k = (j : Int) → P j
  | 0, k, h, j, e => by
    have e : k = j := e
    have := h (by omega)
    rw [e, Int.toNat_natCast] at this
    exact this
  | m + 1, k, h, j, e => by
    rw [it] at e
    split at e
    · omega
    · exact rc_ind hs m (nx k.toNat) (fun q => hs _ (h (by omega)) q) j e
theorem it_last : ∀ (m : Nat) (k : Int), it nx (m + 1) k = if it nx m k < 0 then -1 else nx (it nx m k).toNat
  | 0, k => rfl
  | m + 1, k => by
    rw [it]
    split
    · rename_i h
      rw [if_pos (it_neg h)]
    · rename_i h
      rw [it_last m (nx k.toNat), it, if_neg h]
theorem rc_step {k : Int} {i j : Nat} (h : rc nx k i) (e : nx i = j) : rc nx k j := by
  obtain ⟨m, hm⟩ := h
  refine ⟨m + 1, ?_⟩
  rw [it_last, hm, if_neg (by omega), Int.toNat_natCast, e]
theorem rc_self {k : Nat} : rc nx k k := ⟨0, rfl⟩
theorem rc_congr {nx' : Nat → Int} (hs : ∀ j, P j → nx' j = nx j ∧ (0 ≤ nx j → P (nx j).toNat)) : ∀ (m : Nat) (k : Int), (0 ≤ k → P k.toNat) → it nx' m k = it nx m k
  | 0, _, _ => rfl
  | m + 1, k, h => by
    rw [it, it]
    split
    · rfl
    · have h1 := h (by omega)
      rw [(hs _ h1).1]
      exact rc_congr hs m _ (fun q => (hs _ h1).2 q)
end RC
section OWN
variable {N : Nat} {X : Nat → Int32} {d p n : Nat}
theorem own_2 (nx : Nat → Int) (hn : n < 4816) : ∀ (m : Nat) (M : me_M) (k : Int), me_r k → (∀ j, me_i M (p + 21) j = nx j) → (∀ j, rc nx k j → j < n ∧ (nx j < 0 ∨ (j : Int) < nx j)) → (0 ≤ k → (n : Int) - k ≤ m) → me_W (mt_G N X) 318 d 2 [some (.inr (.inl (some p, 29, 0))), some (.inl n), none, some (.inl k)] [] M (sx_qV (fun M' => fr (fun b j => b = p + 22 ∧ j < n) M M' ∧ (∀ j, rc nx k j → me_i M' (p + 22) j = n) ∧ ∀ j, ¬ rc nx k j → me_i M' (p + 22) j = me_i M (p + 22) j) nt_E) := by
  intro m
  induction m with
  | zero =>
    intro M k hr hx hv hm
    refine b318_2 ⟨hr, fun h => ⟨fr.rf, fun j z => absurd z (rc_neg h), fun _ _ => rfl⟩, fun h => ?_⟩
    obtain ⟨k, rfl⟩ := Int.eq_ofNat_of_zero_le h
    have := (hv k rc_self).1
    omega
  | succ m ih =>
    intro M k hr hx hv hm
    refine b318_2 ⟨hr, fun h => ⟨fr.rf, fun j z => absurd z (rc_neg h), fun _ _ => rfl⟩, fun h => ?_⟩
    obtain ⟨k, rfl⟩ := Int.eq_ofNat_of_zero_le h
    have hk := hv k rc_self
    rw [Int.toNat_natCast]
    refine ⟨by omega, by omega, ?_⟩
    intro M1
    have f1 : fr (fun b j => b = p + 22 ∧ j < n) M M1 := fr_sI ⟨rfl, hk.1⟩
    have x1 : ∀ j, me_i M1 (p + 21) j = nx j := fun j => by rw [f1.i (by omega), hx]
    refine ⟨by omega, by omega, ?_⟩
    rw [x1]
    refine (ih M1 (nx k) (by rw [← hx]; exact me_i_r _ _ _) x1 (fun j z => hv j (rc_iff.mpr (Or.inr z))) (by omega)).mono fun o M' _ g => ?_
    rcases o with a | _ | x | ⟨q, w⟩ | j <;> first | exact g.elim | skip
    obtain ⟨g1, g2, g3⟩ := g
    have e1 : ∀ j, me_i M1 (p + 22) j = if j = k then (n : Int) else me_i M (p + 22) j := fun j => by
      show me_i (me_sI _ _ _ _) _ _ = _
      rw [me_i_sI]
      by_cases c : j = k
      · rw [if_pos ⟨rfl, c⟩, if_pos c, me_to ⟨by omega, by omega⟩]
      · rw [if_neg (fun z => c z.2), if_neg c]
    refine ⟨f1.tr g1, fun j z => ?_, fun j z => ?_⟩
    · by_cases c : rc nx (nx k) j
      · exact g2 j c
      · rw [g3 j c, e1, if_pos]
        rcases rc_iff.mp z with z | z
        · exact z
        · exact absurd z c
    · rw [g3 j (fun w => z (rc_iff.mpr (Or.inr w))), e1, if_neg (fun w => z (rc_iff.mpr (Or.inl w)))]
theorem c_318 {M : me_M} {k : Int} (nx : Nat → Int) (hn : n < 4816) (hr : me_r k) (hx : ∀ j, me_i M (p + 21) j = nx j) (hv : ∀ j, rc nx k j → j < n ∧ (nx j < 0 ∨ (j : Int) < nx j)) : me_W (mt_G N X) 318 d 0 [some (.inr (.inl (some p, 29, 0))), some (.inl n), some (.inl k), none] [] M (sx_qV (fun M' => fr (fun b j => b = p + 22 ∧ j < n) M M' ∧ (∀ j, rc nx k j → me_i M' (p + 22) j = n) ∧ ∀ j, ¬ rc nx k j → me_i M' (p + 22) j = me_i M (p + 22) j) nt_E) := b318_0 (own_2 nx hn n M k hr hx hv (by omega))
end OWN
/-- the rows of nodes: 0 op 1 x 2 y 3 z 4 name 5 first 6 last 7 next 8 parent 9 type 10 home -/
def nA (p : Nat) (M : me_M) (i j : Nat) : Int := me_i M (p + 14 + i) j
/-- a node more -/
def nd_put (M : me_M) (p n : Nat) (v : Nat → Int) : me_M := me_sI (me_sI (me_sI (me_sI (me_sI (me_sI (me_sI (me_sI (me_sI (me_sI (me_sI (me_sI M p 4 (Int32.ofInt ((n : Int) + 1))) (p + 14) n (Int32.ofInt (v 0))) (p + 15) n (Int32.ofInt (v 1))) (p + 16) n (Int32.ofInt (v 2))) (p + 17) n (Int32.ofInt (v 3))) (p + 18) n (Int32.ofInt (v 4))) (p + 19) n (Int32.ofInt (v 5))) (p + 20) n (Int32.ofInt (v 6))) (p + 21) n (Int32.ofInt (v 7))) (p + 22) n (Int32.ofInt (v 8))) (p + 23) n (Int32.ofInt (v 9))) (p + 24) n (Int32.ofInt (v 10))
section PUT
variable {M : me_M} {p n : Nat} {v : Nat → Int}
theorem nd_put_fr : fr (fun b j => b = p ∧ j = 4 ∨ p + 14 ≤ b ∧ b ≤ p + 24 ∧ j = n) M (nd_put M p n v) := by
  unfold nd_put
  iterate 11 refine fr.tr ?_ (fr_sI (Or.inr ⟨by omega, by omega, rfl⟩))
  exact fr_sI (Or.inl ⟨rfl, rfl⟩)
theorem nd_put_n (hn : n < 2147483647) : me_i (nd_put M p n v) p 4 = n + 1 := by
  unfold nd_put
  iterate 11 rw [me_i_sI, if_neg (by omega)]
  rw [me_i_sI, if_pos ⟨rfl, rfl⟩, me_to ⟨by omega, by omega⟩]
theorem nd_put_v (hv : ∀ i, me_r (v i)) (i : Nat) (hi : i < 11) : nA p (nd_put M p n v) i n = v i := by
  have h : i = 0 ∨ i = 1 ∨ i = 2 ∨ i = 3 ∨ i = 4 ∨ i = 5 ∨ i = 6 ∨ i = 7 ∨ i = 8 ∨ i = 9 ∨ i = 10 := by omega
  unfold nA nd_put
  rcases h with rfl | rfl | rfl | rfl | rfl | rfl | rfl | rfl | rfl | rfl | rfl
  · iterate 10 rw [me_i_sI, if_neg (by omega)]
    rw [me_i_sI, if_pos ⟨rfl, rfl⟩, me_to (hv _)]
  · iterate 9 rw [me_i_sI, if_neg (by omega)]
    rw [me_i_sI, if_pos ⟨rfl, rfl⟩, me_to (hv _)]
  · iterate 8 rw [me_i_sI, if_neg (by omega)]
    rw [me_i_sI, if_pos ⟨rfl, rfl⟩, me_to (hv _)]
  · iterate 7 rw [me_i_sI, if_neg (by omega)]
    rw [me_i_sI, if_pos ⟨rfl, rfl⟩, me_to (hv _)]
  · iterate 6 rw [me_i_sI, if_neg (by omega)]
    rw [me_i_sI, if_pos ⟨rfl, rfl⟩, me_to (hv _)]
  · iterate 5 rw [me_i_sI, if_neg (by omega)]
    rw [me_i_sI, if_pos ⟨rfl, rfl⟩, me_to (hv _)]
  · iterate 4 rw [me_i_sI, if_neg (by omega)]
    rw [me_i_sI, if_pos ⟨rfl, rfl⟩, me_to (hv _)]
  · iterate 3 rw [me_i_sI, if_neg (by omega)]
    rw [me_i_sI, if_pos ⟨rfl, rfl⟩, me_to (hv _)]
  · iterate 2 rw [me_i_sI, if_neg (by omega)]
    rw [me_i_sI, if_pos ⟨rfl, rfl⟩, me_to (hv _)]
  · rw [me_i_sI, if_neg (by omega)]
    rw [me_i_sI, if_pos ⟨rfl, rfl⟩, me_to (hv _)]
  · rw [me_i_sI, if_pos ⟨rfl, rfl⟩, me_to (hv _)]
end PUT
/-- what becomes a part of a new node -/
def ow (nx : Nat → Int) (x1 x2 x3 x4 : Int) (j : Nat) : Prop := rc nx x2 j ∨ ¬ (x1 = 8 ∨ x1 = 9 ∨ x1 = 11 ∨ x1 = 21) ∧ rc nx x3 j ∨ ¬ x1 = 15 ∧ rc nx x4 j
def nv (x1 x2 x3 x4 x5 x6 l h : Int) (i : Nat) : Int := if i = 0 then x1 else if i = 1 then x2 else if i = 2 then x3 else if i = 3 then x4 else if i = 4 then x5 else if i = 5 then x6 else if i = 6 then l else if i = 7 then -1 else if i = 8 then -1 else if i = 9 then -5 else if i = 10 then h else 0
section NODE
variable {N : Nat} {X : Nat → Int32} {d p n t : Nat} {x1 x2 x3 x4 x5 x6 : Int} {M : me_M}
theorem nd_317 {Q : me_Q} (hd : 1 ≤ d) (hn : me_i M p 4 = (n : Int)) (h8 : n < 4816) (ht : me_i M p 35 = (t : Int)) (r1 : me_r x1) (r2 : me_r x2) (r3 : me_r x3) (r4 : me_r x4) (r5 : me_r x5) (r6 : me_r x6) (r7 : me_r ((t : Int) - 1)) (nx : Nat → Int) (hx : ∀ j, (if j = n then -1 else nA p M 7 j) = nx j) (hv : ∀ j, ow nx x1 x2 x3 x4 j → j < n ∧ (nx j < 0 ∨ (j : Int) < nx j)) (HQ : ∀ M', (fr (fun b j => b = p ∧ j = 4 ∨ p + 14 ≤ b ∧ b ≤ p + 24 ∧ j = n ∨ b = p + 22 ∧ j < n) M M' ∧ me_i M' p 4 = (n : Int) + 1 ∧ (∀ i, i < 11 → nA p M' i n = nv x1 x2 x3 x4 x5 x6 ((t : Int) - 1) (me_i M p 38) i) ∧ (∀ j, ow nx x1 x2 x3 x4 j → nA p M' 8 j = n) ∧ ∀ j, ¬ j = n → ¬ ow nx x1 x2 x3 x4 j → nA p M' 8 j = nA p M 8 j) → Q (.inr (some (.inl (n : Int)))) M') :
    me_W (mt_G N X) 317 d 0 [some (.inr (.inl (some p, 29, 0))), some (.inl x1), some (.inl x2), some (.inl x3), some (.inl x4), some (.inl x5), some (.inl x6), none] [] M Q := by
  generalize hv0 : nv x1 x2 x3 x4 x5 x6 ((t : Int) - 1) (me_i M p 38) = v at HQ
  have e0 : ∀ i, v i = nv x1 x2 x3 x4 x5 x6 ((t : Int) - 1) (me_i M p 38) i := fun i => by rw [hv0]
  have hvr : ∀ i, me_r (v i) := fun i => by
    rw [e0]
    unfold nv
    (repeat' split) <;> first | assumption | exact ⟨by omega, by omega⟩ | exact me_i_r _ _ _
  have fin : ∀ MF, fr (fun b j => b = p + 22 ∧ j < n) (nd_put M p n v) MF → (∀ j, ow nx x1 x2 x3 x4 j → me_i MF (p + 22) j = n) → (∀ j, ¬ ow nx x1 x2 x3 x4 j → me_i MF (p + 22) j = me_i (nd_put M p n v) (p + 22) j) → Q (.inr (some (.inl (n : Int)))) MF := fun MF f g1 g2 => by
    refine HQ MF ⟨(nd_put_fr.mo fun b j z => ?_).tr (f.mo fun b j z => Or.inr (Or.inr z)), ?_, fun i hi => ?_, g1, fun j hj w => ?_⟩
    · rcases z with z | z
      · exact Or.inl z
      · exact Or.inr (Or.inl z)
    · rw [f.i (by omega), nd_put_n (by omega)]
    · show me_i MF (p + 14 + i) n = _
      rw [f.i (by omega)]
      exact nd_put_v hvr i hi
    · show me_i MF (p + 22) j = _
      rw [g2 j w, nd_put_fr.i (by omega)]
      rfl
  refine b317_0 ?_
  rw [hn, Int.toNat_natCast]
  intro M1
  refine ⟨by omega, by omega, ?_⟩
  intro M2
  refine ⟨by omega, by omega, ?_⟩
  intro M3
  refine ⟨by omega, by omega, ?_⟩
  intro M4
  refine ⟨by omega, by omega, ?_⟩
  intro M5
  refine ⟨by omega, by omega, ?_⟩
  intro M6
  refine ⟨by omega, by omega, ?_⟩
  intro M7
  have e7 : me_i M7 p 35 = (t : Int) := by
    show me_i (me_sI (me_sI (me_sI (me_sI (me_sI (me_sI (me_sI _ _ _ _) _ _ _) _ _ _) _ _ _) _ _ _) _ _ _) _ _ _) _ _ = _
    iterate 7 rw [me_i_sI, if_neg (by omega)]
    exact ht
  rw [e7]
  refine ⟨by omega, by omega, ?_⟩
  intro M8
  refine ⟨by omega, by omega, ?_⟩
  intro M9
  refine ⟨by omega, by omega, ?_⟩
  intro M10
  refine ⟨by omega, by omega, ?_⟩
  intro M11
  have e11 : me_i M11 p 38 = me_i M p 38 := by
    show me_i (me_sI (me_sI (me_sI (me_sI M7 _ _ _) _ _ _) _ _ _) _ _ _) _ _ = _
    iterate 4 rw [me_i_sI, if_neg (by omega)]
    show me_i (me_sI (me_sI (me_sI (me_sI (me_sI (me_sI (me_sI _ _ _ _) _ _ _) _ _ _) _ _ _) _ _ _) _ _ _) _ _ _) _ _ = _
    iterate 7 rw [me_i_sI, if_neg (by omega)]
  rw [e11]
  refine ⟨by omega, by omega, ?_⟩
  intro M12
  have e12 : M12 = nd_put M p n v := by
    rw [← hv0]
    rfl
  rw [e12]
  have hx1 : ∀ j, me_i (nd_put M p n v) (p + 21) j = nx j := fun j => by
    rw [← hx j]
    split
    · rename_i c
      rw [c]
      have := nd_put_v (M := M) (p := p) (n := n) hvr 7 (by omega)
      rw [e0] at this
      exact this
    · rw [nd_put_fr.i (by omega)]
      rfl
  refine ca_V hd (c_318 nx h8 r2 hx1 fun j z => hv j (Or.inl z)) (fun M13 _ g => ?_) nt_E_no
  obtain ⟨f13, g1, g2⟩ := g
  have hx13 : ∀ j, me_i M13 (p + 21) j = nx j := fun j => by rw [f13.i (by omega), hx1]
  have K3 : ∀ M16, fr (fun b j => b = p + 22 ∧ j < n) (nd_put M p n v) M16 ∧ (∀ j, (rc nx x2 j ∨ ¬ (x1 = 8 ∨ x1 = 9 ∨ x1 = 11 ∨ x1 = 21) ∧ rc nx x3 j) → me_i M16 (p + 22) j = n) ∧ (∀ j, ¬ (rc nx x2 j ∨ ¬ (x1 = 8 ∨ x1 = 9 ∨ x1 = 11 ∨ x1 = 21) ∧ rc nx x3 j) → me_i M16 (p + 22) j = me_i (nd_put M p n v) (p + 22) j) → me_r x1 ∧ me_r 15 ∧ (¬ x1 = 15 → ∃ d', d = d' + 1 ∧ me_W (mt_G N X) 318 d' 0 [some (.inr (.inl (some p, 29, 0))), some (.inl (n : Int)), some (.inl x4), none] [] M16 (sx_qV (fun M19 => Q (.inr (some (.inl (n : Int)))) M19) (fun e21 M20 => Q (.inl e21) M20))) ∧ (x1 = 15 → ∃ d', d = d' + 1 ∧ me_W (mt_G N X) 318 d' 0 [some (.inr (.inl (some p, 29, 0))), some (.inl (n : Int)), some (.inl (-1)), none] [] M16 (sx_qV (fun M22 => Q (.inr (some (.inl (n : Int)))) M22) (fun e24 M23 => Q (.inl e24) M23))) := fun M16 ⟨f16, q1, q2⟩ => by
    have hx16 : ∀ j, me_i M16 (p + 21) j = nx j := fun j => by rw [f16.i (by omega), hx1]
    refine ⟨r1, ⟨by omega, by omega⟩, fun w => ?_, fun w => ?_⟩
    · refine ca_V hd (c_318 nx h8 r4 hx16 fun j z => hv j (Or.inr (Or.inr ⟨w, z⟩))) (fun M19 _ g => ?_) nt_E_no
      obtain ⟨f19, g3, g4⟩ := g
      refine fin M19 (f16.tr f19) (fun j z => ?_) (fun j z => ?_)
      · by_cases c : rc nx x4 j
        · exact g3 j c
        · rw [g4 j c]
          refine q1 j ?_
          rcases z with z | z | z
          · exact Or.inl z
          · exact Or.inr z
          · exact absurd z.2 c
      · rw [g4 j (fun c => z (Or.inr (Or.inr ⟨w, c⟩))), q2 j]
        rintro (c | c)
        · exact z (Or.inl c)
        · exact z (Or.inr (Or.inl c))
    · refine ca_V hd (c_318 nx h8 ⟨by omega, by omega⟩ hx16 fun j z => absurd z (rc_neg (by omega))) (fun M19 _ g => ?_) nt_E_no
      obtain ⟨f19, g3, g4⟩ := g
      refine fin M19 (f16.tr f19) (fun j z => ?_) (fun j z => ?_)
      · rw [g4 j (rc_neg (by omega))]
        refine q1 j ?_
        rcases z with z | z | z
        · exact Or.inl z
        · exact Or.inr z
        · exact absurd w z.1
      · rw [g4 j (rc_neg (by omega)), q2 j]
        rintro (c | c)
        · exact z (Or.inl c)
        · exact z (Or.inr (Or.inl c))
  have KN : (x1 = 8 ∨ x1 = 9 ∨ x1 = 11 ∨ x1 = 21) → ∀ M16, fr (fun b j => b = p + 22 ∧ j < n) M13 M16 → (∀ j, ¬ rc nx (-1) j → me_i M16 (p + 22) j = me_i M13 (p + 22) j) → fr (fun b j => b = p + 22 ∧ j < n) (nd_put M p n v) M16 ∧ (∀ j, (rc nx x2 j ∨ ¬ (x1 = 8 ∨ x1 = 9 ∨ x1 = 11 ∨ x1 = 21) ∧ rc nx x3 j) → me_i M16 (p + 22) j = n) ∧ (∀ j, ¬ (rc nx x2 j ∨ ¬ (x1 = 8 ∨ x1 = 9 ∨ x1 = 11 ∨ x1 = 21) ∧ rc nx x3 j) → me_i M16 (p + 22) j = me_i (nd_put M p n v) (p + 22) j) := fun hop M16 f q => by
    refine ⟨f13.tr f, fun j z => ?_, fun j z => ?_⟩
    · rw [q j (rc_neg (by omega))]
      rcases z with z | z
      · exact g1 j z
      · exact absurd hop z.1
    · rw [q j (rc_neg (by omega)), g2 j fun c => z (Or.inl c)]
  have KY : ¬ (x1 = 8 ∨ x1 = 9 ∨ x1 = 11 ∨ x1 = 21) → ∀ M16, fr (fun b j => b = p + 22 ∧ j < n) M13 M16 → (∀ j, rc nx x3 j → me_i M16 (p + 22) j = n) → (∀ j, ¬ rc nx x3 j → me_i M16 (p + 22) j = me_i M13 (p + 22) j) → fr (fun b j => b = p + 22 ∧ j < n) (nd_put M p n v) M16 ∧ (∀ j, (rc nx x2 j ∨ ¬ (x1 = 8 ∨ x1 = 9 ∨ x1 = 11 ∨ x1 = 21) ∧ rc nx x3 j) → me_i M16 (p + 22) j = n) ∧ (∀ j, ¬ (rc nx x2 j ∨ ¬ (x1 = 8 ∨ x1 = 9 ∨ x1 = 11 ∨ x1 = 21) ∧ rc nx x3 j) → me_i M16 (p + 22) j = me_i (nd_put M p n v) (p + 22) j) := fun hop M16 f q1 q => by
    refine ⟨f13.tr f, fun j z => ?_, fun j z => ?_⟩
    · by_cases c : rc nx x3 j
      · exact q1 j c
      · rw [q j c]
        rcases z with z | z
        · exact g1 j z
        · exact absurd z.2 c
    · rw [q j (fun c => z (Or.inr ⟨hop, c⟩)), g2 j fun c => z (Or.inl c)]
  have none1 : ∀ j, rc nx (-1) j → j < n ∧ (nx j < 0 ∨ (j : Int) < nx j) := fun j z => absurd z (rc_neg (by omega))
  have m1 : me_r (-1) := ⟨by omega, by omega⟩
  have N1 := fun (hop : x1 = 8 ∨ x1 = 9 ∨ x1 = 11 ∨ x1 = 21) => fun (K : me_M → Prop) (E : Nat → me_M → Prop) (hK : ∀ M16, _ → K M16) => (ca_V (E := E) hd (c_318 (N := N) (X := X) nx h8 m1 hx13 none1) (fun M16 _ g => hK M16 (KN hop M16 g.1 g.2.2)) nt_E_no)
  have Y1 := fun (hop : ¬ (x1 = 8 ∨ x1 = 9 ∨ x1 = 11 ∨ x1 = 21)) => fun (K : me_M → Prop) (E : Nat → me_M → Prop) (hK : ∀ M16, _ → K M16) => (ca_V (E := E) hd (c_318 (N := N) (X := X) nx h8 r3 hx13 fun j z => hv j (Or.inr (Or.inl ⟨hop, z⟩))) (fun M16 _ g => hK M16 (KY hop M16 g.1 g.2.1 g.2.2)) nt_E_no)
  refine ⟨r1, ⟨by omega, by omega⟩, fun c15 => ⟨r1, ⟨by omega, by omega⟩, fun c8 => N1 (by omega) _ _ K3, fun c8 => ⟨r1, ⟨by omega, by omega⟩, fun c9 => N1 (by omega) _ _ K3, fun c9 => ⟨r1, ⟨by omega, by omega⟩, fun c11 => N1 (by omega) _ _ K3, fun c11 => ⟨r1, ⟨by omega, by omega⟩, fun c21 => Y1 (by omega) _ _ K3, fun c21 => N1 (by omega) _ _ K3⟩⟩⟩⟩, fun c15 => ⟨r3, fun cy => ?_, fun cy => ⟨r1, ⟨by omega, by omega⟩, fun c8 => by omega, fun c8 => ⟨r1, ⟨by omega, by omega⟩, fun c9 => by omega, fun c9 => ⟨r1, ⟨by omega, by omega⟩, fun c11 => by omega, fun c11 => ⟨r1, ⟨by omega, by omega⟩, fun c21 => Y1 (by omega) _ _ K3, fun c21 => by omega⟩⟩⟩⟩⟩⟩
  refine K3 M13 ⟨f13, fun j z => ?_, fun j z => ?_⟩
  · rcases z with z | z
    · exact g1 j z
    · exact absurd z.2 (rc_neg cy)
  · exact g2 j fun c => z (Or.inl c)
theorem c_317 (hd : 1 ≤ d) (hn : me_i M p 4 = (n : Int)) (h8 : n < 4816) (ht : me_i M p 35 = (t : Int)) (r1 : me_r x1) (r2 : me_r x2) (r3 : me_r x3) (r4 : me_r x4) (r5 : me_r x5) (r6 : me_r x6) (r7 : me_r ((t : Int) - 1)) (nx : Nat → Int) (hx : ∀ j, (if j = n then -1 else nA p M 7 j) = nx j) (hv : ∀ j, ow nx x1 x2 x3 x4 j → j < n ∧ (nx j < 0 ∨ (j : Int) < nx j)) :
    me_W (mt_G N X) 317 d 0 [some (.inr (.inl (some p, 29, 0))), some (.inl x1), some (.inl x2), some (.inl x3), some (.inl x4), some (.inl x5), some (.inl x6), none] [] M (sx_qI (fun y M' => y = (n : Int) ∧ fr (fun b j => b = p ∧ j = 4 ∨ p + 14 ≤ b ∧ b ≤ p + 24 ∧ j = n ∨ b = p + 22 ∧ j < n) M M' ∧ me_i M' p 4 = (n : Int) + 1 ∧ (∀ i, i < 11 → nA p M' i n = nv x1 x2 x3 x4 x5 x6 ((t : Int) - 1) (me_i M p 38) i) ∧ (∀ j, ow nx x1 x2 x3 x4 j → nA p M' 8 j = n) ∧ ∀ j, ¬ j = n → ¬ ow nx x1 x2 x3 x4 j → nA p M' 8 j = nA p M 8 j) nt_E) := nd_317 hd hn h8 ht r1 r2 r3 r4 r5 r6 r7 nx hx hv fun M' h => ⟨rfl, h⟩
end NODE
