/-! writing acts: a node of an expression -/
section NODE2
variable {N : Nat} {X : Nat → Int32} {d p C n m cl h hc k t lo dh u : Nat} {A B : Nat → Nat → Int} {b s nx cn mn T : Nat → Int} {hh : Nat → Int × Nat} {M M' : me_M} {D : Nat → Prop} {st : List Int}
/-- what writing node k does -/
def NO (A B : Nat → Nat → Int) (nx cn T : Nat → Int) (m cl h hc k t : Nat) (ks : List Nat) (D : Nat → Prop) (st : List Int) (M M' : me_M) : Prop := M' = M ∧ pf T st ks = pt T k st ∨ ∃ s f e, W1 M M' t s f e ∧ SA B nx cn m cl h hc s f e (pf T st ks, D) (pt T k st, D)
/-- the args' types on the pile -/
theorem pf_app {T : Nat → Int} : ∀ (ks : List Nat) (l : List Int), (∀ a, a ∈ ks → ¬ T a = -5) → pf T l ks = (ks.map T).reverse ++ l
  | [], _, _ => rfl
  | a :: r, l, g => by
    rw [pf, pf_app r _ fun i i1 => g i (List.mem_cons_of_mem _ i1), pt, if_neg (g a List.mem_cons_self)]
    simp only [List.map_cons, List.reverse_cons, List.append_assoc, List.singleton_append]
theorem AF.get {nx T b8 : Nat → Int} : ∀ {ks : List Nat} {q : Nat}, AF nx T b8 q ks → ∀ (i : Nat) (x : Int), (ks.map T)[i]? = some x → fit nx x (b8 (q + i))
  | [], _, _, i, x, g => by simp at g
  | a :: r, q, g, 0, x, e => by
    have e : T a = x := by simpa using e
    rw [← e]
    exact g.1
  | a :: r, q, g, i + 1, x, e => by
    have e : (r.map T)[i]? = some x := by simpa using e
    have := AF.get g.2 i x e
    rw [show q + (i + 1) = q + 1 + i by omega]
    exact this
theorem AF.ne {nx T b8 : Nat → Int} : ∀ {ks : List Nat} {q : Nat}, AF nx T b8 q ks → (∀ i, i < ks.length → 0 ≤ b8 (q + i)) → ∀ a, a ∈ ks → ¬ T a = -5
  | [], _, _, _, a, h => by cases h
  | x :: r, q, g, hb, a, h => by
    rcases List.mem_cons.mp h with z | z
    · rw [z]
      intro v
      have f := g.1
      have := hb 0 (by simp)
      rw [v] at f
      unfold fit at f
      rw [Nat.add_zero] at this
      omega
    · exact AF.ne g.2 (fun i i1 => by
        have := hb (i + 1) (by simp; omega)
        rw [show q + 1 + i = q + (i + 1) by omega]
        exact this) a z
theorem nm_k (G : ∀ k, k < n → cl_ A b s 0 n dh C (hh k) k) (hk : k < n) : A 4 k < C ∧ (A 0 k = 1 → 0 ≤ A 4 k) ∧ (A 0 k = 7 ∨ A 0 k = 8 ∨ A 0 k = 9 ∨ A 0 k = 11 ∨ A 0 k = 12 → 0 ≤ A 4 k) := by
  obtain ⟨_, ⟨n0, n1, n2, _⟩, _⟩ := G k hk
  exact ⟨n0, fun z => (n1 z).1, fun z => (n2 z).1⟩
theorem c_402_l (H : CEV p C A B cn mn M) (h30 : me_i M 164 30 = (t : Int)) (ht : t < 60000) (hd : 6 ≤ d) (G : ∀ k, k < n → cl_ A b s 0 n dh C (hh k) k) (hk : k < n) (hn : n ≤ 2405) (hC : C ≤ 2405) (hw : WT A B nx cn h hc m T mn k (T k)) (hm : m ≤ 2405) (hcl : ∀ q i : Nat, q < m → B 0 q = 0 → cn q = (i : Int) → i < cl) (hb8 : ∀ q, q < m → ¬ B 0 q = 0 → 0 ≤ B 8 q) (hv : ∀ q, SC A B h k k q → D q) (ho : 1 ≤ A 0 k ∧ A 0 k ≤ 7 ∨ A 0 k = 9) : me_W (mt_G N X) 402 d 0 [some (.inr (.inl (some 164, 25, 0))), some (.inl (k : Int)), none, none, none] [] M (sx_qV (fun M' => NO A B nx cn T m cl h hc k t [] D st M M') nt_E) := by
  obtain ⟨G0, h6, hp, hA, hB, hmn, hcn, hX, hK⟩ := id H
  have a0 : ∀ j, me_i M (p + 14) j = A 0 j := fun j => hA 0 j (by omega) (by omega)
  have a1 : ∀ j, me_i M (p + 15) j = A 1 j := fun j => hA 1 j (by omega) (by omega)
  have a2 : ∀ j, me_i M (p + 16) j = A 2 j := fun j => hA 2 j (by omega) (by omega)
  have a4 : ∀ j, me_i M (p + 18) j = A 4 j := fun j => hA 4 j (by omega) (by omega)
  have b0 : ∀ j, me_i M (p + 25) j = B 0 j := fun j => hB 0 j (by omega)
  have b4 : ∀ j, me_i M (p + 29) j = B 4 j := fun j => hB 4 j (by omega)
  have w1 := hw.1
  have w2 := hw.2.1
  have w3 := hw.2.2.1
  have w10 := hw.2.2.2.2.2.2.2.2.2
  obtain ⟨n0, n1, n2⟩ := nm_k G hk
  have fin : ∀ (s f e : Int) (K : me_M → Prop) (E : Nat → me_M → Prop), me_r s → me_r f → me_r e → SA B nx cn m cl h hc s f e (pf T st [], D) (pt T k st, D) → (∀ M1, NO A B nx cn T m cl h hc k t [] D st M M1 → K M1) → ∃ d', d = d' + 1 ∧ me_W (mt_G N X) 399 d' 0 [some (.inr (.inl (some 164, 25, 0))), some (.inl s), some (.inl f), some (.inl e)] [] M (sx_qI (fun _ M1 => K M1) E) := fun s f e K E r1 r2 r3 hs hK => by
    refine ca_I (by omega) (c_399 G0 h30 ht r1 r3 (by omega)) (fun y M1 _ q => hK M1 ?_) nt_E_no
    rw [me_to r2] at q
    exact Or.inr ⟨s, f, e, q.2, hs⟩
  refine b402_0 ?_
  simp only [h6, dr_eq, Int.toNat_natCast, a0, a1, a2, a4, b0, b4, hmn, hcn]
  have sk : ∀ s f e, SA B nx cn m cl h hc s f e (st, D) (T k :: st, D) → ¬ T k = -5 → SA B nx cn m cl h hc s f e (pf T st [], D) (pt T k st, D) := fun s f e q z => by
    rw [pt, if_neg z]
    exact q
  refine ⟨by omega, by omega, H.rA (by omega) (by omega), fun z => by omega, fun z => ?_, fun z => fin 1 1 0 _ _ ⟨by omega, by omega⟩ ⟨by omega, by omega⟩ ⟨by omega, by omega⟩ (sk _ _ _ (Or.inl ⟨rfl, rfl, T k, rfl, by omega⟩) (by omega)) fun M1 q => q, fun z => fin 1 0 0 _ _ ⟨by omega, by omega⟩ ⟨by omega, by omega⟩ ⟨by omega, by omega⟩ (sk _ _ _ (Or.inl ⟨rfl, rfl, T k, rfl, by omega⟩) (by omega)) fun M1 q => q, fun z => fin 1 0 0 _ _ ⟨by omega, by omega⟩ ⟨by omega, by omega⟩ ⟨by omega, by omega⟩ (sk _ _ _ (Or.inl ⟨rfl, rfl, T k, rfl, by omega⟩) (by omega)) fun M1 q => q, fun z => fin 2 0 0 _ _ ⟨by omega, by omega⟩ ⟨by omega, by omega⟩ ⟨by omega, by omega⟩ (sk _ _ _ (Or.inr (Or.inl ⟨rfl, rfl, (w3 z).1, by rw [(w3 z).2]⟩)) (by omega)) fun M1 q => q, fun z => fin 3 0 0 _ _ ⟨by omega, by omega⟩ ⟨by omega, by omega⟩ ⟨by omega, by omega⟩ (sk _ _ _ (Or.inr (Or.inr (Or.inl ⟨rfl, rfl, T k, rfl, by omega⟩))) (by omega)) fun M1 q => q, fun z => ?_, fun z => by omega, fun z => ?_, fun z => by omega, fun z => by omega, fun z => by omega, fun z => by omega, fun z => by omega, trivial⟩
  · have := n1 z
    refine (c_402_n H h30 ht hd (by omega) ⟨by omega, by omega⟩ (by omega) (kA p M 3 (A 4 k).toNat).toNat 0 0 (by omega) (by omega)).mono fun o M1 _ g => ?_
    rcases o with a | _ | x | ⟨q, u⟩ | j <;> first | exact g.elim | skip
    obtain ⟨v, g⟩ := g
    exact Or.inr ⟨1, v, 0, g, sk _ _ _ (Or.inl ⟨rfl, rfl, T k, rfl, by omega⟩) (by omega)⟩
  · have := n2 (by omega)
    obtain ⟨q, q1, q2, q3⟩ := hw.2.2.2.1 z
    rw [q1, Int.toNat_natCast]
    have rq : me_r (q : Int) := ⟨by omega, by omega⟩
    refine ⟨by omega, by omega, by omega, by omega, by omega, by omega, H.rB (by omega), fun y => ?_, fun y => ⟨by omega, by omega, H.rB (by omega), ⟨by omega, by omega⟩, fun y1 => ⟨by omega, by omega, fun y2 => ⟨H.rB (by omega), fun y3 => ?_, fun y3 => ?_⟩⟩, fun y1 => ?_⟩⟩
    · rcases q3 with q3 | q3
      · refine Or.inl ⟨rfl, ?_⟩
        rw [pt, if_pos q3.2.1]
        rfl
      · exfalso
        rcases q3.2 with v | v
        · omega
        · have := v.2
          rcases this with v | v
          · omega
          · have := v.1
            omega
    · rcases q3 with q3 | ⟨q3, q4⟩
      · have := q3.1
        omega
      · have e8 := hb8 q q2 y
        rcases q4 with ⟨v, v1, v2⟩ | ⟨_, v⟩
        · refine fin 6 q 0 _ _ ⟨by omega, by omega⟩ rq ⟨by omega, by omega⟩ (sk _ _ _ (Or.inr (Or.inr (Or.inr (Or.inr (Or.inr (Or.inl ⟨rfl, rfl, q, rfl, q2, v, y3, by omega, v2, by rw [q3]⟩)))))) (by omega)) fun M1 q => q
        · exfalso
          rcases v with v | ⟨v, _⟩ <;> omega
    · rcases q3 with q3 | ⟨q3, q4⟩
      · have := q3.1
        omega
      · have e8 := hb8 q q2 y
        refine fin 5 q 0 _ _ ⟨by omega, by omega⟩ rq ⟨by omega, by omega⟩ (sk _ _ _ (Or.inr (Or.inr (Or.inr (Or.inr (Or.inl ⟨rfl, rfl, q, rfl, q2, y1, by omega, by rw [q3]⟩))))) (by omega)) fun M1 q => q
    · rcases q3 with q3 | ⟨q3, q4⟩
      · have := q3.1
        omega
      · have e8 := hb8 q q2 y
        rcases q4 with ⟨v, _⟩ | v
        · omega
        · have vd := hv q v
          have v3 := v.1
          have v0 : B 0 q = 3 ∨ B 0 q = 4 := v.2.imp id fun z => z.1
          refine fin 4 q 0 _ _ ⟨by omega, by omega⟩ rq ⟨by omega, by omega⟩ (sk _ _ _ (Or.inr (Or.inr (Or.inr (Or.inl ⟨rfl, rfl, q, rfl, q2, v3, v0, vd, by rw [q3]⟩)))) (by omega)) fun M1 q => q
  · have := n2 (by omega)
    obtain ⟨q, i, q1, q2, q3, q4, q5⟩ := hw.2.2.2.2.2.1 z
    have i1 := hcl q i q2 q3 q4
    rw [q1, Int.toNat_natCast, q4]
    have rc : me_r (i : Int) := by
      rw [← q4]
      exact H.rc
    refine ⟨by omega, by omega, by omega, by omega, by omega, by omega, ?_⟩
    exact fin 8 i 0 _ _ ⟨by omega, by omega⟩ rc ⟨by omega, by omega⟩ (sk _ _ _ (Or.inr (Or.inr (Or.inr (Or.inr (Or.inr (Or.inr (Or.inr (Or.inl ⟨rfl, rfl, i, rfl, i1, by rw [q5]⟩)))))))) (by omega)) fun M1 q => q
end NODE2
