/-! writing acts: nodes with parts -/
section NODE3
variable {N : Nat} {X : Nat → Int32} {d p C n m cl h hc k t lo dh u x y : Nat} {A B : Nat → Nat → Int} {b s nx cn mn T : Nat → Int} {hh : Nat → Int × Nat} {M M' : me_M} {D : Nat → Prop} {st : List Int} {ks : List Nat}
theorem CHN.uq {A : Nat → Nat → Int} : ∀ {ks ks' : List Nat} {x : Int}, CHN A x ks → CHN A x ks' → ks = ks'
  | [], [], _, _, _ => rfl
  | [], a :: r, x, h, k => by
    have h : x = -1 := h
    have := k.1
    omega
  | a :: r, [], x, h, k => by
    have k : x = -1 := k
    have := h.1
    omega
  | a :: r, c :: q, x, h, k => by
    have e : a = c := by
      have := h.1
      have := k.1
      omega
    subst e
    rw [CHN.uq h.2 k.2]
theorem pt_ne {T : Nat → Int} {k : Nat} {l : List Int} (h : ¬ T k = -5) : pt T k l = T k :: l := if_neg h
theorem c_402_u (H : CEV p C A B cn mn M) (h30 : me_i M 164 30 = (t : Int)) (ht : t < 60000) (hd : 6 ≤ d) (G : ∀ k, k < n → cl_ A b s 0 n dh C (hh k) k) (hk : k < n) (hn : n ≤ 2405) (hC : C ≤ 2405) (hw : WT A B nx cn h hc m T mn k (T k)) (hm : m ≤ 2405) (hcl : ∀ q i : Nat, q < m → B 0 q = 0 → cn q = (i : Int) → i < cl) (hb8 : ∀ q, q < m → ¬ B 0 q = 0 → 0 ≤ B 8 q) (ho : A 0 k = 10 ∨ A 0 k = 13 ∨ A 0 k = 14) (hx : A 1 k = (x : Int)) (h5 : ¬ T x = -5) : me_W (mt_G N X) 402 d 0 [some (.inr (.inl (some 164, 25, 0))), some (.inl (k : Int)), none, none, none] [] M (sx_qV (fun M' => NO A B nx cn T m cl h hc k t [x] D st M M') nt_E) := by
  obtain ⟨G0, h6, hp, hA, hB, hmn, hcn, hX, hK⟩ := id H
  have a0 : ∀ j, me_i M (p + 14) j = A 0 j := fun j => hA 0 j (by omega) (by omega)
  have a1 : ∀ j, me_i M (p + 15) j = A 1 j := fun j => hA 1 j (by omega) (by omega)
  have a2 : ∀ j, me_i M (p + 16) j = A 2 j := fun j => hA 2 j (by omega) (by omega)
  have a4 : ∀ j, me_i M (p + 18) j = A 4 j := fun j => hA 4 j (by omega) (by omega)
  have b0 : ∀ j, me_i M (p + 25) j = B 0 j := fun j => hB 0 j (by omega)
  have b4 : ∀ j, me_i M (p + 29) j = B 4 j := fun j => hB 4 j (by omega)
  have w1 := hw.1
  have w2 := hw.2.1
  have w3 := hw.2.2.1
  have w10 := hw.2.2.2.2.2.2.2.2.2
  obtain ⟨n0, n1, n2⟩ := nm_k G hk
  have fin : ∀ (s f e : Int) (K : me_M → Prop) (E : Nat → me_M → Prop), me_r s → me_r f → me_r e → SA B nx cn m cl h hc s f e (pf T st [x], D) (pt T k st, D) → (∀ M1, NO A B nx cn T m cl h hc k t [x] D st M M1 → K M1) → ∃ d', d = d' + 1 ∧ me_W (mt_G N X) 399 d' 0 [some (.inr (.inl (some 164, 25, 0))), some (.inl s), some (.inl f), some (.inl e)] [] M (sx_qI (fun _ M1 => K M1) E) := fun s f e K E r1 r2 r3 hs hK => by
    refine ca_I (by omega) (c_399 G0 h30 ht r1 r3 (by omega)) (fun y M1 _ q => hK M1 ?_) nt_E_no
    rw [me_to r2] at q
    exact Or.inr ⟨s, f, e, q.2, hs⟩
  refine b402_0 ?_
  simp only [h6, dr_eq, Int.toNat_natCast, a0, a1, a2, a4, b0, b4, hmn, hcn]
  have e1 : pf T st [x] = T x :: st := pt_ne h5
  have w7 := hw.2.2.2.2.2.2.1
  refine ⟨by omega, by omega, H.rA (by omega) (by omega), fun z => by omega, fun z => by omega, fun z => by omega, fun z => by omega, fun z => by omega, fun z => by omega, fun z => by omega, fun z => by omega, fun z => by omega, fun z => by omega, fun z => Or.inl ⟨rfl, ?_⟩, fun z => by omega, fun z => by omega, fun z => fin 9 0 0 _ _ ⟨by omega, by omega⟩ ⟨by omega, by omega⟩ ⟨by omega, by omega⟩ (by rw [e1, pt_ne (by omega)]; exact Or.inr (Or.inr (Or.inr (Or.inr (Or.inr (Or.inr (Or.inr (Or.inr (Or.inl ⟨by omega, rfl, T x, T k, st, by omega, rfl, rfl⟩))))))))) fun M1 q => q, fun z => fin 10 0 0 _ _ ⟨by omega, by omega⟩ ⟨by omega, by omega⟩ ⟨by omega, by omega⟩ (by rw [e1, pt_ne (by omega)]; exact Or.inr (Or.inr (Or.inr (Or.inr (Or.inr (Or.inr (Or.inr (Or.inr (Or.inl ⟨by omega, rfl, T x, T k, st, by omega, rfl, rfl⟩))))))))) fun M1 q => q, trivial⟩
  have e := w7 z
  rw [hx, Int.toNat_natCast] at e
  rw [e1, pt_ne (by omega), e]
theorem c_402_f (H : CEV p C A B cn mn M) (h30 : me_i M 164 30 = (t : Int)) (ht : t < 60000) (hd : 6 ≤ d) (G : ∀ k, k < n → cl_ A b s 0 n dh C (hh k) k) (hk : k < n) (hn : n ≤ 2405) (hC : C ≤ 2405) (hw : WT A B nx cn h hc m T mn k (T k)) (hm : m ≤ 2405) (hcl : ∀ q i : Nat, q < m → B 0 q = 0 → cn q = (i : Int) → i < cl) (hb8 : ∀ q, q < m → ¬ B 0 q = 0 → 0 ≤ B 8 q) (ho : A 0 k = 11) (hx : A 1 k = (x : Int)) : me_W (mt_G N X) 402 d 0 [some (.inr (.inl (some 164, 25, 0))), some (.inl (k : Int)), none, none, none] [] M (sx_qV (fun M' => NO A B nx cn T m cl h hc k t [x] D st M M') nt_E) := by
  obtain ⟨G0, h6, hp, hA, hB, hmn, hcn, hX, hK⟩ := id H
  have a0 : ∀ j, me_i M (p + 14) j = A 0 j := fun j => hA 0 j (by omega) (by omega)
  have a1 : ∀ j, me_i M (p + 15) j = A 1 j := fun j => hA 1 j (by omega) (by omega)
  have a2 : ∀ j, me_i M (p + 16) j = A 2 j := fun j => hA 2 j (by omega) (by omega)
  have a4 : ∀ j, me_i M (p + 18) j = A 4 j := fun j => hA 4 j (by omega) (by omega)
  have b0 : ∀ j, me_i M (p + 25) j = B 0 j := fun j => hB 0 j (by omega)
  have b4 : ∀ j, me_i M (p + 29) j = B 4 j := fun j => hB 4 j (by omega)
  have w1 := hw.1
  have w2 := hw.2.1
  have w3 := hw.2.2.1
  have w10 := hw.2.2.2.2.2.2.2.2.2
  obtain ⟨n0, n1, n2⟩ := nm_k G hk
  have fin : ∀ (s f e : Int) (K : me_M → Prop) (E : Nat → me_M → Prop), me_r s → me_r f → me_r e → SA B nx cn m cl h hc s f e (pf T st [x], D) (pt T k st, D) → (∀ M1, NO A B nx cn T m cl h hc k t [x] D st M M1 → K M1) → ∃ d', d = d' + 1 ∧ me_W (mt_G N X) 399 d' 0 [some (.inr (.inl (some 164, 25, 0))), some (.inl s), some (.inl f), some (.inl e)] [] M (sx_qI (fun _ M1 => K M1) E) := fun s f e K E r1 r2 r3 hs hK => by
    refine ca_I (by omega) (c_399 G0 h30 ht r1 r3 (by omega)) (fun y M1 _ q => hK M1 ?_) nt_E_no
    rw [me_to r2] at q
    exact Or.inr ⟨s, f, e, q.2, hs⟩
  refine b402_0 ?_
  simp only [h6, dr_eq, Int.toNat_natCast, a0, a1, a2, a4, b0, b4, hmn, hcn]
  refine ⟨by omega, by omega, H.rA (by omega) (by omega), fun z => by omega, fun z => by omega, fun z => by omega, fun z => by omega, fun z => by omega, fun z => by omega, fun z => by omega, fun z => by omega, fun z => by omega, fun z => by omega, fun z => by omega, fun z => ?_, fun z => by omega, fun z => by omega, fun z => by omega, trivial⟩
  have := n2 (by omega)
  obtain ⟨q, q1, q2, q3, q4, q5⟩ := hw.2.2.2.2.2.2.2.1 z
  rw [hx, Int.toNat_natCast] at q5
  rw [q1, Int.toNat_natCast]
  have rq : me_r (q : Int) := ⟨by omega, by omega⟩
  have e8 := hb8 q q2 (by omega)
  refine ⟨by omega, by omega, by omega, by omega, by omega, by omega, fun y2 => ⟨H.rB (by omega), fun y3 => ?_, fun y3 => ?_⟩⟩
  · rcases q5 with v | ⟨v1, v2, v3⟩
    · have := v.2
      omega
    · have e1 : pf T st [x] = T x :: st := pt_ne (by omega)
      exact fin 7 q 0 _ _ ⟨by omega, by omega⟩ rq ⟨by omega, by omega⟩ (by rw [e1, pt_ne (by omega)]; exact Or.inr (Or.inr (Or.inr (Or.inr (Or.inr (Or.inr (Or.inl ⟨rfl, rfl, q, T x, st, rfl, q2, q3, v1, v2, v3, rfl, by rw [q4]⟩))))))) fun M1 q => q
  · rcases q5 with v | ⟨v1, v2, v3⟩
    · have e1 : pf T st [x] = st := if_pos v.1
      exact fin 5 q 0 _ _ ⟨by omega, by omega⟩ rq ⟨by omega, by omega⟩ (by rw [e1, pt_ne (by omega)]; exact Or.inr (Or.inr (Or.inr (Or.inr (Or.inl ⟨rfl, rfl, q, rfl, q2, q3, v.2, by rw [q4]⟩))))) fun M1 q => q
    · omega
theorem c_402_a (H : CEV p C A B cn mn M) (h30 : me_i M 164 30 = (t : Int)) (ht : t < 60000) (hd : 6 ≤ d) (G : ∀ k, k < n → cl_ A b s 0 n dh C (hh k) k) (hk : k < n) (hn : n ≤ 2405) (hC : C ≤ 2405) (hw : WT A B nx cn h hc m T mn k (T k)) (hm : m ≤ 2405) (hcl : ∀ q i : Nat, q < m → B 0 q = 0 → cn q = (i : Int) → i < cl) (hb8 : ∀ q, q < m → ¬ B 0 q = 0 → 0 ≤ B 8 q) (ho : A 0 k = 8) (hc1 : CHN A (A 1 k) ks) (hb4 : ∀ q, q < m → B 4 q = 0 ∨ B 4 q = 1) (har : ∀ q, q < m → B 0 q = 2 → (0 ≤ B 9 q ∧ B 9 q ≤ 8 ∧ q + B 9 q < m ∧ ∀ i : Nat, (i : Int) < B 9 q → B 0 (q + 1 + i) = 3)) (hks : ∀ a, a ∈ ks → a < k) : me_W (mt_G N X) 402 d 0 [some (.inr (.inl (some 164, 25, 0))), some (.inl (k : Int)), none, none, none] [] M (sx_qV (fun M' => NO A B nx cn T m cl h hc k t ks D st M M') nt_E) := by
  obtain ⟨G0, h6, hp, hA, hB, hmn, hcn, hX, hK⟩ := id H
  have a0 : ∀ j, me_i M (p + 14) j = A 0 j := fun j => hA 0 j (by omega) (by omega)
  have a1 : ∀ j, me_i M (p + 15) j = A 1 j := fun j => hA 1 j (by omega) (by omega)
  have a2 : ∀ j, me_i M (p + 16) j = A 2 j := fun j => hA 2 j (by omega) (by omega)
  have a4 : ∀ j, me_i M (p + 18) j = A 4 j := fun j => hA 4 j (by omega) (by omega)
  have b0 : ∀ j, me_i M (p + 25) j = B 0 j := fun j => hB 0 j (by omega)
  have b4 : ∀ j, me_i M (p + 29) j = B 4 j := fun j => hB 4 j (by omega)
  have w1 := hw.1
  have w2 := hw.2.1
  have w3 := hw.2.2.1
  have w10 := hw.2.2.2.2.2.2.2.2.2
  obtain ⟨n0, n1, n2⟩ := nm_k G hk
  have ag : ∀ q, q < m → B 0 q = 2 → AG A B nx T k (A 1 k) q → (∀ l, pf T l ks = (ks.map T).reverse ++ l) ∧ ((ks.map T).length : Int) = B 9 q ∧ ∀ (i : Nat) (y : Int), (ks.map T)[i]? = some y → fit nx y (B 8 (q + 1 + i)) := fun q q2 q3 g => by
    obtain ⟨ks', g1, g2, g3, g4⟩ := g
    have e := CHN.uq g1 hc1
    rw [e] at g3 g4
    obtain ⟨r1, r2, r3, r4⟩ := har q q2 q3
    refine ⟨fun l => pf_app ks l (g4.ne fun i i1 => hb8 _ (by omega) ?_), by rw [List.length_map]; exact g3, fun i y y1 => g4.get i y y1⟩
    rw [r4 i (by omega)]
    decide
  obtain ⟨q, q1, q2, q3, q4, q5, q6, q7⟩ := hw.2.2.2.2.1 ho
  have := n2 (by omega)
  obtain ⟨g1, g2, g3⟩ := ag q q2 q3 q7
  obtain ⟨r1, r2, r3, _⟩ := har q q2 q3
  have e8 := hb8 q q2 (by omega)
  have hl : ks.length ≤ 8 := by
    rw [List.length_map] at g2
    omega
  refine b402_0 ?_
  simp only [h6, dr_eq, Int.toNat_natCast, a0, a1, a2, a4, b0, b4, hmn, hcn]
  refine ⟨by omega, by omega, H.rA (by omega) (by omega), fun z => by omega, fun z => by omega, fun z => by omega, fun z => by omega, fun z => by omega, fun z => by omega, fun z => by omega, fun z => by omega, fun z => ?_, fun z => by omega, fun z => by omega, fun z => by omega, fun z => by omega, fun z => by omega, fun z => by omega, trivial⟩
  refine ⟨by omega, by omega, H.rA (by omega) (by omega), ⟨by omega, by omega⟩, fun z => by omega, fun z => ⟨by omega, by omega, ?_⟩⟩
  refine (c_402_c H h30 ht hd (by omega) ⟨by omega, by omega⟩ H.rm ks (A 1 k) 0 hc1 (fun a a1 => by have := hks a a1; omega) (by omega)).mono fun o M1 _ g => ?_
  rcases o with a | _ | x | ⟨q, u⟩ | j <;> first | exact g.elim | skip
  refine Or.inr ⟨_, _, _, g, ?_⟩
  rw [g1 st, pt_ne (by omega)]
  refine Or.inr (Or.inr (Or.inr (Or.inr (Or.inr (Or.inr (Or.inr (Or.inr (Or.inr (Or.inr (Or.inl ⟨rfl, rfl, q, ks.map T, st, 0, q1, q2, q3, g2, g3, ⟨?_, Or.inl rfl⟩, ?_, by rw [q4]⟩))))))))))
  · rw [if_neg (by omega), List.length_map, Nat.zero_add]
  · rcases hb4 q q2 with v | v
    · exact Or.inr (Or.inl ⟨v, rfl, by omega, q6, rfl⟩)
    · exact Or.inl ⟨v, rfl⟩
theorem c_402_d (H : CEV p C A B cn mn M) (h30 : me_i M 164 30 = (t : Int)) (ht : t < 60000) (hd : 6 ≤ d) (G : ∀ k, k < n → cl_ A b s 0 n dh C (hh k) k) (hk : k < n) (hn : n ≤ 2405) (hC : C ≤ 2405) (hw : WT A B nx cn h hc m T mn k (T k)) (hm : m ≤ 2405) (hcl : ∀ q i : Nat, q < m → B 0 q = 0 → cn q = (i : Int) → i < cl) (hb8 : ∀ q, q < m → ¬ B 0 q = 0 → 0 ≤ B 8 q) (ho : A 0 k = 12) (hx : A 1 k = (x : Int)) (hc1 : CHN A (A 2 k) ks) (hb4 : ∀ q, q < m → B 4 q = 0 ∨ B 4 q = 1) (har : ∀ q, q < m → B 0 q = 2 → (0 ≤ B 9 q ∧ B 9 q ≤ 8 ∧ q + B 9 q < m ∧ ∀ i : Nat, (i : Int) < B 9 q → B 0 (q + 1 + i) = 3)) (hks : ∀ a, a ∈ ks → a < k) : me_W (mt_G N X) 402 d 0 [some (.inr (.inl (some 164, 25, 0))), some (.inl (k : Int)), none, none, none] [] M (sx_qV (fun M' => NO A B nx cn T m cl h hc k t (x :: ks) D st M M') nt_E) := by
  obtain ⟨G0, h6, hp, hA, hB, hmn, hcn, hX, hK⟩ := id H
  have a0 : ∀ j, me_i M (p + 14) j = A 0 j := fun j => hA 0 j (by omega) (by omega)
  have a1 : ∀ j, me_i M (p + 15) j = A 1 j := fun j => hA 1 j (by omega) (by omega)
  have a2 : ∀ j, me_i M (p + 16) j = A 2 j := fun j => hA 2 j (by omega) (by omega)
  have a4 : ∀ j, me_i M (p + 18) j = A 4 j := fun j => hA 4 j (by omega) (by omega)
  have b0 : ∀ j, me_i M (p + 25) j = B 0 j := fun j => hB 0 j (by omega)
  have b4 : ∀ j, me_i M (p + 29) j = B 4 j := fun j => hB 4 j (by omega)
  have w1 := hw.1
  have w2 := hw.2.1
  have w3 := hw.2.2.1
  have w10 := hw.2.2.2.2.2.2.2.2.2
  obtain ⟨n0, n1, n2⟩ := nm_k G hk
  have ag : ∀ q, q < m → B 0 q = 2 → AG A B nx T k (A 2 k) q → (∀ l, pf T l ks = (ks.map T).reverse ++ l) ∧ ((ks.map T).length : Int) = B 9 q ∧ ∀ (i : Nat) (y : Int), (ks.map T)[i]? = some y → fit nx y (B 8 (q + 1 + i)) := fun q q2 q3 g => by
    obtain ⟨ks', g1, g2, g3, g4⟩ := g
    have e := CHN.uq g1 hc1
    rw [e] at g3 g4
    obtain ⟨r1, r2, r3, r4⟩ := har q q2 q3
    refine ⟨fun l => pf_app ks l (g4.ne fun i i1 => hb8 _ (by omega) ?_), by rw [List.length_map]; exact g3, fun i y y1 => g4.get i y y1⟩
    rw [r4 i (by omega)]
    decide
  obtain ⟨q, q1, q2, q3, q4, q5, q7⟩ := hw.2.2.2.2.2.2.2.2.1 ho
  rw [hx, Int.toNat_natCast] at q5
  have := n2 (by omega)
  obtain ⟨g1, g2, g3⟩ := ag q q2 q3 q7
  obtain ⟨r1, r2, r3, _⟩ := har q q2 q3
  have e8 := hb8 q q2 (by omega)
  have hl : ks.length ≤ 8 := by
    rw [List.length_map] at g2
    omega
  refine b402_0 ?_
  simp only [h6, dr_eq, Int.toNat_natCast, a0, a1, a2, a4, b0, b4, hmn, hcn]
  refine ⟨by omega, by omega, H.rA (by omega) (by omega), fun z => by omega, fun z => by omega, fun z => by omega, fun z => by omega, fun z => by omega, fun z => by omega, fun z => by omega, fun z => by omega, fun z => by omega, fun z => by omega, fun z => by omega, fun z => by omega, fun z => ?_, fun z => by omega, fun z => by omega, trivial⟩
  refine ⟨by omega, by omega, H.rA (by omega) (by omega), ⟨by omega, by omega⟩, fun z => ⟨by omega, by omega, ?_⟩, fun z => by omega⟩
  refine (c_402_c H h30 ht hd (by omega) ⟨by omega, by omega⟩ H.rm ks (A 2 k) 0 hc1 (fun a a1 => by have := hks a a1; omega) (by omega)).mono fun o M1 _ g => ?_
  rcases o with a | _ | x | ⟨q, u⟩ | j <;> first | exact g.elim | skip
  refine Or.inr ⟨_, _, _, g, ?_⟩
  rw [pf, g1, pt_ne (k := k) (by omega)]
  refine Or.inr (Or.inr (Or.inr (Or.inr (Or.inr (Or.inr (Or.inr (Or.inr (Or.inr (Or.inr (Or.inl ⟨rfl, rfl, q, ks.map T, st, 1, q1, q2, q3, g2, g3, ⟨?_, Or.inr rfl⟩, ?_, by rw [q4]⟩))))))))))
  · rw [if_pos ho, List.length_map, Nat.zero_add]
  · rcases q5 with v | ⟨v1, v2, v3⟩
    · refine Or.inl ⟨v.2, ?_⟩
      rw [pt, if_pos v.1]
    · refine Or.inr (Or.inr ⟨v1, rfl, _, v2, v3, ?_⟩)
      rw [pt_ne (by omega)]
theorem c_402_b (H : CEV p C A B cn mn M) (h30 : me_i M 164 30 = (t : Int)) (ht : t < 60000) (hd : 6 ≤ d) (G : ∀ k, k < n → cl_ A b s 0 n dh C (hh k) k) (hk : k < n) (hn : n ≤ 2405) (hC : C ≤ 2405) (hw : WT A B nx cn h hc m T mn k (T k)) (hm : m ≤ 2405) (hcl : ∀ q i : Nat, q < m → B 0 q = 0 → cn q = (i : Int) → i < cl) (hb8 : ∀ q, q < m → ¬ B 0 q = 0 → 0 ≤ B 8 q) (ho : A 0 k = 15) (h3 : ¬ A 3 k = 304 ∧ ¬ A 3 k = 305) (hx : ¬ T x = -5) (hy : ¬ T y = -5) : me_W (mt_G N X) 402 d 0 [some (.inr (.inl (some 164, 25, 0))), some (.inl (k : Int)), none, none, none] [] M (sx_qV (fun M' => NO A B nx cn T m cl h hc k t [x, y] D st M M') nt_E) := by
  obtain ⟨G0, h6, hp, hA, hB, hmn, hcn, hX, hK⟩ := id H
  have a0 : ∀ j, me_i M (p + 14) j = A 0 j := fun j => hA 0 j (by omega) (by omega)
  have a1 : ∀ j, me_i M (p + 15) j = A 1 j := fun j => hA 1 j (by omega) (by omega)
  have a2 : ∀ j, me_i M (p + 16) j = A 2 j := fun j => hA 2 j (by omega) (by omega)
  have a4 : ∀ j, me_i M (p + 18) j = A 4 j := fun j => hA 4 j (by omega) (by omega)
  have b0 : ∀ j, me_i M (p + 25) j = B 0 j := fun j => hB 0 j (by omega)
  have b4 : ∀ j, me_i M (p + 29) j = B 4 j := fun j => hB 4 j (by omega)
  have w1 := hw.1
  have w2 := hw.2.1
  have w3 := hw.2.2.1
  have w10 := hw.2.2.2.2.2.2.2.2.2
  obtain ⟨n0, n1, n2⟩ := nm_k G hk
  have a3 : ∀ j, me_i M (p + 17) j = A 3 j := fun j => hA 3 j (by omega) (by omega)
  have fin : ∀ (s f e : Int) (K : me_M → Prop) (E : Nat → me_M → Prop), me_r s → me_r f → me_r e → SA B nx cn m cl h hc s f e (pf T st [x, y], D) (pt T k st, D) → (∀ M1, NO A B nx cn T m cl h hc k t [x, y] D st M M1 → K M1) → ∃ d', d = d' + 1 ∧ me_W (mt_G N X) 399 d' 0 [some (.inr (.inl (some 164, 25, 0))), some (.inl s), some (.inl f), some (.inl e)] [] M (sx_qI (fun _ M1 => K M1) E) := fun s f e K E r1 r2 r3 hs hK => by
    refine ca_I (by omega) (c_399 G0 h30 ht r1 r3 (by omega)) (fun y M1 _ q => hK M1 ?_) nt_E_no
    rw [me_to r2] at q
    exact Or.inr ⟨s, f, e, q.2, hs⟩
  refine b402_0 ?_
  simp only [h6, dr_eq, Int.toNat_natCast, a0, a1, a2, a3, a4, b0, b4, hmn, hcn]
  refine ⟨by omega, by omega, H.rA (by omega) (by omega), fun z => ?_, fun z => by omega, fun z => by omega, fun z => by omega, fun z => by omega, fun z => by omega, fun z => by omega, fun z => by omega, fun z => by omega, fun z => by omega, fun z => by omega, fun z => by omega, fun z => by omega, fun z => by omega, fun z => by omega, trivial⟩
  refine ⟨by omega, by omega, H.rA (by omega) (by omega), ⟨by omega, by omega⟩, fun z => by omega, fun z => ⟨by omega, by omega, H.rA (by omega) (by omega), ⟨by omega, by omega⟩, fun z => ⟨by omega, by omega, ?_⟩, fun z => by omega⟩⟩
  have e1 : pf T st [x, y] = T y :: T x :: st := by
    rw [pf, pf, pf, pt_ne hy, pt_ne hx]
  exact fin 11 (A 3 k) 0 _ _ ⟨by omega, by omega⟩ (H.rA (by omega) (by omega)) ⟨by omega, by omega⟩ (by rw [e1, pt_ne (by omega)]; exact Or.inr (Or.inr (Or.inr (Or.inr (Or.inr (Or.inr (Or.inr (Or.inr (Or.inr (Or.inl ⟨rfl, rfl, T y, T x, T k, st, by omega, rfl, rfl⟩)))))))))) fun M1 q => q
end NODE3
