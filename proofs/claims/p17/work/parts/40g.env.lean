/-! writing acts: what a program tells while its acts are written -/
theorem dr_eq {a : Nat} {K : Nat → Prop} : me_dr (some a) K = K a := rfl
/-- program p, that runs, is as A, B, cn, mn tell -/
def CEV (p C : Nat) (A B : Nat → Nat → Int) (cn mn : Nat → Int) (M : me_M) : Prop := GA M ∧ me_p M 164 6 = some p ∧ (192 ≤ p ∧ p + 47 ≤ 447) ∧ (∀ i j, i ≤ 10 → ¬ i = 9 → nA p M i j = A i j) ∧ (∀ i j, i ≤ 9 → tA p M i j = B i j) ∧ (∀ j, me_i M (p + 38) j = mn j) ∧ (∀ q, me_i M (p + 37) q = cn q) ∧ TX p M ∧ ∀ k, k < C → tkv p M k
section CEN
variable {p C n m cl h hc k t : Nat} {A B : Nat → Nat → Int} {nx cn mn T s b : Nat → Int} {M M' : me_M} {P R : Nat → Nat → Prop}
theorem CEV.gx (H : CEV p C A B cn mn M) (K : gx P R M M') (hP : ∀ b j, P b j → b < 192 ∨ 447 ≤ b) : CEV p C A B cn mn M' := by
  obtain ⟨h1, h2, h3, h4, h5, h6, h7, h8, h9⟩ := H
  have G := h1
  have ei : ∀ b j, p ≤ b → b < p + 47 → me_i M' b j = me_i M b j := fun b j b1 b2 => K.i G (by omega) (by unfold oka; omega) fun z => by have := hP b j z; omega
  have ep : ∀ b j, b < 477 → ¬ (b = 164 ∧ j ∈ gl) → me_p M' b j = me_p M b j := fun b j b1 b2 => by
    unfold me_p
    rw [K.2.2.2.1 b j (by have := G.2.2.1; omega) b2]
  have ek : ∀ i k, i ≤ 4 → kA p M' i k = kA p M i k := fun i k i1 => ei _ _ (by omega) (by omega)
  refine ⟨K.GA, (ep 164 6 (by omega) fun z => absurd z.2 (by decide)).trans h2, h3, fun i j i1 i2 => (ei _ _ (by omega) (by omega)).trans (h4 i j i1 i2), fun i j i1 => (ei _ _ (by omega) (by omega)).trans (h5 i j i1), fun j => (ei _ _ (by omega) (by omega)).trans (h6 j), fun q => (ei _ _ (by omega) (by omega)).trans (h7 q), fun f f1 => ?_, fun k k1 => ?_⟩
  · obtain ⟨t1, t2, t3, t4⟩ := h8 f f1
    refine ⟨(ep _ _ (by omega) fun z => by omega).trans t1, (K.2.1 _ (by have := G.2.2.1; omega)).trans t2, ?_, ?_⟩
    · rw [ei _ _ (by omega) (by omega)]
      exact t3
    · rw [ei _ _ (by omega) (by omega)]
      exact t4
  · have := h9 k k1
    unfold tkv at this ⊢
    rw [ek 4 k (by omega), ek 2 k (by omega), ek 3 k (by omega)]
    exact this
theorem CEV.rA (H : CEV p C A B cn mn M) {i j : Nat} (h1 : i ≤ 10) (h2 : ¬ i = 9) : me_r (A i j) := by
  rw [← H.2.2.2.1 i j h1 h2]
  exact me_i_r _ _ _
theorem CEV.rB (H : CEV p C A B cn mn M) {i j : Nat} (h1 : i ≤ 9) : me_r (B i j) := by
  rw [← H.2.2.2.2.1 i j h1]
  exact me_i_r _ _ _
theorem CEV.rm (H : CEV p C A B cn mn M) {j : Nat} : me_r (mn j) := by
  rw [← H.2.2.2.2.2.1 j]
  exact me_i_r _ _ _
theorem CEV.rc (H : CEV p C A B cn mn M) {j : Nat} : me_r (cn j) := by
  rw [← H.2.2.2.2.2.2.1 j]
  exact me_i_r _ _ _
theorem W1.ce (H : CEV p C A B cn mn M) {u : Nat} {s f e : Int} (w : W1 M M' u s f e) : CEV p C A B cn mn M' := H.gx w.1 fun b j z => Or.inl (by rw [z.1]; omega)
end CEN
/-- what is pushed: a class's name pushes nothing -/
def pt (T : Nat → Int) (k : Nat) (l : List Int) : List Int := if T k = -5 then l else T k :: l
def pf (T : Nat → Int) : List Int → List Nat → List Int
  | l, [] => l
  | l, a :: r => pf T (pt T a l) r
section NODE
variable {N : Nat} {X : Nat → Int32} {d p C n m cl h hc k t : Nat} {A B : Nat → Nat → Int} {nx cn mn T : Nat → Int} {M M' : me_M} {D : Nat → Prop} {st : List Int}
/-- the chain of a call's arguments is counted; the call's act -/
theorem c_402_c (H : CEV p C A B cn mn M) (h30 : me_i M 164 30 = (t : Int)) (ht : t < 60000) (hd : 6 ≤ d) (hk : k < 4816) (h4 : 0 ≤ A 4 k ∧ A 4 k < 2408) (hm : me_r (mn (A 4 k).toNat)) : ∀ (ks : List Nat) (x : Int) (c : Nat), CHN A x ks → (∀ a, a ∈ ks → a < 4816) → c + ks.length ≤ 3000 → me_W (mt_G N X) 402 d 367 [some (.inr (.inl (some 164, 25, 0))), some (.inl (k : Int)), some (.inr (.inl (some p, 29, 0))), some (.inl (c : Int)), some (.inl x)] [] M (sx_qV (fun M' => W1 M M' t 14 (mn (A 4 k).toNat) (2 * ((c + ks.length : Nat) : Int) + (if A 0 k = 12 then 1 else 0))) nt_E) := by
  obtain ⟨G, h6, hp, hA, hB, hmn, hcn, hX, hK⟩ := id H
  have a0 : ∀ j, me_i M (p + 14) j = A 0 j := fun j => hA 0 j (by omega) (by omega)
  have a4 : ∀ j, me_i M (p + 18) j = A 4 j := fun j => hA 4 j (by omega) (by omega)
  have a7 : ∀ j, me_i M (p + 21) j = A 7 j := fun j => hA 7 j (by omega) (by omega)
  have fin : ∀ (x3 e : Int), x3 = e → me_r e → ∃ d', d = d' + 1 ∧ me_W (mt_G N X) 399 d' 0 [some (.inr (.inl (some 164, 25, 0))), some (.inl 14), some (.inl (mn (A 4 k).toNat)), some (.inl x3)] [] M (sx_qI (fun y M' => W1 M M' t 14 (mn (A 4 k).toNat) e) nt_E) := fun x3 e e1 e2 => by
    rw [e1]
    refine ca_I (by omega) (c_399 G h30 ht ⟨by omega, by omega⟩ e2 (by omega)) (fun y M1 _ q => ?_) nt_E_no
    rw [me_to hm] at q
    exact q.2
  intro ks
  induction ks with
  | nil =>
    intro x c hx hb hl
    have hx : x = -1 := hx
    have hl : c + 0 ≤ 3000 := hl
    refine b402_367 ?_
    simp only [dr_eq, Int.toNat_natCast, a0, a4, hmn]
    refine ⟨⟨by omega, by omega⟩, fun _ => ⟨by omega, by omega, by omega, by omega, by omega, by omega, H.rA (by omega) (by omega), ⟨by omega, by omega⟩, fun z => ?_, fun z => ?_⟩, fun z => by omega⟩
    · rw [if_neg z]
      exact fin _ _ rfl ⟨by show -2147483648 ≤ 2 * ((c + 0 : Nat) : Int) + 0; omega, by show 2 * ((c + 0 : Nat) : Int) + 0 < 2147483648; omega⟩
    · rw [if_pos z]
      exact fin _ _ rfl ⟨by show -2147483648 ≤ 2 * ((c + 0 : Nat) : Int) + 1; omega, by show 2 * ((c + 0 : Nat) : Int) + 1 < 2147483648; omega⟩
  | cons a r ih =>
    intro x c hx hb hl
    obtain ⟨hx, hx2⟩ := hx
    have hl : c + (r.length + 1) ≤ 3000 := hl
    have ha := hb a List.mem_cons_self
    refine b402_367 ?_
    simp only [dr_eq, a7]
    refine ⟨⟨by omega, by omega⟩, fun z => by omega, fun _ => ⟨by omega, by omega, ?_⟩⟩
    have e : x.toNat = a := by omega
    rw [e]
    have := ih (A 7 a) (c + 1) hx2 (fun i i1 => hb i (List.mem_cons_of_mem _ i1)) (by omega)
    have e2 : c + 1 + r.length = c + (a :: r).length := by
      rw [List.length_cons]
      omega
    rw [e2] at this
    exact this
/-- a number's digits -/
theorem c_402_n (H : CEV p C A B cn mn M) (h30 : me_i M 164 30 = (t : Int)) (ht : t < 60000) (hd : 6 ≤ d) (hk : k < 4816) (h4 : 0 ≤ A 4 k ∧ A 4 k < C) (hC : C ≤ 2408) : ∀ (f x4 : Nat) (x3 : Int), x4 ≤ 4000 → kA p M 3 (A 4 k).toNat - (x4 : Int) ≤ f → me_W (mt_G N X) 402 d 85 [some (.inr (.inl (some 164, 25, 0))), some (.inl (k : Int)), some (.inr (.inl (some p, 29, 0))), some (.inl x3), some (.inl (x4 : Int))] [] M (sx_qV (fun M' => ∃ v, W1 M M' t 1 v 0) nt_E) := by
  obtain ⟨G, h6, hp, hA, hB, hmn, hcn, hX, hK⟩ := id H
  have a4 : ∀ j, me_i M (p + 18) j = A 4 j := fun j => hA 4 j (by omega) (by omega)
  have kv := hK (A 4 k).toNat (by omega)
  obtain ⟨w, w1⟩ : ∃ w : Nat, A 4 k = (w : Int) := ⟨(A 4 k).toNat, by omega⟩
  have e3 : me_i M (p + 7 + 4) w = kA p M 3 w := rfl
  rw [w1, Int.toNat_natCast] at kv ⊢
  obtain ⟨v1, v2, v3, v4, v5⟩ := id kv
  intro f
  induction f with
  | zero =>
    intro x4 x3 h40 hf
    refine b402_85 ?_
    simp only [dr_eq, Int.toNat_natCast, a4, w1, e3]
    refine ⟨by omega, by omega, by omega, by omega, ⟨by omega, by omega⟩, ⟨by omega, by omega⟩, fun z => ?_, fun z => by omega⟩
    exact ca_I (by omega) (c_399 G h30 ht ⟨by omega, by omega⟩ ⟨by omega, by omega⟩ (by omega)) (fun y M1 _ q => ⟨_, q.2⟩) nt_E_no
  | succ f ih =>
    intro x4 x3 h40 hf
    refine b402_85 ?_
    simp only [dr_eq, Int.toNat_natCast, a4, w1, e3]
    refine ⟨by omega, by omega, by omega, by omega, ⟨by omega, by omega⟩, ⟨by omega, by omega⟩, fun z => ?_, fun z => ⟨by omega, by omega, ?_⟩⟩
    · exact ca_I (by omega) (c_399 G h30 ht ⟨by omega, by omega⟩ ⟨by omega, by omega⟩ (by omega)) (fun y M1 _ q => ⟨_, q.2⟩) nt_E_no
    · refine ca_I (by omega) (c_327 hX kv (by omega) (by omega)) (fun y M1 _ q => ?_) nt_E_no
      obtain ⟨rfl, q⟩ := q
      exact ih (x4 + 1) _ (by omega) (by omega)
end NODE
