/-! the reference's judge: workFields, workFamilies -/
/-- how many fields of objects the class that is told at o has, before D -/
def fcn (B : Nat → Nat → Int) (o : Int) : Nat → Nat
  | 0 => 0
  | D + 1 => fcn B o D + if B 0 D = 1 ∧ B 4 D = 0 ∧ B 3 D = o then 1 else 0
theorem fcn_mo {B : Nat → Nat → Int} {o : Int} {a : Nat} : ∀ b, a ≤ b → fcn B o a ≤ fcn B o b := by
  intro b
  induction b with
  | zero =>
    intro h
    rw [show a = 0 by omega]
    exact Nat.le_refl _
  | succ b ih =>
    intro h
    by_cases c : a = b + 1
    · rw [c]
      exact Nat.le_refl _
    · have := ih (by omega)
      rw [fcn]
      omega
theorem fcn_no {B : Nat → Nat → Int} {o : Int} {a : Nat} : ∀ b, a ≤ b → (∀ j, a ≤ j → j < b → ¬ (B 0 j = 1 ∧ B 4 j = 0 ∧ B 3 j = o)) → fcn B o b = fcn B o a := by
  intro b
  induction b with
  | zero =>
    intro h _
    rw [show a = 0 by omega]
  | succ b ih =>
    intro h e
    by_cases c : a = b + 1
    · rw [c]
    · rw [fcn, if_neg (e b (by omega) (by omega)), ih (by omega) fun j j1 j2 => e j j1 (by omega)]
      rfl
theorem fcn_le {B : Nat → Nat → Int} {o : Int} : ∀ D, fcn B o D ≤ D
  | 0 => Nat.le_refl _
  | D + 1 => by
    have := fcn_le (B := B) (o := o) D
    rw [fcn]
    split <;> omega
theorem fcn_eq {B B' : Nat → Nat → Int} {o : Int} : ∀ (D : Nat), (∀ i j, (i = 0 ∨ i = 3 ∨ i = 4) → j < D → B' i j = B i j) → fcn B' o D = fcn B o D
  | 0, _ => rfl
  | D + 1, e => by rw [fcn, fcn, fcn_eq D fun i j i1 j1 => e i j i1 (by omega), e 0 D (by omega) (by omega), e 3 D (by omega) (by omega), e 4 D (by omega) (by omega)]
section WFI
variable {N : Nat} {X : Nat → Int32} {d p C n m cl k c : Nat} {Φ : Nat → Nat} {M M' : me_M}
/-- fields have their slots -/
def FSL (p m : Nat) (M M1 : me_M) (c : Nat) : Prop := ∀ q : Nat, me_i M (p + 35) c = (q : Int) → me_i M1 (p + 45) c = (fcn (tA p M) q m : Int) ∧ ∀ a, a < m → tA p M 0 a = 1 → tA p M 3 a = (q : Int) → me_i M1 (p + 44) a = (fcn (tA p M) q a : Int)
def LF (p m : Nat) (M M1 : me_M) (c : Nat) : Prop := fr (fun b _ => b = p + 44 ∨ b = p + 45) M M1 ∧ ∀ i, i < c → FSL p m M M1 i
theorem fld_21 {Q : me_Q} (H : WB p C n m Φ M) (hC : CS p M cl m) {q : Nat} (hc : c < cl) (hq : me_i M (p + 35) c = (q : Int)) (hqm : q < m) (hq0 : tA p M 0 q = 0) (HQ : ∀ M2, LF p m M M2 (c + 1) → me_W (mt_G N X) 362 d 2 [some (.inr (.inl (some p, 29, 0))), some (.inl ((c : Int) + 1)), none, none] [] M2 Q) : ∀ (f j : Nat) (M1 : me_M), m - j < f → q < j → j ≤ m → (∀ l, q < l → l < j → ¬ tA p M 0 l = 0) → fr (fun b _ => b = p + 44 ∨ b = p + 45) M M1 → (∀ i, i < c → FSL p m M M1 i) → (∀ a, a < j → tA p M 0 a = 1 → tA p M 3 a = (q : Int) → me_i M1 (p + 44) a = (fcn (tA p M) q a : Int)) → me_W (mt_G N X) 362 d 21 [some (.inr (.inl (some p, 29, 0))), some (.inl (c : Int)), some (.inl (fcn (tA p M) q j : Int)), some (.inl (j : Int))] [] M1 Q := by
  have m7 := H.m7
  have c8 := hC.2.1
  intro f
  induction f with
  | zero => intro j M1 z; omega
  | succ f ih =>
    intro j M1 hf j1 j2 j3 f1 h1 h2
    have fj := fcn_le (B := tA p M) (o := (q : Int)) j
    have eB : ∀ i a, i < 10 → ∀ M2, fr (fun b _ => b = p + 44 ∨ b = p + 45) M M2 → tA p M2 i a = tA p M i a := fun i a _ M2 f2 => f2.i (by omega)
    have own_c : ∀ i q', i < cl → me_i M (p + 35) i = (q' : Int) → ¬ i = c → ¬ (q' : Int) = q := fun i q' i1 i2 i3 z => by
      obtain ⟨a, a1, _, _, a4⟩ := hC.2.2.1 i i1
      obtain ⟨b, b1, _, _, b4⟩ := hC.2.2.1 c hc
      rw [show a = b by omega, b4] at a4
      omega
    -- the class's end
    have fin : (∀ a, j ≤ a → a < m → ¬ (tA p M 0 a = 1 ∧ tA p M 3 a = (q : Int))) → me_W (mt_G N X) 362 d 2 [some (.inr (.inl (some p, 29, 0))), some (.inl ((c : Int) + 1)), none, none] [] (me_sI M1 (p + 45) c (Int32.ofInt (fcn (tA p M) q j : Int))) Q := fun hn => by
      have f5 : fr (fun b a => b = p + 45 ∧ a = c) M1 (me_sI M1 (p + 45) c (Int32.ofInt (fcn (tA p M) q j : Int))) := fr_sI ⟨rfl, rfl⟩
      refine HQ _ ⟨f1.tr (f5.mo fun b a z => Or.inr z.1), fun i i1 q' q1 => ?_⟩
      by_cases ci : i = c
      · subst ci
        have : q' = q := by omega
        subst this
        refine ⟨?_, fun a a1 a2 a3 => ?_⟩
        · rw [me_i_sI, if_pos ⟨rfl, rfl⟩, me_to ⟨by omega, by omega⟩, fcn_no m j2 fun a a1 a2 z => hn a a1 a2 ⟨z.1, z.2.2⟩]
        · rw [f5.i (by omega)]
          by_cases c2 : a < j
          · exact h2 a c2 a2 a3
          · exact absurd ⟨a2, a3⟩ (hn a (by omega) a1)
      · obtain ⟨b1, b2⟩ := h1 i (by omega) q' q1
        exact ⟨by rw [f5.i (by omega), b1], fun a a1 a2 a3 => by rw [f5.i (by omega)]; exact b2 a a1 a2 a3⟩
    refine b362_21 ?_
    rw [(H.fr (f1.mo fun b j z => by unfold rW; omega)).1.2.2.2.1, Int.toNat_natCast, Int.toNat_natCast, show me_i M1 (p + 25) j = tA p M 0 j from eB 0 j (by omega) M1 f1]
    have r0 : me_r (tA p M 0 j) := me_i_r _ _ _
    refine ⟨⟨by omega, by omega⟩, ⟨by omega, by omega⟩, fun z => ⟨by omega, by omega, fin fun a a1 a2 => by omega⟩, fun z => ⟨by omega, by omega, r0, fun z0 => ⟨by omega, by omega, fin fun a a1 a2 w => ?_⟩, fun z0 => ⟨by omega, by omega, ?_⟩⟩⟩
    · -- behind the next class
      rcases (H.td a2).2.2 with v | v | v | v | v
      · omega
      · obtain ⟨o1, o2, o3, o4⟩ := v.2.2.1
        by_cases c : a = j
        · rw [c, z0] at w
          omega
        · exact absurd z0 (o4 j (by omega) (by omega))
      · omega
      · omega
      · omega
    intro M3
    have f3 : fr (fun b a => b = p + 44 ∧ a = j) M1 M3 := fr_sI ⟨rfl, rfl⟩
    have v3 : me_i M3 (p + 44) j = (fcn (tA p M) q j : Int) := by
      show me_i (me_sI _ _ _ _) _ _ = _
      rw [me_i_sI, if_pos ⟨rfl, rfl⟩, me_to ⟨by omega, by omega⟩]
    clear_value M3
    have F3 : fr (fun b _ => b = p + 44 ∨ b = p + 45) M M3 := f1.tr (f3.mo fun b a z => Or.inl z.1)
    rw [show me_i M3 (p + 25) j = tA p M 0 j from eB 0 j (by omega) M3 F3, show me_i M3 (p + 29) j = tA p M 4 j from eB 4 j (by omega) M3 F3]
    have r4 : me_r (tA p M 4 j) := me_i_r _ _ _
    have jm : j < m := by omega
    have own : tA p M 0 j = 1 → tA p M 3 j = (q : Int) := fun s1 => by
      rcases (H.td jm).2.2 with v | v | v | v | v
      · omega
      · obtain ⟨o1, o2, o3, o4⟩ := v.2.2.1
        by_cases c1 : tA p M 3 j < q
        · exact absurd hq0 (o4 q c1 (by omega))
        · by_cases c2 : tA p M 3 j = q
          · exact c2
          · exact absurd o3 (j3 _ (by omega) (by omega))
      · omega
      · omega
      · omega
    have nxt : ∀ v : Int, v = (fcn (tA p M) q (j + 1) : Int) → me_W (mt_G N X) 362 d 21 [some (.inr (.inl (some p, 29, 0))), some (.inl (c : Int)), some (.inl v), some (.inl ((j : Int) + 1))] [] M3 Q := fun v hv => by
      rw [hv, show (j : Int) + 1 = ((j + 1 : Nat) : Int) by omega]
      refine ih (j + 1) M3 (by omega) (by omega) (by omega) (fun l l1 l2 => ?_) F3 (fun i i1 q' q1 => ?_) (fun a a1 a2 a3 => ?_)
      · by_cases c : l = j
        · rw [c]
          exact z0
        · exact j3 l l1 (by omega)
      · obtain ⟨b1, b2⟩ := h1 i i1 q' q1
        refine ⟨by rw [f3.i (by omega), b1], fun a a1 a2 a3 => ?_⟩
        by_cases c : a = j
        · subst c
          have := own a2
          exact absurd (by omega) (own_c i q' (by omega) q1 (by omega))
        · rw [f3.i (by omega)]
          exact b2 a a1 a2 a3
      · by_cases c : a = j
        · rw [c, v3]
        · rw [f3.i (by omega)]
          exact h2 a (by omega) a2 a3
    refine ⟨by omega, by omega, r0, ⟨by omega, by omega⟩, fun z1 => nxt _ ?_, fun z1 => ⟨by omega, by omega, fun st => ⟨r4, fun z4 => nxt _ ?_, fun z4 => nxt _ ?_⟩⟩⟩
    · rw [fcn, if_neg fun w => z1 w.1]
      omega
    · rw [fcn, if_neg fun w => z4 w.2.1]
      omega
    · rw [fcn, if_pos ⟨z1, z4, own z1⟩]
      omega
theorem fld_2 {Q : me_Q} (H : WB p C n m Φ M) (hC : CS p M cl m) (HQ : ∀ M2, LF p m M M2 cl → Q (.inr none) M2) : ∀ (f c : Nat) (M1 : me_M), cl - c < f → c ≤ cl → LF p m M M1 c → me_W (mt_G N X) 362 d 2 [some (.inr (.inl (some p, 29, 0))), some (.inl (c : Int)), none, none] [] M1 Q := by
  have m7 := H.m7
  have c8 := hC.2.1
  intro f
  induction f with
  | zero => intro c M1 z; omega
  | succ f ih =>
    intro c M1 hf hc L
    refine b362_2 ?_
    rw [L.1.i (by omega), hC.1]
    refine ⟨⟨by omega, by omega⟩, ⟨by omega, by omega⟩, fun z => by
      have e : c = cl := by omega
      exact HQ M1 (e ▸ L), fun z => ⟨by omega, by omega, ?_⟩⟩
    obtain ⟨q, q1, q2, q3, q4⟩ := hC.2.2.1 c (by omega)
    rw [Int.toNat_natCast, L.1.i (by omega), q1, show (q : Int) + 1 = ((q + 1 : Nat) : Int) by omega]
    have z0 : ∀ j, j ≤ q + 1 → ∀ a, a < j → ¬ (tA p M 0 a = 1 ∧ tA p M 3 a = (q : Int)) := fun j j1 a a1 w => by
      rcases (H.td (show a < m by omega)).2.2 with v | v | v | v | v
      · omega
      · obtain ⟨o1, o2, o3, o4⟩ := v.2.2.1
        omega
      · omega
      · omega
      · omega
    have e0 : fcn (tA p M) q (q + 1) = 0 := by
      rw [fcn_no (a := 0) (q + 1) (Nat.zero_le _) fun j _ j2 w => z0 (q + 1) (Nat.le_refl _) j j2 ⟨w.1, w.2.2⟩]
      rfl
    have R := fld_21 (N := N) (X := X) (d := d) (Q := Q) H hC (c := c) (by omega) q1 q2 q3 (fun M2 L2 => by
      rw [show (c : Int) + 1 = ((c + 1 : Nat) : Int) by omega]
      exact ih (c + 1) M2 (by omega) (by omega) L2) (m + 1) (q + 1) M1 (by omega) (by omega) (by omega) (fun l l1 l2 => by omega) L.1 L.2 (fun a a1 a2 a3 => absurd ⟨a2, a3⟩ (z0 (q + 1) (Nat.le_refl _) a a1))
    rw [e0] at R
    exact R
theorem c_362 (H : WB p C n m Φ M) (hC : CS p M cl m) : me_W (mt_G N X) 362 d 0 [some (.inr (.inl (some p, 29, 0))), none, none, none] [] M (sx_qV (fun M' => LF p m M M' cl) nt_E) := b362_0 (fld_2 H hC (fun M2 L => L) (cl + 1) 0 M (by omega) (by omega) ⟨fr.rf, fun i z => by omega⟩)
/-- families -/
theorem fam_109 {Q : me_Q} (H : WB p C n m Φ M) {x1 x2 x3 x4 : Int} (r3 : me_r x3) (r4 : me_r x4) (HQ : ∀ M2, fr (fun b _ => b = p + 39) M M2 → me_W (mt_G N X) 361 d 39 [some (.inr (.inl (some p, 29, 0))), some (.inl x1), some (.inl (x2 + 1)), none, none, none] [] M2 Q) : ∀ (f k : Nat) (M1 : me_M), m - k < f → k ≤ m → fr (fun b _ => b = p + 39) M M1 → me_W (mt_G N X) 361 d 109 [some (.inr (.inl (some p, 29, 0))), some (.inl x1), some (.inl x2), some (.inl x3), some (.inl x4), some (.inl (k : Int))] [] M1 Q := by
  have m7 := H.m7
  intro f
  induction f with
  | zero => intro k M1 z; omega
  | succ f ih =>
    intro k M1 hf hk f1
    refine b361_109 ?_
    rw [(H.fr (f1.mo fun b j z => by unfold rW; omega)).1.2.2.2.1, Int.toNat_natCast]
    have nxt : k < m → ∀ v : Int32, me_W (mt_G N X) 361 d 109 [some (.inr (.inl (some p, 29, 0))), some (.inl x1), some (.inl x2), some (.inl x3), some (.inl x4), some (.inl ((k : Int) + 1))] [] (me_sI M1 (p + 39) k v) Q := fun km v => by
      rw [show (k : Int) + 1 = ((k + 1 : Nat) : Int) by omega]
      exact ih (k + 1) _ (by omega) (by omega) (f1.tr (fr_sI rfl))
    exact ⟨⟨by omega, by omega⟩, ⟨by omega, by omega⟩, fun _ => HQ M1 f1, fun z => ⟨by omega, by omega, me_i_r _ _ _, r3, fun _ => ⟨by omega, by omega, by omega, by omega, nxt (by omega) _⟩, fun _ => ⟨by omega, by omega, nxt (by omega) _⟩⟩⟩
theorem fam_39 {Q : me_Q} (H : WB p C n m Φ M) (hC : CS p M cl m) (hd : 4 ≤ d) {j : Nat} (jm : j < m) (HQ : ∀ M2, fr (fun b _ => b = p + 39) M M2 → me_W (mt_G N X) 361 d 29 [some (.inr (.inl (some p, 29, 0))), some (.inl ((j : Int) + 1)), none, none, none, none] [] M2 Q) : ∀ (f i : Nat) (M1 : me_M), m - i < f → i ≤ m → fr (fun b _ => b = p + 39) M M1 → me_W (mt_G N X) 361 d 39 [some (.inr (.inl (some p, 29, 0))), some (.inl (j : Int)), some (.inl (i : Int)), none, none, none] [] M1 Q := by
  have m7 := H.m7
  intro f
  induction f with
  | zero => intro i M1 z; omega
  | succ f ih =>
    intro i M1 hf hi f1
    have b1 : WB p C n m Φ M1 := H.fr (f1.mo fun b j z => by unfold rW; omega)
    have C1 : CS p M1 cl m := hC.fr f1 (by omega) (fun b a w => by omega)
    have nxt : i < m → ∀ M2, fr (fun b _ => b = p + 39) M M2 → me_W (mt_G N X) 361 d 39 [some (.inr (.inl (some p, 29, 0))), some (.inl (j : Int)), some (.inl ((i : Int) + 1)), none, none, none] [] M2 Q := fun im M2 f2 => by
      rw [show (i : Int) + 1 = ((i + 1 : Nat) : Int) by omega]
      exact ih (i + 1) M2 (by omega) (by omega) f2
    refine b361_39 ?_
    rw [b1.1.2.2.2.1, Int.toNat_natCast, Int.toNat_natCast]
    refine ⟨⟨by omega, by omega⟩, ⟨by omega, by omega⟩, fun _ => HQ M1 f1, fun z => ⟨by omega, by omega, me_i_r _ _ _, ⟨by omega, by omega⟩, fun _ => HQ M1 f1, fun z1 => ⟨by omega, by omega, me_i_r _ _ _, ⟨by omega, by omega⟩, fun _ => nxt (by omega) M1 f1, fun z2 => ?_⟩⟩⟩
    have im : i < m := by omega
    refine ca_I (by omega) (c_352 (by omega) b1.2.2.1 C1 (by omega) (b1.mtd jm z1) (b1.mtd im z2) (b1.own jm (Or.inr z1)) (b1.own im (Or.inr z2))) (fun y4 M2 _ g => ?_) nt_E_no
    obtain ⟨e2, g⟩ := g
    subst e2
    refine ⟨by rcases g with g | g <;> rw [g.1] <;> exact ⟨by omega, by omega⟩, fun _ => nxt im M2 f1, fun _ => ⟨by omega, by omega, by omega, by omega, me_i_r _ _ _, me_i_r _ _ _, fun _ => nxt im M2 f1, fun _ => ⟨by omega, by omega, by omega, by omega, ?_⟩⟩⟩
    exact fam_109 H (me_i_r _ _ _) (me_i_r _ _ _) (fun M3 f3 => nxt im M3 f3) (m + 1) 0 M2 (by omega) (by omega) f1
theorem fam_29 {Q : me_Q} (H : WB p C n m Φ M) (hC : CS p M cl m) (hd : 4 ≤ d) (HQ : ∀ M2, fr (fun b _ => b = p + 39) M M2 → Q (.inr none) M2) : ∀ (f j : Nat) (M1 : me_M), m - j < f → j ≤ m → fr (fun b _ => b = p + 39) M M1 → me_W (mt_G N X) 361 d 29 [some (.inr (.inl (some p, 29, 0))), some (.inl (j : Int)), none, none, none, none] [] M1 Q := by
  have m7 := H.m7
  intro f
  induction f with
  | zero => intro j M1 z; omega
  | succ f ih =>
    intro j M1 hf hj f1
    refine b361_29 ?_
    rw [(H.fr (f1.mo fun b j z => by unfold rW; omega)).1.2.2.2.1]
    refine ⟨⟨by omega, by omega⟩, ⟨by omega, by omega⟩, fun _ => HQ M1 f1, fun z => ?_⟩
    refine fam_39 H hC hd (show j < m by omega) (fun M2 f2 => ?_) (m + 1) 0 M1 (by omega) (by omega) f1
    rw [show (j : Int) + 1 = ((j + 1 : Nat) : Int) by omega]
    exact ih (j + 1) M2 (by omega) (by omega) f2
theorem fam_6 {Q : me_Q} (H : WB p C n m Φ M) (hC : CS p M cl m) (hd : 4 ≤ d) (HQ : ∀ M2, fr (fun b _ => b = p + 39) M M2 → Q (.inr none) M2) : ∀ (f j : Nat) (M1 : me_M), m - j < f → j ≤ m → fr (fun b _ => b = p + 39) M M1 → me_W (mt_G N X) 361 d 6 [some (.inr (.inl (some p, 29, 0))), some (.inl (j : Int)), none, none, none, none] [] M1 Q := by
  have m7 := H.m7
  intro f
  induction f with
  | zero => intro j M1 z; omega
  | succ f ih =>
    intro j M1 hf hj f1
    refine b361_6 ?_
    rw [(H.fr (f1.mo fun b j z => by unfold rW; omega)).1.2.2.2.1, Int.toNat_natCast]
    refine ⟨⟨by omega, by omega⟩, ⟨by omega, by omega⟩, fun _ => fam_29 H hC hd HQ (m + 1) 0 M1 (by omega) (by omega) f1, fun z => ⟨by omega, by omega, ?_⟩⟩
    intro M2
    rw [show (j : Int) + 1 = ((j + 1 : Nat) : Int) by omega]
    exact ih (j + 1) M2 (by omega) (by omega) (f1.tr (fr_sI rfl))
theorem c_361 (H : WB p C n m Φ M) (hC : CS p M cl m) (hd : 5 ≤ d) : me_W (mt_G N X) 361 d 0 [some (.inr (.inl (some p, 29, 0))), none, none, none, none, none] [] M (sx_qV (fun M' => fr (fun b _ => b = p + 39 ∨ b = p + 44 ∨ b = p + 45) M M' ∧ ∀ i, i < cl → FSL p m M M' i) nt_E) := by
  refine b361_0 (ca_V (by omega) (c_362 H hC) (fun M1 _ L => ?_) nt_E_no)
  obtain ⟨l1, l2⟩ := L
  have H1 : WB p C n m Φ M1 := H.fr (l1.mo fun b j z => by unfold rW; omega)
  have C1 : CS p M1 cl m := hC.fr l1 (by omega) (fun b a w => by omega)
  refine fam_6 H1 C1 (by omega) (fun M2 f2 => ⟨(l1.mo fun b j z => by omega).tr (f2.mo fun b j z => by omega), fun i i1 q q1 => ?_⟩) (m + 1) 0 M1 (by omega) (by omega) fr.rf
  obtain ⟨b1, b2⟩ := l2 i i1 q q1
  exact ⟨by rw [f2.i (by omega), b1], fun a a1 a2 a3 => by rw [f2.i (by omega)]; exact b2 a a1 a2 a3⟩
end WFI
