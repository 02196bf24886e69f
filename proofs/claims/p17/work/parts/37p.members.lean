/-! the reference's parser: members, their contracts -/
section DEFS
variable (s c : Nat → Int) (lim : Nat) (gd : Nat → Option Nat) (K : Nat)
def g_fld (t : Nat) : Option Nat := if s t = -1 then none else if s t = 4 ∧ c t = 61 then (if t < lim then (g s c lim gd K 0 1 (t + 1) 0).bind fun t1 => g_need s c lim 59 t1 else none) else g_need s c lim 59 t
def g_blk (t : Nat) : Option Nat := if s t = -1 then none else if s t = 4 ∧ c t = 123 then g s c lim gd K 8 0 t 0 else none
def g_mth (t : Nat) : Option Nat := (g_need s c lim 40 t).bind fun t1 => if s t1 = -1 then none else if s t1 = 4 ∧ c t1 = 41 then (if t1 < lim then g_blk s c lim gd K (t1 + 1) else none) else (g_par s c lim K 0 t1).bind fun t2 => g_blk s c lim gd K t2
def g_nam (mb : Nat) (v : Bool) (t : Nat) : Option Nat := if s t = 1 ∧ mb < 24 ∧ t < lim then (if v = true then g_mth s c lim gd K (t + 1) else if s (t + 1) = -1 then none else if s (t + 1) = 4 ∧ c (t + 1) = 40 then g_mth s c lim gd K (t + 1) else g_fld s c lim gd K (t + 1)) else none
def g_typ (mb t : Nat) : Option Nat := if s t = -1 then none else if s t = 3 ∧ c t = 5 then (if t < lim then g_nam s c lim gd K mb true (t + 1) else none) else if g_ty s c t ∧ t < lim then g_nam s c lim gd K mb false (t + 1) else none
def g_mem (mb t : Nat) : Option Nat := if s t = -1 then none else if s t = 3 ∧ c t = 2 then (if t < lim then g_typ s c lim gd K mb (t + 1) else none) else g_typ s c lim gd K mb t
end DEFS
/-- before a member, and behind it -/
def pm (p : Nat) (s c : Nat → Int) (Φ : Nat → Nat) (lim e0 f0 : Nat) (u : Nat) (M : me_M) (t n m : Nat) : Prop := pk p s c lim M ∧ me_i M p 35 = (t : Int) ∧ (f0 ≤ t ∧ t ≤ e0) ∧ me_i M p 4 = (n : Int) ∧ n ≤ t ∧ me_i M p 16 = (m : Int) ∧ m ≤ t ∧ u < m ∧ PG (nA p M) (tA p M) s c Φ n m t u
def ME (p : Nat) (s c : Nat → Int) (Φ : Nat → Nat) (lim e0 f0 : Nat) (u : Nat) (M0 : me_M) (n0 m0 t0 : Nat) (go : Option Nat) : me_M → Prop := fun M => ∃ t n m, go = some t ∧ t0 < t ∧ n0 ≤ n ∧ m0 < m ∧ mcn (tA p M) m ≤ mcn (tA p M0) m0 + 1 ∧ fr (rM p n0 m0) M0 M ∧ pm p s c Φ lim e0 f0 u M t n m
section MEM
variable {N : Nat} {X : Nat → Int32} {p : Nat} {s c : Nat → Int} {Φ : Nat → Nat} {lim : Nat} {gd : Nat → Option Nat} {K e0 f0 : Nat} {u n m bg ty nm t pc d : Nat} {so st : Int} {M0 M : me_M}
theorem MM.pk (Q : MM p s c e0 so u m n bg ty nm st M0 M t pc) (hp : 164 < p) (k : pk p s c lim M0) : pk p s c lim M := pk_m k hp Q.1
/-- a block ends a method -/
theorem mb_212 (hp : 164 < p) (he : e0 ≤ 2405) (hef : e0 ≤ f0 + 601) (hl : lim < 2408) (z0 : s e0 = 0) (hΦ : ∀ x : Int, (f0 : Int) ≤ x → x < e0 → Φ x.toNat = f0) (HD : ∀ h, CD N X p s c lim gd e0 h) (hK : 80000 ≤ K) (P : pm p s c Φ lim e0 f0 u M0 bg n m) (Q : MM p s c e0 2 u m n bg ty nm st M0 M t pc) (hst : st = 0 ∨ st = 1) (hty : g_ty s c ty ∨ s ty = 3 ∧ c ty = 5) (hd : 460 ≤ d) (hnm : nm + 2 ≤ t) :
    me_W (mt_G N X) 308 d 212 [some (.inr (.inl (some p, 29, 0))), none, none, none, none, none, none, none, some (.inl (m : Int)), none, none, none, none] [] M (sx_qV (ME p s c Φ lim e0 f0 u M0 n m bg (g_blk s c lim gd K t)) (px (g_blk s c lim gd K t = none) (rM p n m) M0)) := by
  obtain ⟨P1, P2, P3, P4, P5, P6, P7, P8, P9⟩ := P
  have kM := MM.pk Q hp P1
  obtain ⟨f, q1, q2, q3, q4, q5, q6, q7, ⟨b0, b1, b2, b3, b4, b5, b6, b8, b9⟩, ⟨q9, q9b⟩, q10⟩ := id Q
  refine b308_212 (ca_I (by omega) (c_307 (by omega) kM q1 (by omega) ⟨by omega, by omega⟩) (fun y M1 _ q => ?_) (fun _ _ _ q => q.mo (fun z => by rw [g_blk, if_pos z]) rM_F f))
  obtain ⟨rfl, a0, a1⟩ := q
  refine ⟨⟨by omega, by omega⟩, fun z => ?_, fun z => ?_⟩
  rotate_left
  · exact ca_V (by omega) (c_297 (by omega) kM q1 (by omega)) (fun _ _ w => w.elim) (fun _ _ _ q => q.mo (fun _ => by rw [g_blk, if_neg a0, if_neg (by omega)]) rM_F f)
  have go1 : g_blk s c lim gd K t = g s c lim gd K 8 0 t 0 := by rw [g_blk, if_neg a0, if_pos (by omega)]
  rw [go1]
  have PB : pr p s c lim e0 ((m : Int), bg) M1 t n 0 (m + 1 + pc) := ⟨kM, q1, q6.2.2.2.2.1, q2, by omega, q3, by omega, ⟨q4, by show bg ≤ t; omega⟩, q5, by omega, by show (m : Int) < _; omega⟩
  have HB := (stats hp he hl z0 (HD ((m : Int), bg)) K).2.1
  refine b308_225 (ca_I (by omega) (HB M1 t n 0 (m + 1 + pc) (d - 1) PB (by omega) (by omega) (by omega)) (fun y M2 _ q => ?_) (fun _ _ _ q => q.mo id (rM_S (Nat.le_refl _) (by omega)) f))
  obtain ⟨t1, n1, D1, g1, t11, n11, rfl, R, R6, o1, o2, o5, o6⟩ := q
  obtain ⟨f2, ⟨_, r1, r2, r3, r4, r5, r6, r7, r8, r9⟩, w1, w2, w3, w4, w5⟩ := id R
  refine ⟨by omega, by omega, ?_⟩
  rw [Int.toNat_natCast]
  intro M5
  have f5 : fr (fun b j => b = p + 30 ∧ j = m) M2 M5 := fr_sI ⟨rfl, rfl⟩
  rw [show me_i M5 p 35 = (t1 : Int) by rw [f5.i (by omega), r1]]
  refine ⟨by omega, by omega, ?_⟩
  intro M6
  have f6 : fr (fun b j => b = p + 32 ∧ j = m) M5 M6 := fr_sI ⟨rfl, rfl⟩
  have f56 : fr (fun b j => (b = p + 30 ∨ b = p + 32) ∧ j = m) M2 M6 := (f5.mo fun b j z => by omega).tr (f6.mo fun b j z => by omega)
  have A6 : ∀ i j, i < 11 → nA p M6 i j = nA p M2 i j := fun i j _ => f56.i (by omega)
  have B6 : ∀ i j, i < 10 → ¬ ((i = 5 ∨ i = 7) ∧ j = m) → tA p M6 i j = tA p M2 i j := fun i j _ _ => f56.i (by omega)
  have B2 : ∀ i j, i < 10 → j < m + 1 + pc → tA p M2 i j = tA p M1 i j := fun i j _ _ => f2.i (by unfold rS rE fF; omega)
  have Bm : ∀ i, i < 10 → ¬ (i = 5 ∨ i = 7) → tA p M6 i m = tA p M1 i m := fun i i1 i2 => (B6 i m i1 (by omega)).trans (B2 i m i1 (by omega))
  have v5 : tA p M6 5 m = (n1 : Int) - 1 := by
    show me_i M6 (p + 30) m = _
    rw [f6.i (by omega)]
    show me_i (me_sI _ _ _ _) _ _ = _
    rw [me_i_sI, if_pos ⟨rfl, rfl⟩, me_to ⟨by omega, by omega⟩]
  have v7 : tA p M6 7 m = (t1 : Int) - 1 := by
    show me_i (me_sI _ _ _ _) _ _ = _
    rw [me_i_sI, if_pos ⟨rfl, rfl⟩, me_to ⟨by omega, by omega⟩]
  have i1 : ((n1 : Int) - 1).toNat = n1 - 1 := by omega
  have r8' := (R6.2 _ List.mem_cons_self)
  have fM : fr (rM p n m) M0 M6 := (f.tr (f2.mo (rM_S (Nat.le_refl _) (by omega)))).tr (f56.mo fun b j z => by unfold rM rS; omega)
  have kn : ∀ k, n ≤ k → k < n1 → nA p M2 10 k = m := fun k k1 k2 => (r7 k k1 k2).2.2.2.1
  -- sorts behind m
  have so3 : ∀ j, m < j → j < m + 1 + pc → tA p M6 0 j = 3 := fun j j1 j2 => by
    rw [B6 0 j (by omega) (by omega), B2 0 j (by omega) j2]
    exact (q9 j j1 j2).1
  have so4 : ∀ j, m + 1 + pc ≤ j → j < D1 → tA p M6 0 j = 4 := fun j j1 j2 => by
    rw [B6 0 j (by omega) (by omega)]
    exact (w4 j j1 j2).1
  have sob : ∀ j, m < j → j < D1 → 3 ≤ tA p M6 0 j := fun j j1 j2 => by
    by_cases e : j < m + 1 + pc
    · rw [so3 j j1 e]
      omega
    · rw [so4 j (by omega) j2]
      omega
  have sm0 : tA p M6 0 m = 2 := (Bm 0 (by omega) (by omega)).trans b0
  have hmc : mcn (tA p M6) D1 ≤ mcn (tA p M0) m + 1 := by
    rw [← mcn_eq (B := tA p M0) (B' := tA p M6) m fun j j1 => fM.i (by unfold rM rS rE fF; omega)]
    exact mcn_one (by omega) fun j j1 j2 => by have := sob j j1 j2; omega
  refine ⟨t1, n1, D1, g1, by omega, by omega, by omega, hmc, fM, pk_m P1 hp fM, by rw [f56.i (by omega), r1], by omega, by rw [f56.i (by omega), r3], by omega, by rw [f56.i (by omega), w1], by omega, by omega, ?_⟩
  have TM : tA p M6 1 m = (nm : Int) ∧ tA p M6 2 m = (ty : Int) := ⟨(Bm 1 (by omega) (by omega)).trans b1, (Bm 2 (by omega) (by omega)).trans b2⟩
  have TP : ∀ x, m < x → x < m + 1 + pc → (nm : Int) < tA p M6 2 x ∧ tA p M6 2 x < tA p M6 1 x ∧ tA p M6 1 x < t ∧ tA p M1 6 x ≤ tA p M6 2 x ∧ tA p M6 1 x ≤ tA p M1 7 x := fun x x1 x2 => by
    have z := (q9 x x1 x2).2.1
    rw [B6 1 x (by omega) (by omega), B2 1 x (by omega) x2, B6 2 x (by omega) (by omega), B2 2 x (by omega) x2]
    omega
  have TT : ∀ x, m ≤ x → x < m + 1 + pc → ((bg : Int) ≤ tA p M6 2 x ∧ tA p M6 2 x < tA p M6 1 x) ∧ tA p M6 1 x < t := fun x x1 x2 => by
    by_cases e : x = m
    · have z := TM
      rw [e]
      omega
    · have z := TP x (by omega) x2
      omega
  have TU : ∀ x, m + 1 + pc ≤ x → x < D1 → (t : Int) ≤ tA p M6 2 x ∧ tA p M6 2 x < tA p M6 1 x ∧ tA p M6 1 x < t1 ∧ tA p M2 6 x ≤ tA p M6 2 x ∧ tA p M6 1 x ≤ tA p M2 7 x := fun x x1 x2 => by
    have z := (w4 x x1 x2).2.1
    rw [B6 1 x (by omega) (by omega), B6 2 x (by omega) (by omega)]
    omega
  have q6b : bg ≤ t := by omega
  have r5b : t ≤ t1 := by omega
  refine P9.add (m := m) P8 r5 (by omega) (by omega) (fun i j _ j1 => fM.i (by unfold rM rS rE fF; omega)) (fun i j _ j1 => fM.i (by unfold rM rS rE fF; omega)) ?_ ((Bm 6 (by omega) (by omega)).trans b6) (by rw [v7]; omega) (fun e d1 d2 => sob e d1 d2) (by rw [v5]; omega) (Or.inr sm0) (fun k k1 k2 k3 => ?_) (fun e d1 d2 => ?_) (fun e d1 d2 => ?_) (fun k k1 k2 k3 => ?_) ((NI.nil (t := t) (w := tc (tA p M6) m D1)).app ((r9.eq fun x _ _ => A6 4 x (by omega))) q6b r5b (fun _ _ _ z => z) (fun k k1 k2 z => ?_)) (fun e d1 d2 => ?_) (fun e e' d1 d2 d3 => ?_)
  · exact r7.eq (fun i j i1 _ _ => A6 i j i1) fun j j1 => B6 0 j (by omega) (by omega)
  · rw [A6 8 k (by omega)] at k3
    have z1 := R6.1 k k1 k2 k3
    have z2 := List.mem_singleton.mp z1
    rw [A6 7 k (by omega), v5]
    exact ⟨(R6.2 k z1).2.2.2, by omega⟩
  · by_cases e1 : e = m
    · subst e1
      unfold td
      rw [sm0, Bm 1 (by omega) (by omega), Bm 2 (by omega) (by omega), Bm 4 (by omega) (by omega), Bm 6 (by omega) (by omega), Bm 9 (by omega) (by omega), v5, v7, b1, b2, b4, b6, b9, i1, Int.toNat_natCast, Int.toNat_natCast]
      refine ⟨⟨by rw [hΦ _ (by omega) (by omega)]; omega, by omega, by omega, by omega, q7⟩, hst, Or.inr (Or.inr (Or.inl ⟨rfl, ⟨by omega, by omega, hty⟩, ?_, ⟨by omega, by omega, by rw [A6 8 _ (by omega)]; exact r8'.2.2.1, by rw [A6 0 _ (by omega)]; omega, by rw [A6 10 _ (by omega)]; exact kn _ (by omega) (by omega)⟩, ⟨by omega, by omega, by omega, by omega, fun i i1 => ⟨so3 _ (by omega) (by omega), ?_, by have := (TP (e + 1 + i) (by omega) (by omega)).2.2.1; omega⟩⟩⟩))⟩
      · have g3 := P9.2.2.1 P8
        have eo : ∀ j, j < e → tA p M6 0 j = tA p M0 0 j := fun j j1 => fM.i (by unfold rM rS rE fF; omega)
        unfold oc
        rw [Bm 3 (by omega) (by omega), b3, Int.toNat_natCast]
        refine ⟨by omega, by omega, by rw [eo u P8]; exact g3.1, fun j j1 j2 => ?_⟩
        by_cases je : j = e
        · rw [je, sm0]
          omega
        · rw [eo j (by omega)]
          exact g3.2 j (by omega) (by omega)
      · rw [B6 3 _ (by omega) (by omega), B2 3 _ (by omega) (by omega)]
        exact (q9 _ (by omega) (by omega)).2.2.2.2.1
    · by_cases e2 : e < m + 1 + pc
      · obtain ⟨z1, z2, z3, z4, z5, z6, z7, z8, z9⟩ := q9 e (by omega) e2
        have BB : ∀ i, i < 10 → tA p M6 i e = tA p M1 i e := fun i i1 => (B6 i e i1 (by omega)).trans (B2 i e i1 e2)
        unfold td
        rw [BB 0 (by omega), BB 1 (by omega), BB 2 (by omega), BB 4 (by omega), BB 5 (by omega), BB 6 (by omega), BB 7 (by omega), BB 9 (by omega), z1, z6, z7, z9]
        have b3e := (BB 3 (by omega)).trans z5
        refine ⟨⟨by rw [hΦ _ (by omega) (by omega)]; omega, by omega, by omega, by omega, z3⟩, Or.inl rfl, Or.inr (Or.inr (Or.inr (Or.inl ⟨rfl, ⟨by omega, by omega, z4⟩, ?_, ?_, rfl, rfl, rfl⟩)))⟩
        · unfold om
          rw [b3e, Int.toNat_natCast]
          exact ⟨by omega, by omega, sm0, fun j j1 j2 => sob j (by omega) (by omega)⟩
        · rw [b3e, Int.toNat_natCast, Bm 9 (by omega) (by omega), b9]
          omega
      · obtain ⟨z1, z2, z3, z4, z5, z6, ⟨z7, z8, z9, z10⟩, z11, z12⟩ := w4 e (by omega) d2
        have BB : ∀ i, i < 10 → tA p M6 i e = tA p M2 i e := fun i i1 => B6 i e i1 (by omega)
        have z2f : (f0 : Int) ≤ tA p M2 6 e := by
          have := z2.1
          omega
        have b3e := (BB 3 (by omega)).trans z5
        unfold td
        rw [BB 0 (by omega), BB 1 (by omega), BB 2 (by omega), BB 4 (by omega), BB 5 (by omega), BB 6 (by omega), BB 7 (by omega), BB 9 (by omega), z1, z6, z12, b3e]
        refine ⟨⟨by rw [hΦ _ (by omega) (by omega)]; omega, by omega, by omega, by omega, z3⟩, Or.inl rfl, Or.inr (Or.inr (Or.inr (Or.inr ⟨rfl, ⟨by omega, by omega, z4⟩, ?_, rfl, ⟨by omega, by omega, by rw [A6 0 _ (by omega)]; exact z9, by rw [A6 2 _ (by omega)]; exact z10, by rw [A6 10 _ (by omega)]; exact kn _ (by omega) (by omega)⟩, rfl⟩)))⟩
        unfold om
        rw [b3e]
        exact ⟨by show 0 ≤ ((m : Int)); omega, by show (m : Int) < e; omega, sm0, fun j j1 j2 => sob j (by have j1 : (m : Int) < j := j1; omega) (by omega)⟩
  · by_cases e1 : e = m
    · rw [e1, sm0]
      omega
    · have := sob e (by omega) d2
      omega
  · by_cases e1 : k < t
    · obtain ⟨x, x1, x2, x3⟩ := q10 k k1 e1 k3
      refine Or.inr ⟨x, x1, by omega, ?_⟩
      rw [B6 1 x (by omega) (by omega), B2 1 x (by omega) x2, B6 2 x (by omega) (by omega), B2 2 x (by omega) x2]
      exact x3
    · rcases r8 k (by omega) k2 k3 with (z | ⟨x, x1, x2, x3⟩) | ⟨x, x1, x2, x3⟩
      · exact z.elim
      · refine Or.inr ⟨x, by omega, x2, ?_⟩
        rw [B6 1 x (by omega) (by omega), B6 2 x (by omega) (by omega)]
        exact x3
      · exact Or.inl ⟨x, x1, x2, by rw [A6 4 x (by omega)]; exact x3⟩
  · obtain ⟨x, x1, x2, x3⟩ := z
    by_cases e1 : x < m + 1 + pc
    · have z := TT x x1 e1
      omega
    · refine Or.inr ⟨x, by omega, x2, ?_⟩
      rw [B6 1 x (by omega) (by omega), B6 2 x (by omega) (by omega)] at x3
      exact x3
  · by_cases e1 : e < m + 1 + pc
    · have z := TT e d1 e1
      omega
    · have z := TU e (by omega) d2
      omega
  · by_cases e1 : e' < m + 1 + pc
    · by_cases e2 : e = m
      · have z := TM
        have z' := TP e' (by omega) e1
        rw [e2]
        omega
      · have z := TP e (by omega) (by omega)
        have z' := TP e' (by omega) e1
        have z3 := q9b e e' (by omega) d2 e1
        omega
    · have z' := TU e' (by omega) d3
      by_cases e2 : e < m + 1 + pc
      · have z := TT e d1 e2
        omega
      · have z := TU e (by omega) (by omega)
        have z3 := w5 e e' (by omega) d2 d3
        omega
end MEM
