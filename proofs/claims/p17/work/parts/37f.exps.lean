/-! the reference's parser: exps -/
section DEFS
variable (N : Nat) (X : Nat → Int32) (p : Nat) (s c : Nat → Int) (lim : Nat) (gd : Nat → Option Nat) (e0 : Nat) (h : Int × Nat)
/-- what reading a tree ends with -/
def EX (o1 o2 : Int) (D dp : Nat) (M0 : me_M) (n0 t0 : Nat) (go : Option Nat) : Int → me_M → Prop := fun r M => ∃ t n, go = some t ∧ t0 < t ∧ n0 < n ∧ r = (n : Int) - 1 ∧ pe p s e0 h D dp M0 n0 t0 (fun _ => False) M t n ∧ RL (nA p M) n0 n [n - 1] ∧ o1 ≤ nA p M 0 (n - 1) ∧ nA p M 0 (n - 1) ≤ o2 ∧ nA p M 5 (n - 1) = t0 ∧ nA p M 6 (n - 1) = (t : Int) - 1
/-- a chain of roots from r -/
def CH (o1 o2 : Int) (A : Nat → Nat → Int) (n0 n : Nat) (r : Int) : Prop := (r = -1 ∧ n = n0 ∨ (n0 : Int) ≤ r ∧ r < n ∧ A 8 r.toNat = -1) ∧ ∀ m, n0 ≤ m → m < n → A 8 m = -1 → o1 ≤ A 0 m ∧ A 0 m ≤ o2 ∧ ((m : Int) = r ∨ ∃ j, n0 ≤ j ∧ j < m ∧ A 8 j = -1 ∧ A 7 j = m)
def AR (D dp : Nat) (M0 : me_M) (n0 t0 : Nat) (go : Option Nat) : Int → me_M → Prop := fun r M => ∃ t n, go = some t ∧ t0 + 2 ≤ t ∧ n + t0 + 2 ≤ n0 + t ∧ pe p s e0 h D dp M0 n0 t0 (fun _ => False) M t n ∧ CH 1 16 (nA p M) n0 n r
def C0 (k : Nat) : Prop := ∀ (M : me_M) (l t n dp D d : Nat), pr p s c lim e0 h M t n dp D → 1 ≤ l → l ≤ 7 → 32 * (e0 + 1 - t) + (14 - l) ≤ k → 20 * (22 - dp) + (17 - l) ≤ d →
  me_W (mt_G N X) 315 d 0 [some (.inr (.inl (some p, 29, 0))), some (.inl (l : Int)), none, none, none, none] [] M (sx_qI (EX p s e0 h 1 16 D dp M n t (g s c lim gd k 0 l t dp)) (px (g s c lim gd k 0 l t dp = none) (rE p n) M))
def C1 (k : Nat) : Prop := ∀ (M0 M : me_M) (l t0 n0 t n dp D d : Nat) (e : Int), pr p s c lim e0 h M0 t0 n0 dp D → EX p s e0 h 1 16 D dp M0 n0 t0 (some t) e M → e = (n : Int) - 1 → 1 ≤ l → l ≤ 6 → dp ≤ 20 → 32 * (e0 + 1 - t) ≤ k → 20 * (22 - dp) + (17 - l) ≤ d →
  me_W (mt_G N X) 315 d 24 [some (.inr (.inl (some p, 29, 0))), some (.inl (l : Int)), some (.inl (t0 : Int)), some (.inl e), none, none] [] M (sx_qI (EX p s e0 h 1 16 D dp M0 n0 t0 (g s c lim gd k 1 l t dp)) (px (g s c lim gd k 1 l t dp = none) (rE p n0) M0))
def C2 (k : Nat) : Prop := ∀ (M : me_M) (t n dp D d : Nat), pr p s c lim e0 h M t n dp D → 32 * (e0 + 1 - t) + 6 ≤ k → 20 * (22 - dp) + 9 ≤ d →
  me_W (mt_G N X) 316 d 0 [some (.inr (.inl (some p, 29, 0))), none, none, none, none] [] M (sx_qI (EX p s e0 h 1 16 D dp M n t (g s c lim gd k 2 0 t dp)) (px (g s c lim gd k 2 0 t dp = none) (rE p n) M))
def C3 (k : Nat) : Prop := ∀ (M : me_M) (t n dp D d : Nat), pr p s c lim e0 h M t n dp D → 32 * (e0 + 1 - t) + 3 ≤ k → 20 * (22 - dp) + 8 ≤ d →
  me_W (mt_G N X) 319 d 0 [some (.inr (.inl (some p, 29, 0))), none, none, none, none, none] [] M (sx_qI (EX p s e0 h 1 16 D dp M n t (g s c lim gd k 3 0 t dp)) (px (g s c lim gd k 3 0 t dp = none) (rE p n) M))
def C4 (k : Nat) : Prop := ∀ (M0 M : me_M) (t0 n0 t n dp D d : Nat) (e : Int), pr p s c lim e0 h M0 t0 n0 dp D → EX p s e0 h 1 16 D dp M0 n0 t0 (some t) e M → e = (n : Int) - 1 → dp ≤ 20 → 32 * (e0 + 1 - t) ≤ k → 20 * (22 - dp) + 9 ≤ d →
  me_W (mt_G N X) 316 d 80 [some (.inr (.inl (some p, 29, 0))), some (.inl (t0 : Int)), some (.inl e), none, none] [] M (sx_qI (EX p s e0 h 1 16 D dp M0 n0 t0 (g s c lim gd k 4 0 t dp)) (px (g s c lim gd k 4 0 t dp = none) (rE p n0) M0))
def C5 (k : Nat) : Prop := ∀ (M : me_M) (t n dp D d : Nat), pr p s c lim e0 h M t n dp D → dp ≤ 20 → 32 * (e0 + 1 - t) ≤ k → 20 * (22 - dp) + 7 ≤ d →
  me_W (mt_G N X) 320 d 0 [some (.inr (.inl (some p, 29, 0))), none, none, none] [] M (sx_qI (AR p s e0 h D dp M n t (g s c lim gd k 5 0 t dp)) (px (g s c lim gd k 5 0 t dp = none) (rE p n) M))
/-- dp: how deep outside the arguments -/
def C6 (k : Nat) : Prop := ∀ (M0 M : me_M) (t0 n0 t n dp D d : Nat) (bg la : Int), pr p s c lim e0 h M0 t0 n0 dp D → dp ≤ 20 → t0 + 1 ≤ t → n + t0 + 1 ≤ n0 + t → pe p s e0 h D (dp + 1) M0 n0 t0 (fun _ => False) M t n → CH 1 16 (nA p M) n0 n bg → (la = -1 ∧ n = n0 ∨ (n0 : Int) ≤ la ∧ la < n ∧ nA p M 8 la.toNat = -1 ∧ nA p M 7 la.toNat = -1) → (20 < dp + 1 → s t = 4 ∧ (c t = 125 ∨ c t = 41)) → 32 * (e0 + 1 - t) + 14 ≤ k → 20 * (22 - dp) + 7 ≤ d →
  me_W (mt_G N X) 320 d 25 [some (.inr (.inl (some p, 29, 0))), some (.inl bg), some (.inl la), none] [] M (sx_qI (AR p s e0 h D dp M0 n0 t0 (g s c lim gd k 6 0 t (dp + 1))) (px (g s c lim gd k 6 0 t (dp + 1) = none) (rE p n0) M0))
/-- what is wanted of dollar -/
def CD : Prop := ∀ (M : me_M) (t n dp D d : Nat), pr p s c lim e0 h M t n dp D → s t = 5 → t < lim → 20 ≤ d →
  me_W (mt_G N X) 321 d 0 [some (.inr (.inl (some p, 29, 0))), some (.inl (t : Int)), none, none, none] [] (pT M p t) (sx_qI (EX p s e0 h 1 16 D dp M n t (gd t)) (px (gd t = none) (rE p n) M))
end DEFS
section EXPS
variable {N : Nat} {X : Nat → Int32} {p : Nat} {s c : Nat → Int} {lim : Nat} {gd : Nat → Option Nat} {e0 : Nat} {h : Int × Nat} {k : Nat}
theorem g_lv_r (x : Int) : 0 ≤ g_lv x ∧ g_lv x ≤ 6 := by
  unfold g_lv
  (repeat' split) <;> omega
/-- no NAME waits: the list of names does not matter -/
theorem w0 {w : Nat → Prop} : ∀ k : Nat, (fun _ => False) k → w k := fun _ z => z.elim
theorem e1 (hp : 164 < p) (he : e0 ≤ 2405) (hl : lim < 2408) (z0 : s e0 = 0) (H0 : C0 N X p s c lim gd e0 h k) (H1 : C1 N X p s c lim gd e0 h k) : C1 N X p s c lim gd e0 h (k + 1) := by
  intro M0 M l t0 n0 t n dp D d e P S he1 l1 l6 hdp hk hd
  obtain ⟨t', n', S1, S2, S3, S4, S5, S6, S7, S8, S9, S10⟩ := S
  cases S1
  have en : n' = n := by omega
  subst en
  have PM := S5.pr hp P (by omega) (by omega)
  have ht := PM.2.1
  have hte := S5.2.2.2.2.1
  have hnn := S5.2.2.2.2.2.2.1
  have hn0 : n0 ≤ t0 := P.2.2.2.2.2.2.1
  rw [g]
  refine b315_24 (ca_I (by omega) (c_293 (by omega) PM.1 ht (by omega)) (fun y M1 _ q => ?_) (fun _ _ _ q => q.mo (fun z => by rw [if_pos z]) rE_F S5.1))
  obtain ⟨rfl, rfl, q⟩ := q
  rw [if_neg q]
  have fin : ¬ (s t = 4 ∧ g_lv (c t) = l) → EX p s e0 h 1 16 D dp M0 n0 t0 (if s t = 4 ∧ g_lv (c t) = l then (if t < lim then (g s c lim gd k 0 (l + 1) (t + 1) dp).bind fun t1 => g s c lim gd k 1 l t1 dp else none) else some t) e M1 := fun z => ⟨t, n', by rw [if_neg z], S2, S3, S4, S5, S6, S7, S8, S9, S10⟩
  refine ⟨PM.1.rs t, ⟨by omega, by omega⟩, fun z => fin fun w => z w.1, fun z => ?_⟩
  rw [ht, Int.toNat_natCast]
  refine ⟨by omega, by omega, ?_⟩
  rw [show me_i M1 (p + 9) t = c t from PM.1.2.1 t]
  refine ca_I (by omega) (c_328 (PM.1.rc t)) (fun y M2 _ q => ?_) nt_E_no
  obtain ⟨rfl, rfl⟩ := q
  have lr := g_lv_r (c t)
  refine ⟨⟨by omega, by omega⟩, ⟨by omega, by omega⟩, fun w => fin fun v => w v.2, fun w => ?_⟩
  rw [if_pos ⟨z, w⟩]
  refine ca_I (by omega) (c_299 (by omega) PM.1 ht (by omega) hl) (fun y M1 _ q => ?_) (fun _ _ _ q => q.mo (fun z => by rw [if_neg (by omega)]) rE_F S5.1)
  obtain ⟨rfl, rfl, q2⟩ := q
  have te : t < e0 := by
    have : ¬ t = e0 := fun v => by
      rw [v, z0] at z
      omega
    omega
  rw [if_pos q2]
  have T5 := S5.pass hp (by omega) te (fun v => by omega)
  have PT := T5.pr hp P (by omega) (by omega)
  refine ⟨by omega, by omega, ?_⟩
  have H := H0 (pT M2 p t) (l + 1) (t + 1) n' dp D (d - 1) PT (by omega) (by omega) (by omega) (by omega)
  refine ca_I (by omega) H (fun y M3 _ q => ?_) (fun _ _ _ q => q.mo (fun z => by rw [z]; rfl) (rE_mo (by omega)) T5.1)
  obtain ⟨t2, n2, g2, t12, n12, rfl, R, R6, o1, o2, o5, o6⟩ := q
  rw [g2]
  have U := T5.seq hp R w0 (fun _ _ z => z)
  have kA : ∀ i j, i < 11 → j < n' → nA p M3 i j = nA p M2 i j := fun i j i1 j1 => (R.keep hp i1 j1).trans (pT_A p t M2 i j)
  have UL := (S6.eq kA).seq R6 (by omega) (by omega)
  have hte2 := R.2.2.2.2.1
  have hnn2 := R.2.2.2.2.2.2.1
  have PU := U.pr hp P (by omega) (by omega)
  rw [Int.toNat_natCast, show me_i (pT M2 p t) (p + 9) t = c t from PT.1.2.1 t]
  have ka0 := kA 0 (n' - 1) (by omega) (by omega)
  have i1 : (e).toNat = n' - 1 := by omega
  have i2 : ((n2 : Int) - 1).toNat = n2 - 1 := by omega
  refine ca_I (by omega) (pe_nodeL (w' := fun _ => False) (by omega) hp U UL (by omega) (by omega) (by omega) (by omega) ⟨PU.2.2.2.2.2.2.2.1.1, P.2.2.2.2.2.2.2.1.2⟩ ⟨by omega, by omega⟩ (PM.1.rc t) ?_ ?_ ⟨by omega, by omega⟩ (fun v => by omega) ?_ (fun _ => ?_) (fun v => by omega) (fun m mv => ?_) w0 (Or.inl rfl) (fun _ z => z) (fun v => by omega)) (fun y M4 _ q => ?_) nt_E_no
  · unfold opk ex
    rw [i1, i2]
    exact Or.inr (Or.inr (Or.inr (Or.inr (Or.inl ⟨rfl, ⟨by omega, by omega, by omega⟩, ⟨by omega, by omega, by omega⟩, by omega⟩))))
  · exact ⟨by omega, by omega, by omega, by omega, fun _ => rfl⟩
  · exact Or.inr ⟨by omega, by rw [i1]; exact List.mem_cons_self⟩
  · exact Or.inr ⟨by omega, by rw [i2]; exact List.mem_cons_of_mem _ List.mem_cons_self⟩
  · rcases List.mem_cons.mp mv with v | v
    · exact Or.inl (by omega)
    · rw [List.mem_singleton.mp v]
      exact Or.inr (Or.inl ⟨by omega, by omega⟩)
  obtain ⟨rfl, V, VL, v0, v2, v5, v6, _⟩ := q
  exact H1 M0 M4 l t0 n0 t2 (n2 + 1) dp D d n2 P ⟨t2, n2 + 1, rfl, by omega, by omega, by omega, V, VL, by show 1 ≤ nA p M4 0 n2; omega, by show nA p M4 0 n2 ≤ 16; omega, v5, v6⟩ (by omega) l1 l6 hdp (by omega) hd
theorem e0c (hp : 164 < p) (he : e0 ≤ 2405) (H0 : C0 N X p s c lim gd e0 h k) (H1 : C1 N X p s c lim gd e0 h k) (H2 : C2 N X p s c lim gd e0 h k) : C0 N X p s c lim gd e0 h (k + 1) := by
  intro M l t n dp D d P l1 l7 hk hd
  have ht := P.2.2.1
  rw [g]
  refine b315_0 ⟨⟨by omega, by omega⟩, ⟨by omega, by omega⟩, fun z => ?_, fun z => ?_⟩
  · rw [if_neg (by omega)]
    refine ca_I (by omega) (H0 M (l + 1) t n dp D (d - 1) P (by omega) (by omega) (by omega) (by omega)) (fun y M1 _ q => ?_) (fun _ _ _ q => q.mo (fun z => by rw [z]; rfl) (fun _ _ z => z) fr.rf)
    obtain ⟨t1, n1, g1, q⟩ := id q
    rw [g1]
    rw [P.2.1]
    have hdp : dp ≤ 20 := by
      by_cases v : 20 < dp
      · have := (g_sg (lim := lim) (dp := dp) (gd := gd) (P.2.2.2.2.2.2.2.2.2.1 v) k (l + 1)).1
        rw [g1] at this
        cases this
      · omega
    refine H1 M M1 l t n t1 n1 dp D d y P ⟨t1, n1, rfl, q⟩ q.2.2.1 l1 (by omega) hdp ?_ hd
    have := q.1
    omega
  · rw [if_pos (by omega)]
    exact ca_I (by omega) (H2 M t n dp D (d - 1) P (by omega) (by omega)) (fun y M1 _ q => q) (fun _ _ _ q => q)
end EXPS
