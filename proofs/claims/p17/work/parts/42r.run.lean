/-! a run -/
section RUN
variable {N : Nat} {X : Nat → Int32} {d p C n m cl : Nat} {A B : Nat → Nat → Int} {nx cn ct fc fs mn : Nat → Int} {V : Nat → Nat → Prop} {S F E : Nat → Int} {T : Nat} {MA KA : Nat → Int} {Mr M M1 M2 : me_M} {nn fu st rd : Nat}
def sZ : Nat → Nat → Prop := fun b _ => b = 170
theorem zero_w {Q : me_Q} (H : RP p C n m cl A B nx cn ct fc fs mn V M) (CFH : CF B nx cn ct fc fs V m cl) (HQ : ∀ M', gx sZ no2 M M' → (∀ q, q < m → me_i M' 170 q = 0) → me_W (mt_G N X) 397 d 105 [some (.inr (.inl (some 164, 25, 0))), some (.inr (.inl (some p, 29, 0))), none, none, some (.inl (m : Int))] [] M' Q) : ∀ (f x : Nat) (M1 : me_M), m - x < f → x ≤ m → gx sZ no2 M M1 → (∀ q, q < x → me_i M1 170 q = 0) → me_W (mt_G N X) 397 d 105 [some (.inr (.inl (some 164, 25, 0))), some (.inr (.inl (some p, 29, 0))), none, none, some (.inl (x : Int))] [] M1 Q := by
  intro f
  induction f with
  | zero => intro x M1 z; omega
  | succ f ih =>
    intro x M1 hf hx g e
    have m5 := CFH.1.2
    by_cases xm : x = m
    · rw [xm] at e ⊢
      exact HQ M1 g e
    have H1 := H.gx g fun b j z => Or.inl (by have z : b = 170 := z; omega)
    refine b397_105 ?_
    rw [H1.2.1.2.1]
    refine ⟨⟨by omega, by omega⟩, ⟨by omega, by omega⟩, fun _ => by omega, fun c => ⟨by omega, by omega, ?_⟩⟩
    rw [Int.toNat_natCast]
    intro M2
    have f2 : fr (fun b j => b = 170 ∧ j = x) M1 M2 := fr_sI ⟨rfl, rfl⟩
    have v2 : me_i M2 170 x = 0 := by
      show me_i (me_sI M1 170 x (Int32.ofInt 0)) 170 x = _
      rw [me_i_sI, if_pos ⟨rfl, rfl⟩]
      rfl
    clear_value M2
    have g2 : gx sZ no2 M1 M2 := gx.of g.GA (f2.mo fun b j v => v.1) fun b j v => by have v : b = 170 := v; rw [v]; exact ok170
    refine ih (x + 1) M2 (by omega) (by omega) (g.tr g2) fun q q1 => ?_
    by_cases ex : q = x
    · rw [ex]
      exact v2
    · rw [f2.i fun v => ex v.2]
      exact e q (by omega)
theorem BA.fl {x y : Int} (I : BA p C n m cl A B nx cn ct fc fs mn V (sfl T x S) F E T MA KA Mr nn fu st rd M) : BA p C n m cl A B nx cn ct fc fs mn V (sfl T y S) F E T MA KA Mr nn fu st rd M := ⟨⟨I.1.1, I.1.2.1, fun i iT => by
  have := I.1.2.2.1 i iT
  rw [sfl.lt iT] at this ⊢
  exact this, I.1.2.2.2⟩, I.2⟩
theorem mu_le {su i : Nat} (h : T ≤ 57000) : mu S T st su i ≤ 1140077001 + su + 57000 := by
  unfold mu
  have := Nat.mul_le_mul (show T + 1 ≤ 57001 by omega) (show 20001 - st - (if S i = 16 then 1 else 0) ≤ 20001 by omega)
  omega
def eP : Nat → Nat → Prop := fun b j => rP b j ∨ zP b j ∨ aP b j ∨ sZ b j ∨ m1 41 b j
def eR : Nat → Nat → Prop := fun j a => rRun j a ∨ xR 0 j a
/-- behind a run -/
def RE (M M' : me_M) : Prop := gq eP eR M M' ∧ me_i M' 164 49 = me_i M 164 49 + 1 ∧ (0 ≤ me_i M' 164 12 ∧ me_i M' 164 12 ≤ 300) ∧ ∀ i, i < 19264 → me_i M' 190 i ≤ me_i M' 164 49
theorem c_397 {a2 l2 dh : Nat} {x3 : Int} {b s T9 : Nat → Int} {hh : Nat → Int × Nat} (CFH : CF B nx cn ct fc fs V m cl) (SF : ∀ h, STF A B b s nx cn mn T9 hh n dh C m cl h (hkn B cn h)) (Z : ∀ h, STS A B nx T9 n m h) (FBH : FB A B nx T9 n m) (MBH : MBD A B n m) (H : RP p C n m cl A B nx cn ct fc fs mn V (me_sP M 164 6 (some p))) (G : GA M) (h49 : 0 ≤ me_i M 164 49 ∧ me_i M 164 49 ≤ 2000000000) (hst : ∀ i, i < 19264 → me_i M 190 i ≤ me_i M 164 49) (ha2 : a2 < 477) (ka2 : M.2.1 a2 = (0, l2)) (hx3 : x3 ≤ l2) (rx : me_r x3) (hd : 1850 ≤ d) : me_W (mt_G N X) 397 d 0 [some (.inr (.inl (some 164, 25, 0))), some (.inr (.inl (some p, 29, 0))), some (.inr (.inl (some a2, 0, l2))), some (.inl x3), none] [] M (sx_qI (fun y M' => me_r y ∧ RE M M') nt_E) := by
  have m5 := CFH.1.2
  have c8 := CFH.1.1
  have hM := G.2.2.1
  refine beg_w H G ⟨by omega, by omega⟩ rx fun M19 hB => ?_
  obtain ⟨H19, q19, p19, w49, w18, w0⟩ := hB
  refine zero_w H19 CFH (fun M20 g20 e20 => ?_) (m + 1) 0 M19 (by omega) (by omega) (gx.rf H19.1.1) fun q z => by omega
  have H20 := H19.gx g20 fun b j z => Or.inl (by have z : b = 170 := z; omega)
  refine b397_105 ?_
  rw [H20.2.1.2.1]
  refine ⟨⟨by omega, by omega⟩, ⟨by omega, by omega⟩, fun _ => ?_, fun z => by omega⟩
  refine ca_V (by omega) (c_398 CFH SF Z FBH MBH (by omega) H20) (fun M21 _ z => ?_) nt_E_no
  obtain ⟨T, g21, H21, CO⟩ := z
  intro M4
  obtain ⟨c1, c2, c3⟩ := cell1 (M1 := M4) (j0 := 41) (x := 1) H21.1.1 rfl
  rw [me_to ⟨by decide, by decide⟩] at c3
  clear_value M4
  have H4 := H21.gx c1 fun b j z => Or.inl (by have := z.1; omega)
  have T57 := CO.1
  have ap : ∀ {b j : Nat}, ¬ (b = 164 ∧ j = 30) → ¬ (178 ≤ b ∧ b ≤ 182) → ¬ aP b j := fun h1 h2 v => v.elim h1 h2
  have k4 : ∀ j, ¬ j = 41 → ¬ j = 30 → me_i M4 164 j = me_i M19 164 j := fun j j1 j2 => (c2.i fun v => j1 v.2).trans ((g21.i4 H20.1.1 (ap (fun v => j2 v.2) (by omega))).trans (g20.i4 H19.1.1 fun v => absurd (show 164 = 170 from v) (by decide)))
  have c4 : ∀ j, (9 ≤ j ∧ j ≤ 12 ∨ j = 17 ∨ j = 23 ∨ 25 ≤ j ∧ j ≤ 28 ∨ j = 40 ∨ j = 42) → me_i M4 164 j = 0 := fun j hj => (k4 j (by omega) (by omega)).trans (w0 j hj)
  have m49 : me_i M4 164 49 = me_i M 164 49 + 1 := (k4 49 (by decide) (by decide)).trans w49
  have m190 : ∀ i, me_i M4 190 i = me_i M 190 i := fun i => (c2.i fun v => absurd v.1 (by decide)).trans ((g21.i H20.1.1 (by decide) (ok19x (Or.inl rfl)) (ap (by omega) (by omega))).trans ((g20.i H19.1.1 (by decide) (ok19x (Or.inl rfl)) fun v => absurd (show 190 = 170 from v) (by decide)).trans (q19.i G (by decide) (ok19x (Or.inl rfl)) fun v => absurd v.1 (by decide))))
  have m170 : ∀ q, q < m → me_i M4 170 q = 0 := fun q qm => (c2.i fun v => absurd v.1 (by decide)).trans ((g21.i H20.1.1 (by decide) ok170 (ap (by omega) (by omega))).trans (e20 q qm))
  have m16 : me_p M4 164 16 = some a2 := by
    have a := g21.2.2.2.1 164 16 (by have := H20.1.1.2.2.1; omega) fun v => absurd v.2 (by decide)
    have b := g20.2.2.2.1 164 16 (by have := H19.1.1.2.2.1; omega) fun v => absurd v.2 (by decide)
    exact c2.p.trans (a.trans (b.trans p19))
  have k16 : M4.2.1 a2 = (0, l2) := by
    have a := g21.2.1 a2 (by have := H20.1.1.2.2.1; omega)
    have b := g20.2.1 a2 (by have := H19.1.1.2.2.1; omega)
    have c := q19.2.1 a2 (by omega)
    have e := c1.2.1 a2 (by have := H21.1.1.2.2.1; omega)
    rw [e, a, b, c]
    exact ka2
  have m18 : me_i M4 164 18 = x3 := (k4 18 (by decide) (by decide)).trans w18
  have FIN : ∀ M', RBS M4 M' → RE M M' := fun M' R => by
    obtain ⟨r1, r2, r3⟩ := R
    refine ⟨(q19.mo (fun b j v => Or.inr (Or.inl v)) no2_mo).tr ((g20.gq.mo (fun b j v => Or.inr (Or.inr (Or.inr (Or.inl v)))) no2_mo).tr ((g21.gq.mo (fun b j v => Or.inr (Or.inr (Or.inl v))) fun j a v => Or.inr v).tr ((c1.gq.mo (fun b j v => Or.inr (Or.inr (Or.inr (Or.inr v)))) no2_mo).tr (r1.gq.mo (fun b j v => Or.inl v) fun j a v => Or.inl v)))), ?_, r2, r3⟩
    rw [r1.i4 H4.1.1 fun v => by unfold rP at v; omega]
    exact m49
  have R4 : RBS M4 M4 := ⟨gx.rf H4.1.1, by rw [c4 12 (by decide)]; exact ⟨by decide, by decide⟩, fun i i1 => by
    rw [m190, m49]
    have := hst i i1
    omega⟩
  have EV : ∀ x, EVN m cl B nx cn ct fc fs V (sfl T x (gi M21 31)) (gi M21 32) (gi M21 33) T (me_i M21 178) (me_i M21 179) := fun x => EVN.of CFH CO
  obtain ⟨l1, l2', l3⟩ := CO.2.1
  have ME : MEMO p C n m cl A B nx cn ct fc fs mn V (sfl T 0 (gi M21 31)) (gi M21 32) (gi M21 33) T (me_i M21 178) (me_i M21 179) M4 := ⟨H4, ⟨Nat.le_trans l1 (c1.2.2.2.2.1 31 g31).1, Nat.le_trans l2' (c1.2.2.2.2.1 32 g32).1, Nat.le_trans l3 (c1.2.2.2.2.1 33 g33).1⟩, fun i iT => ⟨(c1.g g31 (Nat.lt_of_lt_of_le iT l1) fun v => v).trans (sfl.lt iT).symm, c1.g g32 (Nat.lt_of_lt_of_le iT l2') fun v => v, c1.g g33 (Nat.lt_of_lt_of_le iT l3) fun v => v⟩, fun h _ => c2.i fun v => absurd v.1 (by decide), fun c _ => c2.i fun v => absurd v.1 (by decide)⟩
  have BA4 : BA p C n m cl A B nx cn ct fc fs mn V (sfl T 0 (gi M21 31)) (gi M21 32) (gi M21 33) T (me_i M21 178) (me_i M21 179) M4 0 0 0 0 M4 := by
    refine ⟨ME, R4, fun c a c1 a1 v => ?_, ⟨a2, l2, m16, ha2, k16, by rw [m18]; exact hx3⟩, ⟨Nat.zero_le _, fun v v1 v2 => by omega, fun _ => 0, fun v c o s d o' v1 v2 => by omega, fun a z => by omega⟩, fun q qm _ _ => ?_, ⟨c4 11 (by decide), c4 23 (by decide), c4 9 (by decide), c4 17 (by decide)⟩, by decide, by decide, Nat.zero_le _⟩
    · rw [m190, m49] at v
      have := hst (2408 * c + a) (by omega)
      omega
    · rw [m170 q qm]
      exact vt.zero
  obtain ⟨k, σ, H', pk, cl1⟩ := CO.st (x := 0)
  have s1 : (σ 1).1 = [] := List.eq_nil_of_length_eq_zero cl1.1.len
  have FX4 : FX B nx cn m cl (sfl T 0 (gi M21 31)) (gi M21 32) (gi M21 33) T 0 0 0 0 1 k 1 0 σ H' (-1) (-1) 0 0 0 0 0 M4 := by
    refine ⟨⟨c4 42 (by decide), c4 10 (by decide), c4 40 (by decide), c4 25 (by decide), c4 26 (by decide), c4 28 (by decide), c4 27 (by decide)⟩, ⟨by decide, Nat.zero_le _, Nat.zero_le _, fun j _ _ z => absurd z (by decide)⟩, ⟨pk, Nat.le_refl _, pk.1.1⟩, ⟨fun z => absurd z (by decide), fun h e => by omega⟩, ?_, ⟨Nat.le_refl _, fun z => absurd z (by decide), by decide, by decide, fun _ => ⟨rfl, rfl⟩, fun _ => rfl⟩, rfl⟩
    rw [s1]
    rfl
  have mb := mu_le (S := sfl T 0 (gi M21 31)) (st := 0) (su := 0) (i := 1) T57.2
  have MR4 : MR p C n m cl A B nx cn ct fc fs mn V (sfl T 0 (gi M21 31)) (gi M21 32) (gi M21 33) T (me_i M21 178) (me_i M21 179) (mu (sfl T 0 (gi M21 31)) T 0 0 1) M4 (mu (sfl T 0 (gi M21 31)) T 0 0 1) M4 := ⟨_, _, _, _, _, _, _, _, _, _, _, _, _, _, _, _, _, _, _, _, BA4, FX4, c3, rfl, by omega, by omega⟩
  refine ca_V (by omega) (acts_w (EV 0) _ _ M4 (Nat.lt_succ_self _) MR4 (by omega)) (fun M5 _ en => ?_) fun a M6 _ z => ⟨me_i_r _ _ _, FIN M6 z.2⟩
  obtain ⟨nn, fu, st, rd, hg, bs, I5, ⟨k42, k10, k40, k25, k26⟩, hl5, hhg, hrd⟩ := en
  have hg0 : hg = 0 := by
    rcases hhg with v | v
    · exact v
    · rw [sfl.at] at v
      omega
  subst hg0
  intro M8
  obtain ⟨d1, d2, d3⟩ := cell1 (M1 := M8) (j0 := 29) (x := -2) I5.GA rfl
  clear_value M8
  have I8 := I5.keep d1 (fun b j v => ⟨v.1, by have := v.2; omega⟩) fun j a v => absurd v fun v => v
  refine ca_I (by omega) (c_423 I8.1.1 CFH (by omega)) (fun y M9 _ z => ?_) nt_E_no
  obtain ⟨z1, z2⟩ := z
  rw [z1]
  refine ⟨?_, fun c => ?_, fun c => fails_w (by omega) fun M10 f => ⟨me_i_r _ _ _, FIN M10 (RBS.fail I8.2.1 f)⟩⟩
  · rcases z2 with z2 | ⟨q, z2, qm, _⟩
    · rw [z2]
      exact ⟨by decide, by decide⟩
    · exact ⟨by omega, by omega⟩
  rcases z2 with z2 | ⟨q, z2, qm, q2, q4, q9⟩
  · omega
  rw [z2]
  intro M13
  obtain ⟨e1, e2, e3⟩ := cell1 (M1 := M13) (j0 := 41) (x := 0) I8.GA rfl
  rw [me_to ⟨by decide, by decide⟩] at e3
  clear_value M13
  have I13 := (I8.keep e1 (fun b j v => ⟨v.1, by have := v.2; omega⟩) fun j a v => absurd v fun v => v).fl (y := 1)
  have j4 : ∀ j, ¬ j = 41 → ¬ j = 29 → me_i M13 164 j = me_i M5 164 j := fun j j1 j2 => (e2.i fun v => j1 v.2).trans (d2.i fun v => j2 v.2)
  have kb : ∀ (st rd lo' : Nat), st < 20000 → rd + (T + 1) * (20001 - st) ≤ mu (sfl T 0 (gi M21 31)) T 0 0 1 → rd + mu (sfl T 1 (gi M21 31)) T (st + 1) (0 + (T - 0)) lo' ≤ mu (sfl T 0 (gi M21 31)) T 0 0 1 + 60000 ∧ mu (sfl T 0 (gi M21 31)) T 0 0 1 + 60000 ≤ 2000000000 := fun st rd lo' sl h => by
    have a : (T + 1) * (20001 - (st + 1) - (if sfl T 1 (gi M21 31) lo' = 16 then 1 else 0)) ≤ (T + 1) * (20001 - (st + 1)) := Nat.mul_le_mul_left _ (by omega)
    have b : (T + 1) * (20001 - st) = (T + 1) * (20001 - (st + 1)) + (T + 1) := by
      rw [show 20001 - st = (20001 - (st + 1)) + 1 by omega, Nat.mul_add, Nat.mul_one]
    refine ⟨?_, by omega⟩
    show rd + ((T + 1) * (20001 - (st + 1) - (if sfl T 1 (gi M21 31) lo' = 16 then 1 else 0)) + (0 + (T - 0)) + (T - lo')) ≤ _
    omega
  obtain ⟨d', ed, W⟩ := enter_w (N := N) (X := X) (d := d) (q := q) (na := 0) (be := 0) (bn := 0) (pc := 0) (u := 0) (b := 0) (lb := 0) (tp := 0) (lo := 0) (k := 0) (su := 0) (ob := 0) (x3 := 0) (x4 := 0) (r := []) (K := fun M' => ∃ μ, MR p C n m cl A B nx cn ct fc fs mn V (sfl T 1 (gi M21 31)) (gi M21 32) (gi M21 33) T (me_i M21 178) (me_i M21 179) (mu (sfl T 0 (gi M21 31)) T 0 0 1 + 60000) M4 μ M') (EV 1) I13 ⟨(j4 42 (by decide) (by decide)).trans k42, (j4 10 (by decide) (by decide)).trans k10, (j4 40 (by decide) (by decide)).trans k40, (j4 25 (by decide) (by decide)).trans k25, (j4 26 (by decide) (by decide)).trans k26, rfl, rfl⟩ e3 ⟨by decide, Nat.zero_le _, Nat.zero_le _, fun j _ _ z => absurd z (by decide)⟩ (CO.z0 (t := B 8 q)) ⟨Nat.le_refl _, Nat.le_refl _⟩ ⟨fun z => absurd z (by decide), fun h e => by omega⟩ ⟨Nat.le_refl _, fun z => absurd z (by decide), by decide, by decide, fun _ => ⟨rfl, rfl⟩, fun _ => rfl⟩ rfl ⟨Or.inl rfl, trivial⟩ rfl qm q2 q9 (by decide) rfl (fun j z => absurd z (Nat.not_lt_zero j)) ⟨by decide, by decide⟩ (fun z => by omega) rfl rfl (by omega) fun M' lo' k' bs' tp' σ' H' sl IB FB' h41 => ⟨_, _, _, _, _, _, _, _, _, _, _, _, _, _, _, _, _, _, _, _, _, IB, FB', h41, rfl, kb st rd lo' sl hrd⟩
  refine ca_V (P := fun M' => ∃ μ, MR p C n m cl A B nx cn ct fc fs mn V (sfl T 1 (gi M21 31)) (gi M21 32) (gi M21 33) T (me_i M21 178) (me_i M21 179) (mu (sfl T 0 (gi M21 31)) T 0 0 1 + 60000) M4 μ M') (F := fun e M' => e = 167 ∧ RBS M4 M') (by omega) (by rw [show d - 1 = d' by omega]; exact W) (fun M14 _ z => ?_) fun a M15 _ z => ⟨me_i_r _ _ _, FIN M15 z.2⟩
  obtain ⟨μ, hμ⟩ := z
  refine ca_V (by omega) (acts_w (EV 1) _ _ M14 (Nat.lt_succ_self _) hμ (by omega)) (fun M17 _ en => ?_) fun a M18 _ z => ⟨me_i_r _ _ _, FIN M18 z.2⟩
  obtain ⟨nn, fu, st, rd, hg, bs, I17, _⟩ := en
  exact ⟨⟨by decide, by decide⟩, FIN M17 I17.2.1⟩
end RUN
