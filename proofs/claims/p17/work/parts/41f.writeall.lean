/-! writeAll -/
/-- what a method's body is -/
def MBD (A B : Nat → Nat → Int) (n m : Nat) : Prop := ∀ h, h < m → B 0 h = 2 → ∃ r lo : Nat, B 5 h = (r : Int) ∧ r < n ∧ seg A lo r ∧ A 0 r = 20 ∧ (∀ k, lo ≤ k → k ≤ r → A 10 k = h) ∧ r < lo + 601 ∧ ∀ q, SC A B h lo r q → D0 B m h q
/-- the statics' acts -/
def PS (B : Nat → Nat → Int) (nx cn : Nat → Int) (m cl : Nat) (M : me_M) (k : Nat) : Prop := FCG B nx cn m cl (gi M 31) (gi M 32) (gi M 33) (-1) 1 k ∧ gi M 31 k = 0
/-- while acts are written: methods before xm, classes before xc are done -/
def WS9 (p C n m cl : Nat) (A B : Nat → Nat → Int) (nx cn ct fc fs mn : Nat → Int) (V : Nat → Nat → Prop) (xm xc t : Nat) (M0 M1 : me_M) : Prop := WQ aP p C n m cl A B nx cn ct fc fs mn V 0 t M0 M1 ∧ (1 ≤ t ∧ gi M1 31 0 = 0) ∧ (∃ k, k < t ∧ PS B nx cn m cl M1 k) ∧ (∀ h, h < xm → B 0 h = 2 → ∃ lo k : Nat, me_i M1 178 h = (lo : Int) ∧ k < t ∧ PM B nx cn m cl (gi M1 31) (gi M1 32) (gi M1 33) h lo k) ∧ ∀ c, c < xc → ∃ lo k : Nat, me_i M1 179 c = (lo : Int) ∧ k < t ∧ PC B nx cn m cl M1 c lo k
section ALL
variable {N : Nat} {X : Nat → Int32} {d p C n m cl xm xc t t' : Nat} {A B : Nat → Nat → Int} {b s nx cn ct fc fs mn T : Nat → Int} {hh : Nat → Int × Nat} {V : Nat → Nat → Prop} {M M0 M1 M2 : me_M} {dh : Nat}
theorem ok178 : ¬ oka 178 := by unfold oka; omega
theorem ok179 : ¬ oka 179 := by unfold oka; omega
theorem gx.g1 {P : Nat → Nat → Prop} (g : gx P (xR t) M1 M2) (l : LW M1) (h30 : me_i M1 164 30 = (t : Int)) {k : Nat} (hk : k < t) : gi M2 31 k = gi M1 31 k := g.g g31 (by have := l.1; omega) fun z => by have := z.2; omega
theorem WS9.keep {P : Nat → Nat → Prop} (H : WS9 p C n m cl A B nx cn ct fc fs mn V xm xc t M0 M1) (g : gx P (xR t) M1 M2) (h178 : ∀ h, h < xm → ¬ P 178 h) (h179 : ∀ c, c < xc → ¬ P 179 c) (Q : WQ aP p C n m cl A B nx cn ct fc fs mn V 0 t' M0 M2) (ht : t ≤ t') : WS9 p C n m cl A B nx cn ct fc fs mn V xm xc t' M0 M2 := by
  obtain ⟨h1, ⟨h2, h3⟩, ⟨k0, h4, h5⟩, h6, h7⟩ := H
  have lw := h1.2.2.2.1
  have h30 := h1.2.2.1
  have G := h1.1.GA
  refine ⟨Q, ⟨by omega, (g.g1 lw h30 (by omega)).trans h3⟩, ⟨k0, by omega, h5.1.keep g (by omega) lw h30, (g.g1 lw h30 h4).trans h5.2⟩, fun h i1 i2 => ?_, fun c i1 => ?_⟩
  · obtain ⟨lo, k, a1, a2, a3⟩ := h6 h i1 i2
    exact ⟨lo, k, (g.i G (by omega) ok178 (h178 h i1)).trans a1, by omega, a3.keep g a2 lw h30⟩
  · obtain ⟨lo, k, a1, a2, a3⟩ := h7 c i1
    exact ⟨lo, k, (g.i G (by omega) ok179 (h179 c i1)).trans a1, by omega, a3.1.keep g (by omega) lw h30, (g.g1 lw h30 a2).trans a3.2⟩
/-- one fixed cell of 178 or 179 -/
theorem WQ.cell {b0 j0 : Nat} {x : Int32} (H : WQ aP p C n m cl A B nx cn ct fc fs mn V 0 t M0 M1) (hb : b0 = 178 ∨ b0 = 179) (e : M2 = me_sI M1 b0 j0 x) : gx (fun b j => b = b0 ∧ j = j0) (xR t) M1 M2 ∧ WQ aP p C n m cl A B nx cn ct fc fs mn V 0 t M0 M2 ∧ me_i M2 b0 j0 = x.toInt := by
  have ob : ¬ oka b0 := by
    rcases hb with z | z <;> rw [z]
    · exact ok178
    · exact ok179
  have f : fr (fun b j => b = b0 ∧ j = j0) M1 M2 := by
    rw [e]
    exact fr_sI ⟨rfl, rfl⟩
  have g0 : gx (fun b j => b = b0 ∧ j = j0) no2 M1 M2 := gx.of H.1.GA f fun b j z => by rw [z.1]; exact ob
  have g2 : gx aP (xR 0) M1 M2 := g0.mo (fun b j z => Or.inr (by have := z.1; omega)) no2_mo
  have el : LW M2 := by
    have := H.2.2.2.1
    rw [e]
    unfold LW at this ⊢
    rw [me_i_sI, if_neg (by omega)]
    exact this
  refine ⟨g0.mo (fun _ _ z => z) no2_mo, ⟨H.1.tr g2, H.2.1, ?_, el, H.2.2.2.2.1.gx H.1.GA g0 fun j => by omega, H.2.2.2.2.2.1.gx g0 fun b j z => Or.inl (by
    have := z.1
    omega), H.2.2.2.2.2.2⟩, ?_⟩
  · rw [f.i (by omega)]
    exact H.2.2.1
  · rw [e, me_i_sI, if_pos ⟨rfl, rfl⟩]
/-- statics -/
theorem all_91 {Q : me_Q} (CFH : CF B nx cn ct fc fs V m cl) (F : ∀ h, STF A B b s nx cn mn T hh n dh C m cl h (hkn B cn h)) (FBH : FB A B nx T n m) (hd : 16 ≤ d)
    (HQ : ∀ M2 t, WS9 p C n m cl A B nx cn ct fc fs mn V 0 0 t M0 M2 → t ≤ 5200 → me_W (mt_G N X) 398 d 180 [some (.inr (.inl (some 164, 25, 0))), some (.inr (.inl (some p, 29, 0))), some (.inl 0), none] [] M2 Q) : ∀ (f x : Nat) (M1 : me_M) (t : Nat) (L : List Nat), m - x < f → x ≤ m → WQ aP p C n m cl A B nx cn ct fc fs mn V 0 t M0 M1 → (1 ≤ t ∧ gi M1 31 0 = 0) → FCG B nx cn m cl (gi M1 31) (gi M1 32) (gi M1 33) (-1) 1 t → (L.Nodup ∧ ∀ a, a ∈ L → a < x ∧ B 0 a = 1) → t ≤ 1 + bud A n L → me_W (mt_G N X) 398 d 91 [some (.inr (.inl (some 164, 25, 0))), some (.inr (.inl (some p, 29, 0))), some (.inl (x : Int)), none] [] M1 Q := by
  obtain ⟨G, ⟨n1, n2, n3⟩, _⟩ := F 0
  intro f
  induction f with
  | zero => intro x M1 t L z; omega
  | succ f ih =>
    intro x M1 t L hf hxm H g0 Gc HL hb
    obtain ⟨h1, h2, h3, h4, h5, h6, h7⟩ := id H
    have bl := bud_le (A := A) (n := n) CFH HL.1 fun a a1 => ⟨by have := (HL.2 a a1).1; omega, Or.inl (HL.2 a a1).2⟩
    have B0 : ∀ j, me_i M1 (p + 25) j = B 0 j := fun j => h6.1.2.2.2.2.1 0 j (by omega)
    have B1 : ∀ j, me_i M1 (p + 26) j = B 1 j := fun j => h6.1.2.2.2.2.1 1 j (by omega)
    have B4 : ∀ j, me_i M1 (p + 29) j = B 4 j := fun j => h6.1.2.2.2.2.1 4 j (by omega)
    have B5 : ∀ j, me_i M1 (p + 30) j = B 5 j := fun j => h6.1.2.2.2.2.1 5 j (by omega)
    have nx1 : (x : Int) + 1 = ((x + 1 : Nat) : Int) := by omega
    have skip : x < m → me_W (mt_G N X) 398 d 91 [some (.inr (.inl (some 164, 25, 0))), some (.inr (.inl (some p, 29, 0))), some (.inl ((x : Int) + 1)), none] [] M1 Q := fun x1 => by
      rw [nx1]
      exact ih (x + 1) M1 t L (by omega) (by omega) H g0 Gc ⟨HL.1, fun a a1 => ⟨by have := (HL.2 a a1).1; omega, (HL.2 a a1).2⟩⟩ hb
    refine b398_91 (dr_s ?_)
    rw [h6.2.1.2.1]
    refine ⟨⟨by omega, by omega⟩, ⟨by omega, by omega⟩, fun z => ?_, fun z => dr_s ⟨by omega, by omega, ?_⟩⟩
    · refine ca_I (by omega) (c_399 h1.GA h3 (by omega) ⟨by omega, by omega⟩ ⟨by omega, by omega⟩ (by omega)) (fun y M2 _ q => ?_) nt_E_no
      have q := q.2
      rw [me_to ⟨by omega, by omega⟩] at q
      have g := q.1.mo (P' := aP) (R' := xR t) (fun b j z => Or.inl z) fun j i z => ⟨z.1, by have := z.2; omega⟩
      exact HQ M2 (t + 1) ⟨H.w1 q, ⟨by omega, (g.g1 h4 h3 (by omega)).trans g0.2⟩, ⟨t, by omega, Gc.keep g (Nat.le_refl _) h4 h3, q.2.2.1⟩, fun h i1 => by omega, fun c i1 => by omega⟩ (by omega)
    have xm : x < m := by omega
    have nl : ¬ x ∈ L := fun z => by have := (HL.2 x z).1; omega
    simp only [Int.toNat_natCast, B0, dr_eq, B4, B5, B1]
    have r0 : me_r (B 0 x) := h6.1.rB (by omega)
    refine ⟨r0, ⟨by omega, by omega⟩, fun _ => skip xm, fun z1 => ⟨by omega, by omega, fun z4 => ⟨⟨by omega, by omega⟩, fun _ => skip xm, fun w4 => ⟨by omega, by omega, h6.1.rB (by omega), fun _ => skip xm, fun z5 => ⟨by omega, by omega, ?_⟩⟩⟩⟩⟩
    obtain ⟨r', lo, e1, e2, e3, e4, e5, e6, e7, e8⟩ := FBH x xm z1 z5
    obtain ⟨k0, k1⟩ := h6.2.2.2.1 x xm
    obtain ⟨v1, v2, v3, v4, v5⟩ := h6.1.2.2.2.2.2.2.2.2 (B 1 x).toNat (by omega)
    have size : r' + 1 - lo ≤ cnt A x n := cnt_seg e5 n e2
    refine ca_I (by omega) (c_294 (by omega) (by omega)) (fun y M8 _ g => ?_) nt_E_no
    obtain ⟨rfl, rfl⟩ := g
    have i4 : me_i M8 (p + 12) (B 1 x).toNat = kA p M8 4 (B 1 x).toNat := rfl
    have i2 : me_i M8 (p + 10) (B 1 x).toNat = kA p M8 2 (B 1 x).toNat := rfl
    rw [i4, i2]
    have nL : (x :: L).Nodup := List.nodup_cons.mpr ⟨nl, HL.1⟩
    have HL' : ∀ a, a ∈ x :: L → a < x + 1 ∧ B 0 a = 1 := fun a a1 => by
      rcases List.mem_cons.mp a1 with z | z
      · rw [z]
        exact ⟨by omega, z1⟩
      · exact ⟨by have := (HL.2 a z).1; omega, (HL.2 a z).2⟩
    have bl' := bud_le (A := A) (n := n) CFH nL fun a a1 => ⟨by have := (HL' a a1).1; omega, Or.inl (HL' a a1).2⟩
    have be : bud A n (x :: L) = 2 * cnt A x n + 2 + bud A n L := rfl
    refine fld_w h6 CFH (F x) xm z1 e1 e2 e3 e4 e5 e6 e7 h3 h4 h5 (by omega) (Or.inl ⟨rfl, by omega⟩) ⟨by omega, by omega⟩ (by omega) fun M2 t2 K => ?_
    rw [nx1]
    have k2 := K.2.1
    exact ih (x + 1) M2 t2 (x :: L) (by omega) (by omega) (H.sw K) ⟨by omega, ((K.1.mo (P' := aP) (R' := xR t) xP_aP fun _ _ z => z).g1 h4 h3 (by omega)).trans g0.2⟩ (FCG.add CFH H Gc xm z1 (fun v => by omega) (by omega) K) ⟨nL, HL'⟩ (by omega)
/-- methods -/
def bu4 (A : Nat → Nat → Int) (n : Nat) (L : List Nat) : Nat := lsum (fun a => 4 * cnt A a n + 2) L
theorem bu4_le {L : List Nat} (CFH : CF B nx cn ct fc fs V m cl) (hL : L.Nodup) (h : ∀ a, a ∈ L → a < m ∧ (B 0 a = 1 ∨ B 0 a = 2)) : bu4 A n L ≤ 4 * n + 384 := by
  have a := cnt_all (A := A) hL n
  have b := bud_le (A := A) (n := n) CFH hL h
  have e : bu4 A n L = bud A n L + (lsum (fun d => cnt A d n) L + lsum (fun d => cnt A d n) L) := by
    unfold bu4 bud
    rw [← lsum_add, ← lsum_add]
    congr 1
    funext d
    omega
  omega
theorem all_180 {Q : me_Q} (CFH : CF B nx cn ct fc fs V m cl) (F : ∀ h, STF A B b s nx cn mn T hh n dh C m cl h (hkn B cn h)) (Z : ∀ h, STS A B nx T n m h) (MBH : MBD A B n m) (hd : 1840 ≤ d)
    (HQ : ∀ M2 t, WS9 p C n m cl A B nx cn ct fc fs mn V m 0 t M0 M2 → t ≤ 15300 → me_W (mt_G N X) 398 d 243 [some (.inr (.inl (some 164, 25, 0))), some (.inr (.inl (some p, 29, 0))), some (.inl 0), none] [] M2 Q) : ∀ (f x : Nat) (M1 : me_M) (t : Nat) (L : List Nat), m - x < f → x ≤ m → WS9 p C n m cl A B nx cn ct fc fs mn V x 0 t M0 M1 → (L.Nodup ∧ ∀ a, a ∈ L → a < x ∧ B 0 a = 2) → t ≤ 5200 + bu4 A n L → me_W (mt_G N X) 398 d 180 [some (.inr (.inl (some 164, 25, 0))), some (.inr (.inl (some p, 29, 0))), some (.inl (x : Int)), none] [] M1 Q := by
  obtain ⟨G, ⟨n1, n2, n3⟩, _⟩ := F 0
  intro f
  induction f with
  | zero => intro x M1 t L z; omega
  | succ f ih =>
    intro x M1 t L hf hxm W HL hb
    have H := W.1
    obtain ⟨h1, h2, h3, h4, h5, h6, h7⟩ := id H
    have bl := bu4_le (A := A) (n := n) CFH HL.1 fun a a1 => ⟨by have := (HL.2 a a1).1; omega, Or.inr (HL.2 a a1).2⟩
    have nx1 : (x : Int) + 1 = ((x + 1 : Nat) : Int) := by omega
    have r0 : me_r (B 0 x) := h6.1.rB (by omega)
    refine b398_180 (dr_s ?_)
    rw [h6.2.1.2.1]
    refine ⟨⟨by omega, by omega⟩, ⟨by omega, by omega⟩, fun z => ?_, fun z => dr_s ⟨by omega, by omega, ?_⟩⟩
    · have : x = m := by omega
      rw [this] at W
      exact HQ M1 t W (by omega)
    have xm : x < m := by omega
    rw [Int.toNat_natCast, show me_i M1 (p + 25) x = B 0 x from h6.1.2.2.2.2.1 0 x (by omega)]
    refine ⟨r0, ⟨by omega, by omega⟩, fun z2 => ?_, fun z2 => ⟨by omega, by omega, ?_⟩⟩
    · rw [nx1]
      refine ih (x + 1) M1 t L (by omega) (by omega) ⟨W.1, W.2.1, W.2.2.1, fun h i1 i2 => ?_, W.2.2.2.2⟩ ⟨HL.1, fun a a1 => ⟨by have := (HL.2 a a1).1; omega, (HL.2 a a1).2⟩⟩ hb
      by_cases e : h = x
      · rw [e] at i2
        omega
      · exact W.2.2.2.1 h (by omega) i2
    intro M3
    obtain ⟨g3, H3, v3⟩ := H.cell (M2 := M3) (b0 := 178) (j0 := x) (x := Int32.ofInt (me_i M1 164 30)) (Or.inl rfl) rfl
    rw [h3, me_to ⟨by omega, by omega⟩] at v3
    have W3 := W.keep g3 (fun h i1 z => by omega) (fun c i1 => by omega) H3 (Nat.le_refl _)
    clear_value M3
    obtain ⟨r', lo, e1, e2, e3, e4, e5, e6, e7⟩ := MBH x xm z2
    have size : r' + 1 - lo ≤ cnt A x n := cnt_seg e5 n e2
    have nl : ¬ x ∈ L := fun z => by have := (HL.2 x z).1; omega
    have nL : (x :: L).Nodup := List.nodup_cons.mpr ⟨nl, HL.1⟩
    have HL' : ∀ a, a ∈ x :: L → a < x + 1 ∧ B 0 a = 2 := fun a a1 => by
      rcases List.mem_cons.mp a1 with z | z
      · rw [z]
        exact ⟨by omega, z2⟩
      · exact ⟨by have := (HL.2 a z).1; omega, (HL.2 a z).2⟩
    have bl' := bu4_le (A := A) (n := n) CFH nL fun a a1 => ⟨by have := (HL' a a1).1; omega, Or.inr (HL' a a1).2⟩
    have be : bu4 A n (x :: L) = 4 * cnt A x n + 2 + bu4 A n L := rfl
    have sl := e3.1
    refine dr_s ⟨by omega, by omega, ?_⟩
    have b5 : me_i M3 (p + 30) x = (r' : Int) := (H3.2.2.2.2.2.1.1.2.2.2.2.1 5 x (by omega)).trans e1
    rw [b5]
    refine ca_V (by omega) (c_403 (p := p) (Z x) (F x) (r' - lo + 1) lo r' (D0 B m x) M3 t (d - 1) (by omega) e3 e2 (by omega) e5 e7 H3.2.2.2.2.2.1.1 H3.2.2.1 H3.2.2.2.1 H3.2.2.2.2.1 (by omega) (by omega)) (fun M5 _ q => ?_) nt_E_no
    obtain ⟨t5, K5⟩ := q
    have k5 := K5.2.1
    have ty := (CFH.2.2.2.2.2.2.2.1 x xm).2.2 (by omega)
    unfold ty_v at ty
    refine act_w (z := ([if 10 ≤ B 8 x then 2 else B 8 x], LD A (D0 B m x) r')) K5 (by omega) ⟨by omega, by omega⟩ ⟨by omega, by omega⟩ ⟨by omega, by omega⟩ (Or.inl ⟨rfl, rfl, _, rfl, ?_⟩) (by omega) fun M8 K8 => ?_
    · by_cases c : 10 ≤ B 8 x
      · rw [if_pos c]
        exact Or.inr (Or.inr (Or.inr ⟨rfl, rfl⟩))
      · rw [if_neg c]
        omega
    have k8 := K8.2.1
    have H8 := H3.sw K8
    refine ca_I (by omega) (c_399 H8.1.GA H8.2.2.1 (by omega) ⟨by omega, by omega⟩ ⟨by omega, by omega⟩ (by omega)) (fun y M12 _ q => ?_) nt_E_no
    have q := q.2
    rw [me_to ⟨by omega, by omega⟩] at q
    have g12 := q.1.mo (P' := wP) (R' := xR (t5 + 1)) (fun b j z => z) fun j i z => ⟨z.1, by have := z.2; omega⟩
    have l8 := H8.2.2.2.1
    have g8 := K8.1.mo (P' := xP A lo (r' + 1)) (R' := xR t) (fun _ _ z => z) fun _ _ z => z
    have W8 := W3.keep g8 (fun h _ z => by have := xP_2 _ _ z; omega) (fun c i1 => by omega) H8 (by omega)
    have W12 := W8.keep g12 (fun h _ z => by have := z.1; omega) (fun c i1 => by omega) (H8.w1 q) (by omega)
    rw [nx1]
    refine ih (x + 1) M12 (t5 + 1 + 1) (x :: L) (by omega) (by omega) ⟨W12.1, W12.2.1, W12.2.2.1, fun h i1 i2 => ?_, W12.2.2.2.2⟩ ⟨nL, HL'⟩ (by omega)
    by_cases e : h = x
    · rw [e]
      refine ⟨t, t5 + 1, ?_, by omega, PM.of (K8.2.2.1.keep g12 ⟨by have := l8.1; have := H8.2.2.1; omega, by have := l8.2.1; have := H8.2.2.1; omega, by have := l8.2.2; have := H8.2.2.1; omega⟩) (by omega) q.2.2.1 ?_⟩
      · exact (g12.i H8.1.GA (by omega) ok178 fun z => by have := z.1; omega).trans ((g8.i H3.1.GA (by omega) ok178 fun z => by have := xP_2 _ _ z; omega).trans v3)
      · by_cases c : 10 ≤ B 8 x
        · rw [if_pos c]
          exact Or.inr ⟨c, Or.inl rfl⟩
        · rw [if_neg c]
          exact Or.inl rfl
    · exact W12.2.2.2.1 h (by omega) i2
/-- makings -/
theorem all_243 {Q : me_Q} (CFH : CF B nx cn ct fc fs V m cl) (F : ∀ h, STF A B b s nx cn mn T hh n dh C m cl h (hkn B cn h)) (FBH : FB A B nx T n m) (hd : 20 ≤ d) (HQ : ∀ M2 t, WS9 p C n m cl A B nx cn ct fc fs mn V m cl t M0 M2 → t ≤ 57000 → Q (.inr none) M2) : ∀ (f x : Nat) (M1 : me_M) (t : Nat), cl - x < f → x ≤ cl → WS9 p C n m cl A B nx cn ct fc fs mn V m x t M0 M1 → t ≤ 15300 + 5195 * x → me_W (mt_G N X) 398 d 243 [some (.inr (.inl (some 164, 25, 0))), some (.inr (.inl (some p, 29, 0))), some (.inl (x : Int)), none] [] M1 Q := by
  have c8 := CFH.1.1
  intro f
  induction f with
  | zero => intro x M1 t z; omega
  | succ f ih =>
    intro x M1 t hf hxm W hb
    have H := W.1
    obtain ⟨h1, h2, h3, h4, h5, h6, h7⟩ := id H
    refine b398_243 (dr_s ?_)
    rw [h6.2.1.2.2]
    refine ⟨⟨by omega, by omega⟩, ⟨by omega, by omega⟩, fun z => ?_, fun z => ⟨by omega, by omega, ?_⟩⟩
    · have : x = cl := by omega
      rw [this] at W
      exact HQ M1 t W (by omega)
    intro M2
    obtain ⟨g2, H2, v2⟩ := H.cell (M2 := M2) (b0 := 179) (j0 := x) (x := Int32.ofInt (me_i M1 164 30)) (Or.inr rfl) rfl
    rw [h3, me_to ⟨by omega, by omega⟩] at v2
    have W2 := W.keep g2 (fun h i1 z => by omega) (fun c i1 z => by omega) H2 (Nat.le_refl _)
    clear_value M2
    have H2' : WQ aQ p C n m cl A B nx cn ct fc fs mn V t t M2 M2 := ⟨gx.rf H2.1.GA, Nat.le_refl _, H2.2.2.1, H2.2.2.2.1, H2.2.2.2.2.1, H2.2.2.2.2.2.1, fun b j z => z⟩
    refine ca_V (by omega) (c_405 CFH F FBH (by omega) (show x < cl by omega) (by omega) H2') (fun M3 _ q => ?_) nt_E_no
    obtain ⟨k, k1, k2, H3, G3⟩ := q
    have aQa : ∀ b j, aQ b j → aP b j := fun b j z => z.imp id fun z => by omega
    have H3' : WQ aP p C n m cl A B nx cn ct fc fs mn V 0 (k + 1) M0 M3 := ⟨H2.1.tr (H3.1.mo aQa (xR_mo (Nat.zero_le _))), Nat.zero_le _, H3.2.2.1, H3.2.2.2.1, H3.2.2.2.2.1, H3.2.2.2.2.2.1, aQa⟩
    have no : ∀ b j, (b = 178 ∨ b = 179) → ¬ aQ b j := fun b j h z => by
      rcases z with z | z
      · have := z.1
        omega
      · omega
    have W3 := W2.keep H3.1 (fun h _ => no _ _ (Or.inl rfl)) (fun c _ => no _ _ (Or.inr rfl)) H3' (by omega)
    rw [show (x : Int) + 1 = ((x + 1 : Nat) : Int) by omega]
    refine ih (x + 1) M3 (k + 1) (by omega) (by omega) ⟨W3.1, W3.2.1, W3.2.2.1, W3.2.2.2.1, fun c c1 => ?_⟩ (by omega)
    by_cases e : c = x
    · rw [e]
      exact ⟨t, k, (H3.1.i H2.1.GA (by omega) ok179 (no _ _ (Or.inr rfl))).trans v2, by omega, G3⟩
    · exact W3.2.2.2.2 c (by omega)
/-- all acts of a program -/
def COD (B : Nat → Nat → Int) (nx cn : Nat → Int) (m cl : Nat) (T : Nat) (M : me_M) : Prop := (1 ≤ T ∧ T ≤ 57000) ∧ (T ≤ gL M 31 ∧ T ≤ gL M 32 ∧ T ≤ gL M 33) ∧ gi M 31 0 = 0 ∧ (∃ k, k < T ∧ PS B nx cn m cl M k) ∧ (∀ h, h < m → B 0 h = 2 → ∃ lo k : Nat, me_i M 178 h = (lo : Int) ∧ k < T ∧ PM B nx cn m cl (gi M 31) (gi M 32) (gi M 33) h lo k) ∧ ∀ c, c < cl → ∃ lo k : Nat, me_i M 179 c = (lo : Int) ∧ k < T ∧ PC B nx cn m cl M c lo k
theorem c_398 (CFH : CF B nx cn ct fc fs V m cl) (F : ∀ h, STF A B b s nx cn mn T hh n dh C m cl h (hkn B cn h)) (Z : ∀ h, STS A B nx T n m h) (FBH : FB A B nx T n m) (MBH : MBD A B n m) (hd : 1840 ≤ d) (H : RP p C n m cl A B nx cn ct fc fs mn V M) : me_W (mt_G N X) 398 d 0 [some (.inr (.inl (some 164, 25, 0))), none, none, none] [] M (sx_qV (fun M' => ∃ T, gx aP (xR 0) M M' ∧ RP p C n m cl A B nx cn ct fc fs mn V M' ∧ COD B nx cn m cl T M') nt_E) := by
  obtain ⟨G, ⟨n1, n2, n3⟩, _⟩ := F 0
  have l1a : ∀ b j, l1P b j → aP b j := fun b j z => Or.inr (by have z : b = 181 := z; omega)
  refine b398_0 ?_
  rw [H.1.2.1]
  refine lst_7 H n1 (fun M1 g1 e1 => ?_) (n + 1) 0 M (by omega) (by omega) (gx.rf H.1.1) fun k z => by omega
  have L1 : LI A n M1 0 := ⟨fun k k1 => by
    rw [e1 k k1]
    exact ⟨by omega, fun lo S => by have := S.1; omega⟩, fun j z => by omega⟩
  refine lst_30 H n1 (by omega) G (fun M2 g2 ls => ?_) (n + 1) 0 M1 (by omega) (by omega) g1 L1
  have H2 := H.gx g2 fun b j z => Or.inl (by have z : b = 181 := z; omega)
  refine b398_30 (dr_s ?_)
  rw [H2.2.1.1]
  refine ⟨⟨by omega, by omega⟩, ⟨by omega, by omega⟩, fun _ => ?_, fun z => by omega⟩
  intro M3
  have f3 : fr wP M2 M3 := fr_sI ⟨rfl, rfl⟩
  have g3 : gx wP no2 M2 M3 := gx.of g2.GA f3 fun b j z => by rw [z.1]; exact ok164
  have e3 : me_i M3 164 30 = ((0 : Nat) : Int) := by
    show me_i (me_sI M2 164 30 (Int32.ofInt 0)) 164 30 = _
    rw [me_i_sI, if_pos ⟨rfl, rfl⟩]
    rfl
  clear_value M3
  have H3 := H2.gx g3 fun b j z => Or.inl (by have := z.1; omega)
  have ls3 := ls.gx g2.GA g3 fun j z => by have := z.1; omega
  refine ca_I (by omega) (c_399 g3.GA e3 (by omega) ⟨by omega, by omega⟩ ⟨by omega, by omega⟩ (by omega)) (fun y M4 _ q => ?_) nt_E_no
  have q := q.2
  rw [me_to ⟨by omega, by omega⟩] at q
  have H4 : WQ aP p C n m cl A B nx cn ct fc fs mn V 0 1 M M4 := ⟨(g2.mo l1a no2_mo).tr ((g3.mo (fun b j z => Or.inl z) no2_mo).tr (q.1.mo (fun b j z => Or.inl z) fun j i z => ⟨z.1, Nat.zero_le _⟩)), Nat.zero_le _, q.2.1, q.lw, ls3.gx g3.GA q.1 fun j z => by have := z.1; omega, H3.gx q.1 fun b j z => Or.inl (by have := z.1; omega), fun b j z => z.imp id fun z => by omega⟩
  refine all_91 CFH F FBH (by omega) (fun M5 t5 W5 b5 => ?_) (m + 1) 0 M4 1 [] (by omega) (by omega) H4 ⟨Nat.le_refl _, q.2.2.1⟩ FCG.nil ⟨List.nodup_nil, fun a a1 => by cases a1⟩ (Nat.le_add_right _ _)
  refine all_180 CFH F Z MBH hd (fun M6 t6 W6 b6 => ?_) (m + 1) 0 M5 t5 [] (by omega) (by omega) W5 ⟨List.nodup_nil, fun a a1 => by cases a1⟩ (by omega)
  refine all_243 CFH F FBH (by omega) (fun M7 t7 W7 b7 => ?_) (cl + 1) 0 M6 t6 (by omega) (by omega) W6 (by omega)
  have l7 := W7.1.2.2.2.1
  have e7 := W7.1.2.2.1
  exact ⟨t7, W7.1.1, W7.1.2.2.2.2.2.1, ⟨W7.2.1.1, b7⟩, ⟨by have := l7.1; omega, by have := l7.2.1; omega, by have := l7.2.2; omega⟩, W7.2.1.2, W7.2.2.1, W7.2.2.2.1, W7.2.2.2.2⟩
end ALL
