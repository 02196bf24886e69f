/-! writeMaking -/
/-- where writeMaking changes cells -/
def aQ : Nat → Nat → Prop := fun b j => wP b j ∨ 180 ≤ b ∧ b ≤ 182
theorem xP_aQ {A : Nat → Nat → Int} {lo hi : Nat} : ∀ b j, xP A lo hi b j → aQ b j := fun b j z => z.imp id fun z => by
  have := z.1
  omega
/-- writing stands at t: what was written since M0, from t0 on -/
def WQ (Pw : Nat → Nat → Prop) (p C n m cl : Nat) (A B : Nat → Nat → Int) (nx cn ct fc fs mn : Nat → Int) (V : Nat → Nat → Prop) (t0 t : Nat) (M0 M1 : me_M) : Prop := gx Pw (xR t0) M0 M1 ∧ t0 ≤ t ∧ me_i M1 164 30 = (t : Int) ∧ LW M1 ∧ LSA A n M1 ∧ RP p C n m cl A B nx cn ct fc fs mn V M1 ∧ ∀ b j, aQ b j → Pw b j
/-- what a field's body is -/
def FB (A B : Nat → Nat → Int) (nx T : Nat → Int) (n m : Nat) : Prop := ∀ q, q < m → B 0 q = 1 → 0 ≤ B 5 q → ∃ r lo : Nat, B 5 q = (r : Int) ∧ r < n ∧ seg A lo r ∧ (1 ≤ A 0 r ∧ A 0 r ≤ 16) ∧ (∀ k, lo ≤ k → k ≤ r → A 10 k = q) ∧ A 8 r = -1 ∧ fit nx (T r) (B 8 q) ∧ r < lo + 601
section MAKING
variable {N : Nat} {X : Nat → Int32} {d p C n m cl q r lo t t0 c i w x : Nat} {A B : Nat → Nat → Int} {b s nx cn ct fc fs mn T : Nat → Int} {hh : Nat → Int × Nat} {V : Nat → Nat → Prop} {M M0 M1 M2 : me_M} {dh : Nat} {Pw : Nat → Nat → Prop}
theorem CF.own_is (H : CF B nx cn ct fc fs V m cl) {q o : Nat} (hq : q < m) (hs : B 0 q = 1 ∨ B 0 q = 2) (ho : o < q) (h0 : B 0 o = 0) (hn : ∀ j, o < j → j ≤ q → ¬ B 0 j = 0) : B 3 q = (o : Int) := by
  obtain ⟨o', h1, h2, h3, h4⟩ := H.2.2.2.2.2.1 q hq hs
  rcases Nat.lt_trichotomy o o' with z | z | z
  · exact absurd h3 (hn o' z (by omega))
  · omega
  · exact absurd h0 (h4 o z (by omega))
theorem WQ.sw (H : WQ Pw p C n m cl A B nx cn ct fc fs mn V t0 t M0 M1) {h hc u lo hi t2 : Nat} {y z : cx} (K : SW p C n mn B nx cn m cl h hc A u lo hi t M1 t2 M2 y z) : WQ Pw p C n m cl A B nx cn ct fc fs mn V t0 t2 M0 M2 := by
  obtain ⟨h1, h2, h3, h4, h5, h6, h7⟩ := H
  obtain ⟨k1, k2, k3, k4, k5, k6, k7⟩ := K
  exact ⟨h1.tr (k1.mo (fun b j z => h7 b j (xP_aQ b j z)) (xR_mo h2)), by omega, k5, k4, k7, h6.gx k1 fun b j z => Or.inl (by
    have := xP_2 _ _ z
    omega), h7⟩
theorem WQ.w1 (H : WQ Pw p C n m cl A B nx cn ct fc fs mn V t0 t M0 M1) {s f e : Int} (w : W1 M1 M2 t s f e) : WQ Pw p C n m cl A B nx cn ct fc fs mn V t0 (t + 1) M0 M2 := by
  obtain ⟨h1, h2, h3, h4, h5, h6, h7⟩ := H
  have lw := w.lw
  obtain ⟨w1, w2, _⟩ := w
  have g := w1.mo (P' := Pw) (R' := xR t0) (fun b j z => h7 b j (Or.inl z)) fun j i z => ⟨z.1, by have := z.2; omega⟩
  have g5 := h5.gx h1.GA w1 fun j z => by
    have := z.1
    omega
  exact ⟨h1.tr g, by omega, by omega, lw, g5, h6.gx w1 fun b j z => Or.inl (by have := z.1; omega), h7⟩
/-- acts that stand stay, while others are written behind them -/
theorem FCG.keep {z : Int} {P : Nat → Nat → Prop} {lo hi : Nat} (H : FCG B nx cn m cl (gi M1 31) (gi M1 32) (gi M1 33) z lo hi) (g : gx P (xR t) M1 M2) (ht : hi ≤ t) (l : LW M1) (h30 : me_i M1 164 30 = (t : Int)) : FCG B nx cn m cl (gi M2 31) (gi M2 32) (gi M2 33) z lo hi := by
  obtain ⟨l1, l2, l3⟩ := l
  have nn : ∀ (j a : Nat), a < t → ¬ xR t j a := fun j a a1 z => by
    have := z.2
    omega
  exact H.eq fun j j1 j2 => ⟨g.g g31 (by omega) (nn 31 j (by omega)), g.g g32 (by omega) (nn 32 j (by omega)), g.g g33 (by omega) (nn 33 j (by omega))⟩
theorem PM.keep {P : Nat → Nat → Prop} {h lo k : Nat} (H : PM B nx cn m cl (gi M1 31) (gi M1 32) (gi M1 33) h lo k) (g : gx P (xR t) M1 M2) (ht : k < t) (l : LW M1) (h30 : me_i M1 164 30 = (t : Int)) : PM B nx cn m cl (gi M2 31) (gi M2 32) (gi M2 33) h lo k := by
  obtain ⟨l1, l2, l3⟩ := l
  have nn : ∀ (j a : Nat), a < t → ¬ xR t j a := fun j a a1 z => by
    have := z.2
    omega
  exact H.eq fun j j1 j2 => ⟨g.g g31 (by omega) (nn 31 j (by omega)), g.g g32 (by omega) (nn 32 j (by omega)), g.g g33 (by omega) (nn 33 j (by omega))⟩
/-- a field's acts, as a piece -/
theorem FCG.add {z : Int} {t2 : Nat} (CFH : CF B nx cn ct fc fs V m cl) (H : WQ Pw p C n m cl A B nx cn ct fc fs mn V t0 t M0 M1) {l0 lo r : Nat} (G : FCG B nx cn m cl (gi M1 31) (gi M1 32) (gi M1 33) z l0 t) (hq : q < m) (q1 : B 0 q = 1) (hz : B 4 q = 0 → up nx z (hkn B cn q)) (hs : r + 1 - lo ≤ 601) (K : SW p C n mn B nx cn m cl q (hkn B cn q) A (2 * (r + 1 - lo) + 2) lo (r + 1) t M1 t2 M2 ([], Dm m) ([], Dm m)) : FCG B nx cn m cl (gi M2 31) (gi M2 32) (gi M2 33) z l0 t2 := by
  have g := K.1.mo (P' := aP) (R' := xR t) xP_aP fun _ _ z => z
  have k2 := K.2.1
  exact (G.keep g (Nat.le_refl _) H.2.2.2.1 H.2.2.1).seq (FCG.of CFH hq q1 hz K.2.2.1 (fun q z => z) (by omega))
/-- the fields that were written, in an object of class c -/
def ML (B : Nat → Nat → Int) (nx ct : Nat → Int) (m c i x : Nat) (L : List Nat) : Prop := L.Nodup ∧ ∀ a, a ∈ L → (a < m ∧ B 0 a = 1) ∧ ∃ u, it nx u (c : Int) ≥ 0 ∧ ct (it nx u (c : Int)).toNat = B 3 a ∧ (i < u ∨ u = i ∧ a < x)
/-- the budget -/
def bud (A : Nat → Nat → Int) (n : Nat) (L : List Nat) : Nat := lsum (fun a => 2 * cnt A a n + 2) L
theorem bud_le {L : List Nat} (CFH : CF B nx cn ct fc fs V m cl) (hL : L.Nodup) (h : ∀ a, a ∈ L → a < m ∧ (B 0 a = 1 ∨ B 0 a = 2)) : bud A n L ≤ 2 * n + 384 := by
  have a := cnt_all (A := A) hL n
  have b := mem_len hL h
  have c := CFH.2.2.2.2.2.2.2.2.2.2.2.1
  have e : bud A n L = (lsum (fun d => cnt A d n) L + lsum (fun d => cnt A d n) L) + (lsum (fun _ => 1) L + lsum (fun _ => 1) L) := by
    unfold bud
    rw [← lsum_add, ← lsum_add, ← lsum_add]
    congr 1
    funext d
    omega
  rw [lsum_one] at e
  omega
/-- writeMaking, behind the piece t0 .. t -/
def MS (Pw : Nat → Nat → Prop) (p C n m cl : Nat) (A B : Nat → Nat → Int) (nx cn ct fc fs mn : Nat → Int) (V : Nat → Nat → Prop) (r c i x t0 : Nat) (M0 M1 : me_M) : Prop := ∃ t L, WQ Pw p C n m cl A B nx cn ct fc fs mn V t0 t M0 M1 ∧ FCG B nx cn m cl (gi M1 31) (gi M1 32) (gi M1 33) (c : Int) t0 t ∧ ML B nx ct m c i x L ∧ t ≤ t0 + bud A n L ∧ ∀ u, u < r → me_i M1 180 u = it nx u (c : Int)
theorem mk_64 {Q : me_Q} (CFH : CF B nx cn ct fc fs V m cl) (F : ∀ h, STF A B b s nx cn mn T hh n dh C m cl h (hkn B cn h)) (FBH : FB A B nx T n m) (hd : 16 ≤ d) (hc : c < cl) (hr : ∀ u, u < r → 0 ≤ it nx u (c : Int)) (hr8 : r ≤ 8) (hi : i < r) (ht : t0 ≤ 54000) (hw : ct (it nx i (c : Int)).toNat = (w : Int)) (wm : w < m) (w0 : B 0 w = 0)
    (HQ : ∀ M2, MS Pw p C n m cl A B nx cn ct fc fs mn V r c i m t0 M0 M2 → me_W (mt_G N X) 405 d 43 [some (.inr (.inl (some 164, 25, 0))), none, some (.inr (.inl (some p, 29, 0))), none, some (.inl ((i : Int) - 1)), none] [] M2 Q) : ∀ (f x : Nat) (M1 : me_M), m - x < f → w < x → x ≤ m → (∀ j, w < j → j < x → ¬ B 0 j = 0) → MS Pw p C n m cl A B nx cn ct fc fs mn V r c i x t0 M0 M1 → me_W (mt_G N X) 405 d 64 [some (.inr (.inl (some 164, 25, 0))), none, some (.inr (.inl (some p, 29, 0))), none, some (.inl (i : Int)), some (.inl (x : Int))] [] M1 Q := by
  obtain ⟨G, ⟨n1, n2, n3⟩, _⟩ := F 0
  intro f
  induction f with
  | zero => intro x M1 z; omega
  | succ f ih =>
    intro x M1 hf hx hxm hcl S
    obtain ⟨t, L, H, Gc, HL, hb, hab⟩ := id S
    obtain ⟨h1, h2, h3, h4, h5, h6, h7⟩ := id H
    have bl := bud_le (A := A) (n := n) CFH HL.1 fun a a1 => ⟨(HL.2 a a1).1.1, Or.inl (HL.2 a a1).1.2⟩
    have B0 : ∀ j, me_i M1 (p + 25) j = B 0 j := fun j => h6.1.2.2.2.2.1 0 j (by omega)
    have B1 : ∀ j, me_i M1 (p + 26) j = B 1 j := fun j => h6.1.2.2.2.2.1 1 j (by omega)
    have B4 : ∀ j, me_i M1 (p + 29) j = B 4 j := fun j => h6.1.2.2.2.2.1 4 j (by omega)
    have B5 : ∀ j, me_i M1 (p + 30) j = B 5 j := fun j => h6.1.2.2.2.2.1 5 j (by omega)
    -- the whole class was gone through
    have fin : (x = m ∨ B 0 x = 0) → MS Pw p C n m cl A B nx cn ct fc fs mn V r c i m t0 M0 M1 := fun _ => ⟨t, L, H, Gc, ⟨HL.1, fun a a1 => ⟨(HL.2 a a1).1, by
      obtain ⟨u, u1, u2, u3⟩ := (HL.2 a a1).2
      exact ⟨u, u1, u2, u3.imp id fun z => ⟨z.1, (HL.2 a a1).1.1⟩⟩⟩⟩, hb, hab⟩
    have skip : x < m → ¬ B 0 x = 0 → me_W (mt_G N X) 405 d 64 [some (.inr (.inl (some 164, 25, 0))), none, some (.inr (.inl (some p, 29, 0))), none, some (.inl (i : Int)), some (.inl ((x : Int) + 1))] [] M1 Q := fun x1 x2 => by
      rw [show (x : Int) + 1 = ((x + 1 : Nat) : Int) by omega]
      refine ih (x + 1) M1 (by omega) (by omega) (by omega) (fun j j1 j2 => ?_) ⟨t, L, H, Gc, ⟨HL.1, fun a a1 => ⟨(HL.2 a a1).1, ?_⟩⟩, hb, hab⟩
      · by_cases e : j = x
        · rw [e]
          exact x2
        · exact hcl j j1 (by omega)
      · obtain ⟨u, u1, u2, u3⟩ := (HL.2 a a1).2
        exact ⟨u, u1, u2, u3.imp id fun z => ⟨z.1, by omega⟩⟩
    have im : (i : Int) + (-1) = (i : Int) - 1 := by omega
    refine b405_64 (dr_s ?_)
    rw [h6.2.1.2.1, im]
    refine ⟨⟨by omega, by omega⟩, ⟨by omega, by omega⟩, fun z => HQ M1 (fin (Or.inl (by omega))), fun z => dr_s ⟨by omega, by omega, ?_⟩⟩
    have xm : x < m := by omega
    simp only [Int.toNat_natCast, B0, dr_eq, B4, B5, B1]
    have r0 : me_r (B 0 x) := h6.1.rB (by omega)
    refine ⟨r0, fun z0 => HQ M1 (fin (Or.inr z0)), fun z0 => ⟨by omega, by omega, r0, ⟨by omega, by omega⟩, fun _ => skip xm z0, fun z1 => ⟨by omega, by omega, fun z4 => ⟨⟨by omega, by omega⟩, fun _ => skip xm z0, fun w4 => ⟨by omega, by omega, h6.1.rB (by omega), fun _ => skip xm z0, fun z5 => ⟨by omega, by omega, ?_⟩⟩⟩⟩⟩⟩
    obtain ⟨r', lo, e1, e2, e3, e4, e5, e6, e7, e8⟩ := FBH x xm z1 z5
    obtain ⟨k0, k1⟩ := h6.2.2.2.1 x xm
    obtain ⟨v1, v2, v3, v4, v5⟩ := h6.1.2.2.2.2.2.2.2.2 (B 1 x).toNat (by omega)
    have hb5 := CFH.2.2.2.2.2.2.2.1
    have own : B 3 x = (w : Int) := CFH.own_is xm (Or.inl z1) hx w0 fun j j1 j2 => by
      by_cases e : j = x
      · rw [e]
        exact z0
      · exact hcl j j1 (by omega)
    have hcx := CFH.cls xm (Or.inl z1)
    have cx : (hkn B cn x : Int) = it nx i (c : Int) := by
      have a := hr i hi
      have rg := it_rg CFH.2.2.2.1 i (c : Int) (by omega) (by omega)
      have := CFH.inj (i := hkn B cn x) (j := (it nx i (c : Int)).toNat) hcx.1 (by omega) (by rw [hcx.2.1, own, hw])
      omega
    have size : r' + 1 - lo ≤ cnt A x n := cnt_seg e5 n e2
    have nin : ¬ x ∈ L := fun z => by
      obtain ⟨u, u1, u2, u3⟩ := (HL.2 x z).2
      rcases u3 with u3 | u3
      · have rg := it_rg CFH.2.2.2.1 u (c : Int) (by omega) (by omega)
        have rgi := it_rg CFH.2.2.2.1 i (c : Int) (by omega) (by omega)
        have a := hr i hi
        have := CFH.inj (i := (it nx u (c : Int)).toNat) (j := (it nx i (c : Int)).toNat) (by omega) (by omega) (by rw [u2, hw, own])
        have := it_once CFH.1.1 CFH.2.2.2.1 CFH.2.2.2.2.1 (s := u) (s' := i) (k := (c : Int)) (c := it nx i (c : Int)) (by omega) (by omega) rfl a
        omega
      · omega
    have b600 : r' + 1 - lo ≤ 601 := by omega
    refine ca_I (by omega) (c_294 (by omega) (by omega)) (fun y M8 _ g => ?_) nt_E_no
    obtain ⟨rfl, rfl⟩ := g
    have i4 : me_i M8 (p + 12) (B 1 x).toNat = kA p M8 4 (B 1 x).toNat := rfl
    have i2 : me_i M8 (p + 10) (B 1 x).toNat = kA p M8 2 (B 1 x).toNat := rfl
    rw [i4, i2]
    have nL : (x :: L).Nodup := List.nodup_cons.mpr ⟨nin, HL.1⟩
    have HL' : ML B nx ct m c i (x + 1) (x :: L) := ⟨nL, fun a a1 => by
      rcases List.mem_cons.mp a1 with z | z
      · rw [z]
        exact ⟨⟨xm, z1⟩, i, hr i hi, by rw [hw, own], Or.inr ⟨rfl, by omega⟩⟩
      · refine ⟨(HL.2 a z).1, ?_⟩
        obtain ⟨u, u1, u2, u3⟩ := (HL.2 a z).2
        exact ⟨u, u1, u2, u3.imp id fun z => ⟨z.1, by omega⟩⟩⟩
    have bl' := bud_le (A := A) (n := n) CFH nL fun a a1 => ⟨(HL'.2 a a1).1.1, Or.inl (HL'.2 a a1).1.2⟩
    have be : bud A n (x :: L) = 2 * cnt A x n + 2 + bud A n L := rfl
    refine fld_w h6 CFH (F x) xm z1 e1 e2 e3 e4 e5 e6 e7 h3 h4 h5 (by omega) (Or.inr ⟨rfl, w4⟩) ⟨by omega, by omega⟩ (by omega) fun M2 t2 K => ?_
    rw [show (x : Int) + 1 = ((x + 1 : Nat) : Int) by omega]
    have k2 := K.2.1
    refine ih (x + 1) M2 (by omega) (by omega) (by omega) (fun j j1 j2 => ?_) ⟨t2, x :: L, H.sw K, FCG.add CFH H Gc xm z1 (fun _ => by rw [cx]; exact ⟨hr i hi, i, rfl⟩) b600 K, HL', by omega, fun u u1 => ?_⟩
    · by_cases e : j = x
      · rw [e]
        exact z0
      · exact hcl j j1 (by omega)
    · rw [← hab u u1]
      refine K.1.i h1.GA (by omega) (by unfold oka; omega) fun z => ?_
      have := xP_2 _ _ z
      omega
theorem mk_43 {Q : me_Q} (CFH : CF B nx cn ct fc fs V m cl) (F : ∀ h, STF A B b s nx cn mn T hh n dh C m cl h (hkn B cn h)) (FBH : FB A B nx T n m) (hd : 16 ≤ d) (hc : c < cl) (hr : ∀ u, u < r → 0 ≤ it nx u (c : Int)) (hr8 : r ≤ 8) (ht : t0 ≤ 54000)
    (HQ : ∀ M2 M3 t, WQ Pw p C n m cl A B nx cn ct fc fs mn V t0 t M0 M2 → t ≤ t0 + 5194 → FCG B nx cn m cl (gi M2 31) (gi M2 32) (gi M2 33) (c : Int) t0 t → W1 M2 M3 t 27 0 0 → Q (.inr none) M3) : ∀ (f i : Nat) (M1 : me_M), i ≤ f → i ≤ r → (∃ t L, WQ Pw p C n m cl A B nx cn ct fc fs mn V t0 t M0 M1 ∧ FCG B nx cn m cl (gi M1 31) (gi M1 32) (gi M1 33) (c : Int) t0 t ∧ (L.Nodup ∧ ∀ a, a ∈ L → (a < m ∧ B 0 a = 1) ∧ ∃ u, it nx u (c : Int) ≥ 0 ∧ ct (it nx u (c : Int)).toNat = B 3 a ∧ i ≤ u) ∧ t ≤ t0 + bud A n L ∧ ∀ u, u < r → me_i M1 180 u = it nx u (c : Int)) → me_W (mt_G N X) 405 d 43 [some (.inr (.inl (some 164, 25, 0))), none, some (.inr (.inl (some p, 29, 0))), none, some (.inl ((i : Int) - 1)), none] [] M1 Q := by
  obtain ⟨G, ⟨n1, n2, n3⟩, _⟩ := F 0
  intro f
  induction f with
  | zero =>
    intro i M1 hf _ S
    obtain ⟨t, L, H, Gc, HL, hb, hab⟩ := S
    have bl := bud_le (A := A) (n := n) CFH HL.1 fun a a1 => ⟨(HL.2 a a1).1.1, Or.inl (HL.2 a a1).1.2⟩
    have i0 : i = 0 := by omega
    refine b405_43 ⟨⟨by omega, by omega⟩, fun _ => ?_, fun z => by omega⟩
    refine ca_I (by omega) (c_399 H.1.GA H.2.2.1 (by omega) ⟨by omega, by omega⟩ ⟨by omega, by omega⟩ (by omega)) (fun y M3 _ q => ?_) nt_E_no
    have q := q.2
    rw [me_to ⟨by omega, by omega⟩] at q
    exact HQ M1 M3 t H (by omega) Gc q
  | succ f ih =>
    intro i M1 hf hir S
    obtain ⟨t, L, H, Gc, HL, hb, hab⟩ := S
    have bl := bud_le (A := A) (n := n) CFH HL.1 fun a a1 => ⟨(HL.2 a a1).1.1, Or.inl (HL.2 a a1).1.2⟩
    by_cases i0 : i = 0
    · refine b405_43 ⟨⟨by omega, by omega⟩, fun _ => ?_, fun z => by omega⟩
      refine ca_I (by omega) (c_399 H.1.GA H.2.2.1 (by omega) ⟨by omega, by omega⟩ ⟨by omega, by omega⟩ (by omega)) (fun y M3 _ q => ?_) nt_E_no
      have q := q.2
      rw [me_to ⟨by omega, by omega⟩] at q
      exact HQ M1 M3 t H (by omega) Gc q
    · obtain ⟨j, rfl⟩ : ∃ j, i = j + 1 := ⟨i - 1, by omega⟩
      rw [show ((j + 1 : Nat) : Int) - 1 = (j : Int) by omega]
      have jr := hr j (by omega)
      have rg := it_rg CFH.2.2.2.1 j (c : Int) (by omega) (by omega)
      have m8 := CFH.1.1
      obtain ⟨w, w1, w2, w3, _⟩ := CFH.2.1 (it nx j (c : Int)).toNat (by omega)
      have h6 := H.2.2.2.2.2.1
      have a1 : me_i M1 (164 + 16) j = it nx j (c : Int) := hab j (by omega)
      refine b405_43 ⟨⟨by omega, by omega⟩, fun z => by omega, fun _ => dr_s ?_⟩
      rw [Int.toNat_natCast, a1, (h6.2.2.1 _).2.1, w1]
      refine ⟨by omega, by omega, by omega, by omega, ?_⟩
      rw [show (w : Int) + 1 = ((w + 1 : Nat) : Int) by omega]
      refine mk_64 CFH F FBH hd hc hr hr8 (i := j) (by omega) ht w1 w2 w3 (fun M2 S2 => ?_) (m + 1) (w + 1) M1 (by omega) (by omega) (by omega) (fun k k1 k2 => by omega) ⟨t, L, H, Gc, ⟨HL.1, fun a a1 => ⟨(HL.2 a a1).1, ?_⟩⟩, hb, hab⟩
      · obtain ⟨t', L', H', Gc', HL', hb', hab'⟩ := S2
        refine ih j M2 (by omega) (by omega) ⟨t', L', H', Gc', ⟨HL'.1, fun a a1 => ⟨(HL'.2 a a1).1, ?_⟩⟩, hb', hab'⟩
        obtain ⟨u, u1, u2, u3⟩ := (HL'.2 a a1).2
        exact ⟨u, u1, u2, by omega⟩
      · obtain ⟨u, u1, u2, u3⟩ := (HL.2 a a1).2
        exact ⟨u, u1, u2, Or.inl (by omega)⟩
theorem mk_10 {Q : me_Q} (CFH : CF B nx cn ct fc fs V m cl) (hc : c < cl) (H0 : WQ Pw p C n m cl A B nx cn ct fc fs mn V t0 t0 M0 M)
    (HQ : ∀ M2 r, WQ Pw p C n m cl A B nx cn ct fc fs mn V t0 t0 M0 M2 → gi M2 31 = gi M 31 → gi M2 32 = gi M 32 → gi M2 33 = gi M 33 → (∀ u, u < r → 0 ≤ it nx u (c : Int)) → r ≤ 8 → (∀ u, u < r → me_i M2 180 u = it nx u (c : Int)) → me_W (mt_G N X) 405 d 43 [some (.inr (.inl (some 164, 25, 0))), none, some (.inr (.inl (some p, 29, 0))), none, some (.inl ((r : Int) - 1)), none] [] M2 Q) : ∀ (f u : Nat) (M1 : me_M), 9 - u ≤ f → u ≤ 8 → WQ Pw p C n m cl A B nx cn ct fc fs mn V t0 t0 M0 M1 → gi M1 31 = gi M 31 → gi M1 32 = gi M 32 → gi M1 33 = gi M 33 → (∀ v, v < u → 0 ≤ it nx v (c : Int)) → (∀ v, v < u → me_i M1 180 v = it nx v (c : Int)) → me_W (mt_G N X) 405 d 10 [some (.inr (.inl (some 164, 25, 0))), none, some (.inr (.inl (some p, 29, 0))), some (.inl (u : Int)), some (.inl (it nx u (c : Int))), none] [] M1 Q := by
  intro f
  induction f with
  | zero => intro u M1 z; omega
  | succ f ih =>
    intro u M1 hf h8 H e1 e2 e3 hr hab
    have m8 := CFH.1.1
    have rg := it_rg CFH.2.2.2.1 u (c : Int) (by omega) (by omega)
    refine b405_10 ⟨⟨by omega, by omega⟩, fun z => HQ M1 u H e1 e2 e3 hr h8 hab, fun z => ?_⟩
    have l := it_long m8 CFH.2.2.2.1 CFH.2.2.2.2.1 (s := u) (k := (c : Int)) (by omega) z
    refine ⟨by omega, by omega, ?_⟩
    intro M2
    have hP : fr (fun b j => b = 180 ∧ j = u) M1 M2 := fr_sI ⟨rfl, by omega⟩
    have v2 : me_i M2 180 u = it nx u (c : Int) := by
      show me_i (me_sI M1 180 (u : Int).toNat (Int32.ofInt (it nx u (c : Int)))) 180 u = _
      rw [me_i_sI, if_pos ⟨rfl, by omega⟩, me_to ⟨by omega, by omega⟩]
    have g0 : gx (fun b j => b = 180 ∧ j = u) no2 M1 M2 := gx.of H.1.GA hP fun b j z => by rw [z.1]; unfold oka; omega
    have g2 : gx Pw (xR t0) M1 M2 := g0.mo (fun b j z => H.2.2.2.2.2.2 b j (Or.inr (by have := z.1; omega))) no2_mo
    have ea : ∀ j, ga M2 j = ga M1 j := fun _ => rfl
    have eg : ∀ j, j ∈ gl → gi M2 j = gi M1 j := fun j j1 => by
      funext i
      unfold gi
      rw [ea]
      refine hP.i fun z => ?_
      have := (H.1.GA.1 j j1).2.2.2.1
      rw [z.1] at this
      revert this
      unfold oka
      omega
    have el : LW M2 := by
      have := H.2.2.2.1
      unfold LW at this ⊢
      have q : ∀ j, gL M2 j = gL M1 j := fun j => rfl
      rw [q, q, q, hP.i (by omega)]
      exact this
    clear_value M2
    refine dr_s ⟨by omega, by omega, ?_⟩
    have H2 : WQ Pw p C n m cl A B nx cn ct fc fs mn V t0 t0 M0 M2 := ⟨H.1.tr g2, Nat.le_refl _, by rw [hP.i (by omega)]; exact H.2.2.1, el, H.2.2.2.2.1.gx H.1.GA g0 fun j => by omega, H.2.2.2.2.2.1.gx g0 fun b j z => Or.inl (by have := z.1; omega), H.2.2.2.2.2.2⟩
    have e36 : me_i M2 (p + 36) (it nx u (c : Int)).toNat = it nx (u + 1) (c : Int) := by
      rw [show me_i M2 (p + 36) (it nx u (c : Int)).toNat = nx (it nx u (c : Int)).toNat from (H2.2.2.2.2.2.1.2.2.1 _).1, it_last, if_neg (by omega)]
    rw [e36, show (u : Int) + 1 = ((u + 1 : Nat) : Int) by omega]
    refine ih (u + 1) M2 (by omega) (by omega) H2 ((eg 31 g31).trans e1) ((eg 32 g32).trans e2) ((eg 33 g33).trans e3) (fun v v1 => ?_) fun v v1 => ?_
    · by_cases e : v = u
      · rw [e]
        exact z
      · exact hr v (by omega)
    · by_cases e : v = u
      · rw [e]
        exact v2
      · rw [hP.i (by omega)]
        exact hab v (by omega)
/-- writeMaking -/
def PC (B : Nat → Nat → Int) (nx cn : Nat → Int) (m cl : Nat) (M : me_M) (c lo k : Nat) : Prop := FCG B nx cn m cl (gi M 31) (gi M 32) (gi M 33) (c : Int) lo k ∧ gi M 31 k = 27
theorem c_405 (CFH : CF B nx cn ct fc fs V m cl) (F : ∀ h, STF A B b s nx cn mn T hh n dh C m cl h (hkn B cn h)) (FBH : FB A B nx T n m) (hd : 16 ≤ d) (hc : c < cl) (ht : t ≤ 54000) (H : WQ Pw p C n m cl A B nx cn ct fc fs mn V t t M0 M) : me_W (mt_G N X) 405 d 0 [some (.inr (.inl (some 164, 25, 0))), some (.inl (c : Int)), none, none, none, none] [] M (sx_qV (fun M' => ∃ k, t ≤ k ∧ k ≤ t + 5194 ∧ WQ Pw p C n m cl A B nx cn ct fc fs mn V t (k + 1) M0 M' ∧ PC B nx cn m cl M' c t k) nt_E) := by
  refine b405_0 ?_
  rw [H.2.2.2.2.2.1.1.2.1]
  refine mk_10 (t0 := t) (M0 := M0) CFH hc H (fun M1 r H1 e1 e2 e3 hr hr8 hab => ?_) 9 0 M (by omega) (by omega) H rfl rfl rfl (fun v z => by omega) fun v z => by omega
  refine mk_43 CFH F FBH hd hc hr hr8 ht (fun M2 M3 k H2 hk G w => ?_) r r M1 (Nat.le_refl _) (Nat.le_refl _) ⟨t, [], H1, FCG.nil, ⟨List.nodup_nil, fun a a1 => by cases a1⟩, Nat.le_add_right _ _, hab⟩
  have l := H2.2.2.2.1
  refine ⟨k, H2.2.1, hk, H2.w1 w, G.keep (t := k) (w.1.mo (P' := aP) (fun b j z => Or.inl z) fun j i z => ⟨z.1, by have := z.2; omega⟩) (Nat.le_refl _) l H2.2.2.1, w.2.2.1⟩
end MAKING
