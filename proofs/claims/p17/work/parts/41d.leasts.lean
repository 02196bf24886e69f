/-! the program that runs; where pieces begin; a field's acts -/
/-- what the run knows of its program -/
def RP (p C n m cl : Nat) (A B : Nat → Nat → Int) (nx cn ct fc fs mn : Nat → Int) (V : Nat → Nat → Prop) (M : me_M) : Prop := CEV p C A B cn mn M ∧ (me_i M p 4 = (n : Int) ∧ me_i M p 16 = (m : Int) ∧ me_i M p 27 = (cl : Int)) ∧ (∀ i, sp p M i = nx i ∧ me_i M (p + 35) i = ct i ∧ me_i M (p + 45) i = fc i ∧ me_i M (p + 44) i = fs i) ∧ (∀ q, q < m → 0 ≤ B 1 q ∧ B 1 q < C) ∧ ∀ a b, a < m → b < m → B 0 a = 2 → B 0 b = 2 → ovr p M a b → V a b
/-- where writing acts changes cells -/
def aP : Nat → Nat → Prop := fun b j => wP b j ∨ 178 ≤ b ∧ b ≤ 182
def aR (t : Nat) : Nat → Nat → Prop := xR t
theorem aP_ok : ∀ b j, aP b j → ¬ oka b := fun b j z => by
  rcases z with ⟨z, _⟩ | z
  · rw [z]
    exact ok164
  · unfold oka
    omega
theorem xP_aP {A : Nat → Nat → Int} {lo hi : Nat} : ∀ b j, xP A lo hi b j → aP b j := fun b j z => z.imp id fun z => by
  have := z.1
  omega
theorem c_22 {N : Nat} {X : Nat → Int32} {d : Nat} {x0 x1 : Int} {M : me_M} (h0 : me_r x0) (h1 : me_r x1) : me_W (mt_G N X) 22 d 0 [some (.inl x0), some (.inl x1)] [] M (sx_qI (fun y M' => M' = M ∧ (y = x0 ∨ y = x1) ∧ y ≤ x0 ∧ y ≤ x1) nt_E) :=
  b22_0 ⟨h0, h1, fun z => ⟨rfl, Or.inr rfl, by omega, by omega⟩, fun z => ⟨rfl, Or.inl rfl, by omega, by omega⟩⟩
section LEAST
variable {N : Nat} {X : Nat → Int32} {d p C n m cl q r lo t : Nat} {A B : Nat → Nat → Int} {b s nx cn ct fc fs mn T : Nat → Int} {hh : Nat → Int × Nat} {V : Nat → Nat → Prop} {M M1 M2 : me_M} {dh : Nat}
theorem ovr_eq {a b : Nat} (hT : ∀ k, k < C → tkv p M k) (ha : 0 ≤ tA p M 1 a ∧ tA p M 1 a < C) (hb : 0 ≤ tA p M 1 b ∧ tA p M 1 b < C) (e : ∀ c j, p + 1 ≤ c → c < p + 38 → ¬ c = p + 23 → me_i M1 c j = me_i M c j) (H : ovr p M1 a b) : ovr p M a b := by
  have eT : ∀ i j, i < 10 → tA p M1 i j = tA p M i j := fun i j _ => e _ _ (by omega) (by omega) (by omega)
  have eS : sp p M1 = sp p M := by
    funext i
    exact e _ _ (by omega) (by omega) (by omega)
  have eC : ∀ j, me_i M1 (p + 37) j = me_i M (p + 37) j := fun j => e _ _ (by omega) (by omega) (by omega)
  have eK : ∀ i k, i < 5 → kA p M1 i k = kA p M i k := fun i k _ => e _ _ (by omega) (by omega) (by omega)
  have eB : ∀ k i, tkv p M k → bA p M1 k i = bA p M k i := fun k i hk => by
    unfold bA
    rw [eK 4 k (by omega), eK 2 k (by omega)]
    exact e _ _ (by omega) (by have := hk.2.1; omega) (by have := hk.2.1; omega)
  have tA1 := hT (tA p M 1 a).toNat (by omega)
  have tB1 := hT (tA p M 1 b).toNat (by omega)
  obtain ⟨h1, h2, h3, h4, h5, h6⟩ := H
  rw [eT 4 a (by omega)] at h1
  rw [eT 4 b (by omega)] at h2
  rw [eS, eT 3 a (by omega), eT 3 b (by omega), eC, eC] at h3
  rw [eT 9 a (by omega), eT 9 b (by omega)] at h4
  rw [eT 1 a (by omega), eT 1 b (by omega)] at h5
  refine ⟨h1, h2, h3, h4, ⟨?_, fun i i1 i2 => ?_⟩, fun i i1 i2 => ?_⟩
  · have := h5.1
    rw [eK 3 _ (by omega), eK 3 _ (by omega)] at this
    exact this
  · have := h5.2 i i1 (by rw [eK 3 _ (by omega)]; exact i2)
    rw [eB _ _ tA1, eB _ _ tB1] at this
    exact this
  · have := h6 i i1 (by rw [eT 9 a (by omega)]; exact i2)
    rw [eT 8 _ (by omega), eT 8 _ (by omega)] at this
    exact this
theorem RP.gx {P R : Nat → Nat → Prop} (H : RP p C n m cl A B nx cn ct fc fs mn V M) (K : gx P R M M1) (hP : ∀ b j, P b j → b < 192 ∨ 447 ≤ b) : RP p C n m cl A B nx cn ct fc fs mn V M1 := by
  obtain ⟨h1, ⟨h2, h3, h4⟩, h5, h6, h7⟩ := H
  have G := h1.1
  have hp := h1.2.2.1
  have ei : ∀ b j, p ≤ b → b < p + 47 → me_i M1 b j = me_i M b j := fun b j b1 b2 => K.i G (by omega) (by unfold oka; omega) fun z => by have := hP b j z; omega
  refine ⟨h1.gx K hP, ⟨(ei _ _ (by omega) (by omega)).trans h2, (ei _ _ (by omega) (by omega)).trans h3, (ei _ _ (by omega) (by omega)).trans h4⟩, fun i => ?_, h6, fun a b a1 b1 a2 b2 v => h7 a b a1 b1 a2 b2 ?_⟩
  · obtain ⟨g1, g2, g3, g4⟩ := h5 i
    exact ⟨(ei _ _ (by omega) (by omega)).trans g1, (ei _ _ (by omega) (by omega)).trans g2, (ei _ _ (by omega) (by omega)).trans g3, (ei _ _ (by omega) (by omega)).trans g4⟩
  · have hB := h1.2.2.2.2.1 1
    refine ovr_eq h1.2.2.2.2.2.2.2.2 ?_ ?_ (fun b j b1 b2 _ => ei b j (by omega) (by omega)) v
    · rw [hB a (by omega)]
      exact h6 a a1
    · rw [hB b (by omega)]
      exact h6 b b1
/-- leasts: first each its own -/
def l1P : Nat → Nat → Prop := fun b _ => b = 181
theorem lst_7 {Q : me_Q} (H : RP p C n m cl A B nx cn ct fc fs mn V M) (hn : n ≤ 2405) (HQ : ∀ M1, gx l1P no2 M M1 → (∀ k, k < n → me_i M1 181 k = (k : Int)) → me_W (mt_G N X) 398 d 30 [some (.inr (.inl (some 164, 25, 0))), some (.inr (.inl (some p, 29, 0))), some (.inl 0), none] [] M1 Q) : ∀ (f i : Nat) (M1 : me_M), n - i < f → i ≤ n → gx l1P no2 M M1 → (∀ k, k < i → me_i M1 181 k = (k : Int)) → me_W (mt_G N X) 398 d 7 [some (.inr (.inl (some 164, 25, 0))), some (.inr (.inl (some p, 29, 0))), some (.inl (i : Int)), none] [] M1 Q := by
  intro f
  induction f with
  | zero => intro i M1 z; omega
  | succ f ih =>
    intro i M1 hf hi g h
    have H1 := H.gx g fun b j z => Or.inl (by have z : b = 181 := z; omega)
    refine b398_7 (dr_s ?_)
    rw [H1.2.1.1]
    refine ⟨⟨by omega, by omega⟩, ⟨by omega, by omega⟩, fun z => HQ M1 g fun k k1 => h k (by omega), fun z => ⟨by omega, by omega, ?_⟩⟩
    intro M2
    have g2 : _root_.Jvm.Pilot.CRefactorHouseLaw_law_r6603_cc39db.gx l1P no2 M1 M2 := gx.of g.GA (fr_sI rfl) fun b j z => by
      have z : b = 181 := z
      rw [z]
      exact ok181
    have e : ∀ k, me_i M2 181 k = if k = i then (i : Int) else me_i M1 181 k := fun k => by
      show me_i (me_sI M1 181 (i : Int).toNat (Int32.ofInt (i : Int))) 181 k = _
      rw [me_i_sI]
      by_cases c : k = i
      · rw [if_pos ⟨rfl, by omega⟩, if_pos c, me_to ⟨by omega, by omega⟩]
      · rw [if_neg fun w => c (by have := w.2; omega), if_neg c]
    clear_value M2
    rw [show (i : Int) + 1 = ((i + 1 : Nat) : Int) by omega]
    refine ih (i + 1) M2 (by omega) (by omega) (g.tr g2) fun k k1 => ?_
    rw [e]
    split
    · next c => rw [c]
    · exact h k (by omega)
/-- leasts: what was handed to the parents -/
def LI (A : Nat → Nat → Int) (n : Nat) (M1 : me_M) (i : Nat) : Prop := (∀ k, k < n → (0 ≤ me_i M1 181 k ∧ me_i M1 181 k ≤ k) ∧ ∀ lo, seg A lo k → (lo : Int) ≤ me_i M1 181 k) ∧ ∀ j, j < i → 0 ≤ A 8 j → me_i M1 181 (A 8 j).toNat ≤ me_i M1 181 j
theorem LI.lsa (G : ∀ k, k < n → cl_ A b s 0 n dh C (hh k) k) (H : LI A n M1 n) : LSA A n M1 := by
  have key : ∀ (f e : Nat), e < f → ∀ lo, e < n → seg A lo e → me_i M1 181 e = (lo : Int) := by
    intro f
    induction f with
    | zero => intro e z; omega
    | succ f ih =>
      intro e hf lo he S
      obtain ⟨⟨a0, a1⟩, a2⟩ := H.1 e he
      have a3 := a2 lo S
      by_cases c : lo = e
      · omega
      · have := S.1
        obtain ⟨k, k1, k2, k3, _, k5, _⟩ := kid_least G he S.iv (by omega)
        have l := ih k (by omega) lo (by omega) k5
        have := H.2 k (by omega) (by omega)
        rw [k3, Int.toNat_natCast] at this
        omega
  exact fun lo e he S => key (e + 1) e (by omega) lo he S
theorem seg_sub {lo e k lo' : Nat} (S : seg A lo e) (hk : k < e) (h8 : A 8 k = e) (S' : seg A lo' k) : lo ≤ lo' := by
  have k0 := S'.1
  rcases Nat.lt_or_ge lo' lo with c | c
  · exfalso
    have hk' : lo ≤ k := by
      rcases Nat.lt_or_ge k lo with w | w
      · exact absurd ⟨by have := S.1; omega, by omega⟩ (S.2.2 k w)
      · exact w
    have z := S'.2.1 (lo - 1) (by omega) (by omega)
    exact S.2.2 (lo - 1) (by omega) ⟨by omega, by omega⟩
  · exact c
theorem lst_30 {Q : me_Q} (H : RP p C n m cl A B nx cn ct fc fs mn V M) (hn : n ≤ 2405) (hd : 2 ≤ d) (G : ∀ k, k < n → cl_ A b s 0 n dh C (hh k) k) (HQ : ∀ M1, gx l1P no2 M M1 → LSA A n M1 → me_W (mt_G N X) 398 d 30 [some (.inr (.inl (some 164, 25, 0))), some (.inr (.inl (some p, 29, 0))), some (.inl (n : Int)), none] [] M1 Q) : ∀ (f i : Nat) (M1 : me_M), n - i < f → i ≤ n → gx l1P no2 M M1 → LI A n M1 i → me_W (mt_G N X) 398 d 30 [some (.inr (.inl (some 164, 25, 0))), some (.inr (.inl (some p, 29, 0))), some (.inl (i : Int)), none] [] M1 Q := by
  intro f
  induction f with
  | zero => intro i M1 z; omega
  | succ f ih =>
    intro i M1 hf hi g L
    by_cases ci : i = n
    · rw [ci] at L ⊢
      exact HQ M1 g (L.lsa G)
    have H1 := H.gx g fun b j z => Or.inl (by have z : b = 181 := z; omega)
    have a8 : me_i M1 (p + 22) i = A 8 i := H1.1.2.2.2.1 8 i (by omega) (by omega)
    have c8 := (G i (by omega)).2.2.2.2.2.1
    have cl7 := (G i (by omega)).2.2.2.2.2.2.1
    refine b398_30 (dr_s ?_)
    rw [H1.2.1.1]
    refine ⟨⟨by omega, by omega⟩, ⟨by omega, by omega⟩, fun z => by omega, fun z => dr_s ?_⟩
    rw [Int.toNat_natCast, a8]
    have nx1 : (i : Int) + 1 = ((i + 1 : Nat) : Int) := by omega
    refine ⟨by omega, by omega, ⟨by omega, by omega⟩, fun z8 => ?_, fun z8 => ⟨by omega, by omega, by omega, by omega, ?_⟩⟩
    · rw [nx1]
      refine ih (i + 1) M1 (by omega) (by omega) g ⟨L.1, fun j j1 j2 => ?_⟩
      by_cases c : j = i
      · rw [c] at j2
        omega
      · exact L.2 j (by omega) j2
    · obtain ⟨w, hw⟩ : ∃ w : Nat, A 8 i = (w : Int) := ⟨(A 8 i).toNat, by omega⟩
      rw [hw, Int.toNat_natCast]
      refine ca_I (by omega) (c_22 (me_i_r _ _ _) (me_i_r _ _ _)) (fun y M2 _ q => ?_) nt_E_no
      obtain ⟨rfl, y1, y2, y3⟩ := q
      have y1 : y = me_i M2 181 w ∨ y = me_i M2 181 i := y1
      have y2 : y ≤ me_i M2 181 w := y2
      have y3 : y ≤ me_i M2 181 i := y3
      refine ⟨by omega, by omega, ?_⟩
      intro M3
      have g2 : _root_.Jvm.Pilot.CRefactorHouseLaw_law_r6603_cc39db.gx l1P no2 M2 M3 := gx.of g.GA (fr_sI rfl) fun b j z => by
        have z : b = 181 := z
        rw [z]
        exact ok181
      have wL := L.1 w (by omega)
      have iL := L.1 i (by omega)
      have e : ∀ k, me_i M3 181 k = if k = w then y else me_i M2 181 k := fun k => by
        show me_i (me_sI M2 181 w (Int32.ofInt y)) 181 k = _
        rw [me_i_sI]
        by_cases c : k = w
        · rw [if_pos ⟨rfl, c⟩, if_pos c, me_to ⟨by omega, by omega⟩]
        · rw [if_neg fun v => c v.2, if_neg c]
      clear_value M3
      rw [nx1]
      refine ih (i + 1) M3 (by omega) (by omega) (g.tr g2) ⟨fun k k1 => ?_, fun j j1 j2 => ?_⟩
      · have kL := L.1 k k1
        rw [e]
        split
        · next c =>
          refine ⟨by omega, fun lo S => ?_⟩
          rw [c] at S
          have a := wL.2 lo S
          obtain ⟨lo', S'⟩ := seg_root G (show i < n by omega)
          have b := iL.2 lo' S'
          have c2 := seg_sub S (by omega) hw S'
          omega
        · exact kL
      · rw [e, e]
        have jp := (G j (by omega)).2.2.2.2.2.1
        rw [if_neg (show ¬ j = w by omega)]
        by_cases c : j = i
        · rw [c, hw, Int.toNat_natCast, if_pos rfl]
          exact y3
        · have := L.2 j (by omega) j2
          split
          · next v =>
            rw [v] at this
            omega
          · exact this
/-- a field's acts: its place, its exp, its store -/
theorem fld_w {K : me_M → Prop} {E1 E2 E3 : Nat → me_M → Prop} {o x : Int} (H : RP p C n m cl A B nx cn ct fc fs mn V M1) (CFH : CF B nx cn ct fc fs V m cl) (F : STF A B b s nx cn mn T hh n dh C m cl q (hkn B cn q)) (hq : q < m) (q1 : B 0 q = 1) (hr : B 5 q = (r : Int)) (rn : r < n) (S : seg A lo r) (e16 : 1 ≤ A 0 r ∧ A 0 r ≤ 16) (h10 : ∀ k, lo ≤ k → k ≤ r → A 10 k = q) (h8 : A 8 r = -1) (hf : fit nx (T r) (B 8 q)) (h30 : me_i M1 164 30 = (t : Int)) (lw : LW M1) (L : LSA A n M1) (hb : t + 2 * (r + 1 - lo) + 10 ≤ 59990) (ho : o = 18 ∧ B 4 q = 1 ∨ o = 19 ∧ B 4 q = 0) (rx : me_r x) (hd : 12 ≤ d) (k : ∀ M2 t2, SW p C n mn B nx cn m cl q (hkn B cn q) A (2 * (r + 1 - lo) + 2) lo (r + 1) t M1 t2 M2 ([], Dm m) ([], Dm m) → K M2) : ∃ d', d = d' + 1 ∧ me_W (mt_G N X) 399 d' 0 [some (.inr (.inl (some 164, 25, 0))), some (.inl 26), some (.inl x), some (.inl 0)] [] M1 (sx_qI (fun _ M15 => me_dr (some p) (fun b19 => 0 ≤ (q : Int) ∧ (q : Int) < ((2408 : Nat) : Int) ∧ ∃ d', d = d' + 1 ∧ me_W (mt_G N X) 401 d' 0 [some (.inr (.inl (some 164, 25, 0))), some (.inl (me_i M15 (b19 + 30) (q : Int).toNat)), none, none] [] M15 (sx_qV (fun M20 => ∃ d', d = d' + 1 ∧ me_W (mt_G N X) 399 d' 0 [some (.inr (.inl (some 164, 25, 0))), some (.inl o), some (.inl (q : Int)), some (.inl 0)] [] M20 (sx_qI (fun _ M23 => K M23) E3)) E2))) E1) := by
  obtain ⟨G, ⟨n1, n2, n3⟩, hcl, hb8, hb4, har, hT⟩ := id F
  have tr := hT r rn (h10 r S.1 (Nat.le_refl _)) e16.2
  have t5 : ¬ T r = -5 := fun z => by
    have := (tr.2.2 z).1
    omega
  have nl : ¬ left A r := fun z => by
    have := z.1
    omega
  have sl := S.1
  have S0 : SW p C n mn B nx cn m cl q (hkn B cn q) A 0 lo (r + 1) t M1 t M1 ([], Dm m) ([], Dm m) := SW.nil H.1 h30 lw L cle.rf
  refine act_w (z := ([], Dm m)) S0 (by omega) ⟨by omega, by omega⟩ rx ⟨by omega, by omega⟩ (SA_15 (Or.inr (Or.inr rfl))) (by omega) fun M15 K1 => ?_
  have b1 := K1.2.1
  refine dr_s ⟨by omega, by omega, ?_⟩
  have e5 : me_i M15 (p + 30) (q : Int).toNat = (r : Int) := by
    rw [Int.toNat_natCast]
    exact (K1.2.2.2.2.2.1.2.2.2.2.1 5 q (by omega)).trans hr
  rw [e5]
  refine exp_w F K1 S rn e16 h10 (fun a q' a1 a2 z => ?_) nl (Nat.le_refl _) (Nat.le_refl _) (by omega) (by omega) fun M20 t20 K2 => ?_
  · rcases Nat.lt_or_ge q' m with c | c
    · exact (CFH.fieldno q1 c z.1 (z.2.imp id fun v => v.1)).elim
    · exact c
  rw [pt_ne t5] at K2
  have b2 := K2.2.1
  have rq : me_r (q : Int) := ⟨by omega, by omega⟩
  rcases ho with ⟨rfl, h4⟩ | ⟨rfl, h4⟩
  · exact act_w K2 (by omega) ⟨by omega, by omega⟩ rq ⟨by omega, by omega⟩ (SA_18 hq q1 h4 hf) (by omega) fun M23 K3 => k M23 _ (K3.weak cle.rf cle.rf (by omega))
  · obtain ⟨c1, c2, c3⟩ := CFH.cls hq (Or.inl q1)
    obtain ⟨o, o1, o2, _⟩ := CFH.2.2.2.2.2.1 q hq (Or.inl q1)
    rw [o1, Int.toNat_natCast] at c3
    exact act_w K2 (by omega) ⟨by omega, by omega⟩ rq ⟨by omega, by omega⟩ (SA_19 hq q1 h4 h4 ⟨_, o, o1, by omega, c3, up.rf (by omega)⟩ hf) (by omega) fun M23 K3 => k M23 _ (K3.weak cle.rf cle.rf (by omega))
end LEAST
