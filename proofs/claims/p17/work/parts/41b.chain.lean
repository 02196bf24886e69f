/-! rows of classes above one another; fields' places in objects -/
section CHAIN
variable {nx : Nat → Int} {cl : Nat}
theorem it_rg (hs : ∀ i, i < cl → -1 ≤ nx i ∧ nx i < cl) : ∀ (s : Nat) (k : Int), -1 ≤ k → k < cl → -1 ≤ it nx s k ∧ it nx s k < cl
  | 0, k, h1, h2 => ⟨h1, h2⟩
  | s + 1, k, h1, h2 => by
    rw [it]
    by_cases e : k < 0
    · rw [if_pos e]
      omega
    · rw [if_neg e]
      have := hs k.toNat (by omega)
      exact it_rg hs s _ this.1 this.2
theorem it_up : ∀ (a b : Nat) (k c : Int), it nx a k = c → 0 ≤ c → it nx (a + b) k = it nx b c
  | 0, b, k, c, h, _ => by
    have h : k = c := h
    rw [Nat.zero_add, h]
  | a + 1, b, k, c, h, h0 => by
    rw [it] at h
    rw [show a + 1 + b = (a + b) + 1 by omega, it]
    by_cases e : k < 0
    · rw [if_pos e] at h
      omega
    · rw [if_neg e] at h ⊢
      exact it_up a b _ c h h0
theorem up.tr {a b c : Int} (h : up nx a b) (k : up nx b c) : up nx a c := by
  obtain ⟨h0, s, h1⟩ := h
  obtain ⟨k0, u, k1⟩ := k
  exact ⟨k0, s + u, by rw [it_up s u a b h1 h0, k1]⟩
theorem heir.up {a b : Int} (h : heir nx a b) : up nx a b := by
  obtain ⟨a0, b0, s, _, e⟩ := h
  exact ⟨b0, s + 1, by rw [it, if_neg (by omega)]; exact e⟩
theorem it_back {s : Nat} {k : Int} (h : 0 ≤ it nx s k) {u : Nat} (hu : u ≤ s) : 0 ≤ it nx u k := by
  by_cases c : it nx u k < 0
  · exfalso
    have n := it_neg (nx := nx) (m := s - u) c
    have a := it_add (nx := nx) u (s - u) k
    rw [show u + (s - u) = s by omega] at a
    omega
  · omega
theorem up.pos {a b : Int} (h : up nx a b) : 0 ≤ a := by
  obtain ⟨h0, s, h1⟩ := h
  exact it_back (nx := nx) (s := s) (k := a) (u := 0) (by omega) (Nat.zero_le _)
theorem it_long (h8 : cl ≤ 8) (hs : ∀ i, i < cl → -1 ≤ nx i ∧ nx i < cl) (hn : ∀ i : Nat, i < cl → ¬ heir nx (i : Int) (i : Int)) {s : Nat} {k : Int} (hk : k < cl) (h : 0 ≤ it nx s k) : s < 8 := by
  rcases Nat.lt_or_ge s 8 with c | c
  · exact c
  · exfalso
    have := acyc h8 hs hn k hk
    have := it_back h c
    omega
theorem it_once (h8 : cl ≤ 8) (hs : ∀ i, i < cl → -1 ≤ nx i ∧ nx i < cl) (hn : ∀ i : Nat, i < cl → ¬ heir nx (i : Int) (i : Int)) {s s' : Nat} {k c : Int} (hk : k < cl) (h : it nx s k = c) (h' : it nx s' k = c) (h0 : 0 ≤ c) : s = s' := by
  have key : ∀ a b : Nat, it nx a k = c → it nx b k = c → a < b → False := fun a b ha hb ab => by
    have l := it_long h8 hs hn hk (s := b) (by omega)
    have e := it_up a (b - a) k c ha h0
    rw [show a + (b - a) = b by omega, hb, show b - a = (b - a - 1) + 1 by omega, it, if_neg (by omega)] at e
    have r := it_rg hs a k (by have := it_back (nx := nx) (s := a) (k := k) (by omega) (Nat.zero_le a); have : 0 ≤ k := this; omega) hk
    refine hn c.toNat (by omega) ?_
    rw [Int.toNat_of_nonneg h0]
    exact ⟨h0, h0, b - a - 1, by omega, e.symm⟩
  rcases Nat.lt_trichotomy s s' with z | z | z
  · exact (key s s' h h' z).elim
  · exact z
  · exact (key s' s h' h z).elim
/-- the sum along a row of classes -/
def gs9 (nx : Nat → Int) (F : Nat → Nat) : Nat → Int → Nat
  | 0, _ => 0
  | r + 1, c => F c.toNat + gs9 nx F r (nx c.toNat)
theorem gs9_add {F : Nat → Nat} : ∀ (a b : Nat) (c : Int), (∀ u, u < a → 0 ≤ it nx u c) → gs9 nx F (a + b) c = gs9 nx F a c + gs9 nx F b (it nx a c)
  | 0, b, c, _ => by
    rw [Nat.zero_add]
    show gs9 nx F b c = 0 + gs9 nx F b c
    omega
  | a + 1, b, c, h => by
    have c0 : 0 ≤ c := h 0 (by omega)
    rw [show a + 1 + b = (a + b) + 1 by omega, gs9, gs9, it, if_neg (by omega), gs9_add a b _ fun u u1 => ?_]
    · omega
    · have := h (u + 1) (by omega)
      rw [it, if_neg (by omega)] at this
      exact this
theorem gs9_le {F F' : Nat → Nat} : ∀ (r : Nat) (c : Int), (∀ u, u < r → 0 ≤ it nx u c) → (∀ u, u < r → F' (it nx u c).toNat ≤ F (it nx u c).toNat) → gs9 nx F' r c ≤ gs9 nx F r c
  | 0, _, _, _ => Nat.le_refl _
  | r + 1, c, h, g => by
    have c0 : 0 ≤ c := h 0 (by omega)
    have s : ∀ u, it nx (u + 1) c = it nx u (nx c.toNat) := fun u => by rw [it, if_neg (by omega)]
    have a : F' c.toNat ≤ F c.toNat := g 0 (by omega)
    have b := gs9_le (F := F) (F' := F') r (nx c.toNat) (fun u u1 => by rw [← s]; exact h (u + 1) (by omega)) (fun u u1 => by rw [← s]; exact g (u + 1) (by omega))
    rw [gs9, gs9]
    omega
theorem gs9_one {F F' : Nat → Nat} : ∀ (r u0 : Nat) (c : Int), (∀ u, u < r → 0 ≤ it nx u c) → (∀ u, u < r → F' (it nx u c).toNat ≤ F (it nx u c).toNat + if u = u0 then 1 else 0) → gs9 nx F' r c ≤ gs9 nx F r c + 1
  | 0, _, _, _, _ => Nat.zero_le _
  | r + 1, u0, c, h, g => by
    have c0 : 0 ≤ c := h 0 (by omega)
    have s : ∀ u, it nx (u + 1) c = it nx u (nx c.toNat) := fun u => by rw [it, if_neg (by omega)]
    have a : F' c.toNat ≤ F c.toNat + if 0 = u0 then 1 else 0 := g 0 (by omega)
    rw [gs9, gs9]
    cases u0 with
    | zero =>
      rw [if_pos rfl] at a
      have b := gs9_le (F := F) (F' := F') r (nx c.toNat) (fun u u1 => by rw [← s]; exact h (u + 1) (by omega)) (fun u u1 => by
        have := g (u + 1) (by omega)
        rw [if_neg (by omega), s] at this
        exact this)
      omega
    | succ u0 =>
      rw [if_neg (by omega)] at a
      have b := gs9_one (F := F) (F' := F') r u0 (nx c.toNat) (fun u u1 => by rw [← s]; exact h (u + 1) (by omega)) (fun u u1 => by
        have := g (u + 1) (by omega)
        rw [s] at this
        by_cases e : u = u0
        · rw [if_pos e]
          rw [if_pos (by omega)] at this
          exact this
        · rw [if_neg e]
          rw [if_neg (by omega)] at this
          exact this)
      omega
end CHAIN
/-- classes and members as the run knows them -/
def CF (B : Nat → Nat → Int) (nx cn ct fc fs : Nat → Int) (V : Nat → Nat → Prop) (m cl : Nat) : Prop :=
  (cl ≤ 8 ∧ m ≤ 2405) ∧
  (∀ i, i < cl → ∃ q : Nat, ct i = (q : Int) ∧ q < m ∧ B 0 q = 0 ∧ cn q = (i : Int)) ∧
  (∀ q, q < m → B 0 q = 0 → ∃ i : Nat, i < cl ∧ cn q = (i : Int) ∧ ct i = (q : Int)) ∧
  (∀ i, i < cl → -1 ≤ nx i ∧ nx i < cl) ∧
  (∀ i : Nat, i < cl → ¬ heir nx (i : Int) (i : Int)) ∧
  (∀ q, q < m → B 0 q = 1 ∨ B 0 q = 2 → ∃ o : Nat, B 3 q = (o : Int) ∧ o < q ∧ B 0 o = 0 ∧ ∀ j, o < j → j ≤ q → ¬ B 0 j = 0) ∧
  (∀ q, q < m → B 0 q = 3 ∨ B 0 q = 4 → ∃ h : Nat, B 3 q = (h : Int) ∧ h < q ∧ B 0 h = 2 ∧ (∀ j, h < j → j ≤ q → 3 ≤ B 0 j) ∧ (B 0 q = 3 → (q : Int) ≤ h + B 9 h)) ∧
  (∀ q, q < m → (0 ≤ B 0 q ∧ B 0 q ≤ 4) ∧ (B 4 q = 0 ∨ B 4 q = 1) ∧ (¬ B 0 q = 0 → ty_v cl (B 8 q))) ∧
  (∀ q, q < m → B 0 q = 2 → (0 ≤ B 9 q ∧ B 9 q ≤ 8 ∧ (q : Int) + B 9 q < m) ∧ ∀ i : Nat, (i : Int) < B 9 q → B 0 (q + 1 + i) = 3 ∧ B 3 (q + 1 + i) = q) ∧
  (∀ h q, q < m → B 0 h = 2 → h < q → (∀ j, h < j → j ≤ q → 3 ≤ B 0 j) → B 3 q = h ∧ q ≤ h + 609) ∧
  ((∀ i, i < cl → fc i = (fcn B (ct i) m : Int)) ∧ ∀ a, a < m → B 0 a = 1 → fs a = (fcn B (B 3 a) a : Int)) ∧
  mcn B m ≤ 192 ∧
  ∀ a b, a < m → b < m → B 0 a = 2 → B 0 b = 2 → V a b → B 4 a = 0 ∧ B 4 b = 0 ∧ B 8 a = B 8 b ∧ B 9 a = B 9 b ∧ (∀ i : Nat, (i : Int) < B 9 a → B 8 (a + 1 + i) = B 8 (b + 1 + i)) ∧ heir nx (hkn B cn a) (hkn B cn b)
section CFT
variable {p C n m cl h q a b c r : Nat} {Φ : Nat → Nat} {Mb M : me_M} {B : Nat → Nat → Int} {nx cn ct fc fs : Nat → Int} {V : Nat → Nat → Prop}
theorem GOOD.cf (g : GOOD p C n m cl Φ Mb M) : CF (tA p Mb) (sp p Mb) (fun q => me_i Mb (p + 37) q) (fun i => me_i Mb (p + 35) i) (fun i => me_i M (p + 45) i) (fun q => me_i M (p + 44) q) (fun a b => ovr p Mb a b) m cl := by
  have J := g.js
  obtain ⟨s1, s2, s3, s4, s5⟩ := J.2.2.2.1
  have fsl := g.2.2.2.2.2
  have gov := g.2.2.2.1
  refine ⟨⟨s2, J.m7⟩, s3, s4, s5, J.2.2.2.2.1, fun q q1 q2 => ?_, fun q q1 q2 => ?_, fun q q1 => ?_, fun q q1 q2 => J.met q1 q2, fun h q q1 q2 q3 q4 => ⟨g.own_m q1 q2 q3 q4, g.span q1 q2 q3 q4⟩, ⟨fun i i1 => ?_, fun a a1 a2 => ?_⟩, J.2.2.2.2.2.2, fun a b a1 b1 a2 b2 v => ?_⟩
  · obtain ⟨o1, o2, o3, o4⟩ := J.oc q1 q2
    exact ⟨(tA p Mb 3 q).toNat, by omega, by omega, o3, fun j j1 j2 => o4 j (by omega) j2⟩
  · have t := (J.td q1).2.2
    have o : om (tA p Mb) q ∧ (tA p Mb 0 q = 3 → (q : Int) ≤ tA p Mb 3 q + tA p Mb 9 (tA p Mb 3 q).toNat) := by
      rcases t with z | z | z | z | z
      · omega
      · omega
      · omega
      · exact ⟨z.2.2.1, fun _ => z.2.2.2.1⟩
      · exact ⟨z.2.2.1, fun v => by omega⟩
    obtain ⟨⟨o1, o2, o3, o4⟩, o5⟩ := o
    exact ⟨(tA p Mb 3 q).toNat, by omega, by omega, o3, fun j j1 j2 => o4 j (by omega) j2, fun z => by have := o5 z; omega⟩
  · refine ⟨?_, (J.td q1).2.1, fun z => (J.2.2.2.2.2.1 q q1 z).1⟩
    have t := (J.td q1).2.2
    rcases t with z | z | z | z | z <;> omega
  · obtain ⟨q, q1, _⟩ := s3 i i1
    have := (fsl i i1 q q1).1
    show me_i M (p + 45) i = (fcn (tA p Mb) (me_i Mb (p + 35) i) m : Int)
    rw [q1]
    exact this
  · obtain ⟨o, o1, o2, o3⟩ := J.own a1 (Or.inl a2)
    obtain ⟨i, i1, i2, i3⟩ := s4 o o2 o3
    rw [o1]
    exact (fsl i i1 o i3).2 a a1 a2 o1
  · obtain ⟨v1, v2, v3, v4⟩ := id v
    have w := gov a b a1 b1 a2 b2 v3 v4
    obtain ⟨u1, u2, u3⟩ := v4
    refine ⟨v1, v2, w.2.2, u1, fun i i1 => ?_, ?_⟩
    · have := (u3 i (by omega) i1).2
      rw [show ((a : Int) + 1 + (i : Int)).toNat = a + 1 + i by omega, show ((b : Int) + 1 + (i : Int)).toNat = b + 1 + i by omega] at this
      exact this
    · have h1 := v3.1
      have h2 := v3.2.1
      have e : ∀ x, 0 ≤ me_i Mb (p + 37) (tA p Mb 3 x).toNat → ((hkn (tA p Mb) (fun q => me_i Mb (p + 37) q) x : Nat) : Int) = me_i Mb (p + 37) (tA p Mb 3 x).toNat := fun x z => Int.toNat_of_nonneg z
      rw [e a h1, e b h2]
      exact v3
/-- the class of a member -/
theorem CF.cls (H : CF B nx cn ct fc fs V m cl) (hq : q < m) (hs : B 0 q = 1 ∨ B 0 q = 2) : hkn B cn q < cl ∧ ct (hkn B cn q) = B 3 q ∧ cn (B 3 q).toNat = (hkn B cn q : Int) := by
  obtain ⟨o, o1, o2, o3, _⟩ := H.2.2.2.2.2.1 q hq hs
  obtain ⟨i, i1, i2, i3⟩ := H.2.2.1 o (by omega) o3
  have e : hkn B cn q = i := by
    unfold hkn
    rw [o1, Int.toNat_natCast, i2, Int.toNat_natCast]
  rw [e, o1, Int.toNat_natCast]
  exact ⟨i1, i3, i2⟩
theorem CF.inj (H : CF B nx cn ct fc fs V m cl) {i j : Nat} (hi : i < cl) (hj : j < cl) (e : ct i = ct j) : i = j := by
  obtain ⟨q, q1, _, _, q4⟩ := H.2.1 i hi
  obtain ⟨w, w1, _, _, w4⟩ := H.2.1 j hj
  have : q = w := by omega
  rw [this, w4] at q4
  omega
/-- how many fields a class has of its own -/
abbrev KF (B : Nat → Nat → Int) (ct : Nat → Int) (m : Nat) : Nat → Nat := fun k => fcn B (ct k) m
/-- an object has no more fields than members are told -/
theorem CF.tot (H : CF B nx cn ct fc fs V m cl) (hc : c < cl) (hr : ∀ u, u < r → 0 ≤ it nx u (c : Int)) : gs9 nx (KF B ct m) r c ≤ 192 := by
  have key : ∀ D, gs9 nx (fun k => fcn B (ct k) D) r c ≤ mcn B D := by
    intro D
    induction D with
    | zero =>
      refine Nat.le_trans (gs9_le (F := fun _ => 0) r c hr fun u u1 => Nat.le_refl _) ?_
      have : ∀ (r : Nat) (c : Int), gs9 nx (fun _ => 0) r c = 0 := by
        intro r
        induction r with
        | zero => exact fun _ => rfl
        | succ r ih =>
          intro c
          rw [gs9, ih]
      rw [this]
      exact Nat.zero_le _
    | succ D ih =>
      rw [mcn]
      by_cases e : B 0 D = 1
      · rw [if_pos (Or.inl e)]
        have rg : ∀ u, u < r → (it nx u (c : Int)).toNat < cl := fun u u1 => by
          have := it_rg H.2.2.2.1 u (c : Int) (by omega) (by omega)
          have := hr u u1
          omega
        by_cases f : ∃ u0, u0 < r ∧ ct (it nx u0 (c : Int)).toNat = B 3 D
        · obtain ⟨u0, f1, f2⟩ := f
          refine Nat.le_trans (gs9_one (F := fun k => fcn B (ct k) D) r u0 c hr fun u u1 => ?_) (by omega)
          show fcn B (ct (it nx u c).toNat) (D + 1) ≤ fcn B (ct (it nx u c).toNat) D + _
          rw [fcn]
          by_cases w : u = u0
          · rw [if_pos w]
            split <;> omega
          · rw [if_neg (fun v => w ?_)]
            · omega
            · have := H.inj (rg u u1) (rg u0 f1) (by rw [f2]; exact v.2.2.symm)
              have h1 := hr u u1
              have h2 := hr u0 f1
              exact it_once H.1.1 H.2.2.2.1 H.2.2.2.2.1 (k := (c : Int)) (by omega) rfl (by omega) h1
        · refine Nat.le_trans (gs9_le (F := fun k => fcn B (ct k) D) r c hr fun u u1 => ?_) (by omega)
          show fcn B (ct (it nx u c).toNat) (D + 1) ≤ fcn B (ct (it nx u c).toNat) D
          rw [fcn, if_neg fun v => f ⟨u, u1, v.2.2.symm⟩]
          exact Nat.le_refl _
      · refine Nat.le_trans (gs9_le (F := fun k => fcn B (ct k) D) r c hr fun u u1 => ?_) (by omega)
        show fcn B (ct (it nx u c).toNat) (D + 1) ≤ fcn B (ct (it nx u c).toNat) D
        rw [fcn, if_neg fun v => e v.1]
        exact Nat.le_refl _
  exact Nat.le_trans (key m) H.2.2.2.2.2.2.2.2.2.2.2.1
/-- the place of field d, when its class is s above c -/
def OFF (B : Nat → Nat → Int) (nx cn ct : Nat → Int) (m c s d o : Nat) : Prop := d < m ∧ B 0 d = 1 ∧ B 4 d = 0 ∧ it nx s (c : Int) = (hkn B cn d : Int) ∧ o = gs9 nx (KF B ct m) s c + fcn B (B 3 d) d
theorem OFF.lt {s d o : Nat} (H : CF B nx cn ct fc fs V m cl) (K : OFF B nx cn ct m c s d o) : o < gs9 nx (KF B ct m) (s + 1) c := by
  obtain ⟨k1, k2, k3, k4, k5⟩ := K
  obtain ⟨h1, h2, h3⟩ := H.cls k1 (Or.inl k2)
  rw [gs9_add s 1 c fun u u1 => it_back (nx := nx) (s := s) (by omega) (by omega), k4]
  have a := fcn_mo (B := B) (o := B 3 d) (a := d + 1) m (by omega)
  rw [fcn, if_pos ⟨k2, k3, rfl⟩] at a
  show o < _ + (fcn B (ct ((hkn B cn d : Int)).toNat) m + 0)
  rw [Int.toNat_natCast, h2]
  omega
theorem gs9_mo {F : Nat → Nat} {s t : Nat} (hst : s ≤ t) (hr : ∀ u, u < t → 0 ≤ it nx u (c : Int)) : gs9 nx F s c ≤ gs9 nx F t c := by
  have := gs9_add (nx := nx) (F := F) s (t - s) c fun u u1 => hr u (by omega)
  rw [show s + (t - s) = t by omega] at this
  omega
theorem OFF.inj {s d o s' d' : Nat} (H : CF B nx cn ct fc fs V m cl) (hc : c < cl) (K : OFF B nx cn ct m c s d o) (K' : OFF B nx cn ct m c s' d' o) : d = d' := by
  have key : ∀ s s' d d', OFF B nx cn ct m c s d o → OFF B nx cn ct m c s' d' o → s < s' → False := fun s s' d d' K K' lt => by
    have l := K.lt H
    obtain ⟨_, _, _, k4, k5⟩ := K'
    have := gs9_mo (nx := nx) (F := KF B ct m) (c := c) (s := s + 1) (t := s') (by omega) fun u u1 => it_back (nx := nx) (s := s') (by omega) (by omega)
    omega
  rcases Nat.lt_trichotomy s s' with z | z | z
  · exact (key s s' d d' K K' z).elim
  · subst z
    obtain ⟨k1, k2, k3, k4, k5⟩ := K
    obtain ⟨j1, j2, j3, j4, j5⟩ := K'
    have e : B 3 d = B 3 d' := by
      rw [← (H.cls k1 (Or.inl k2)).2.1, ← (H.cls j1 (Or.inl j2)).2.1]
      congr 1
      omega
    rw [e] at k5
    have st : ∀ a b, a < b → B 0 a = 1 → B 4 a = 0 → B 3 a = B 3 d' → fcn B (B 3 d') a < fcn B (B 3 d') b := fun a b ab a1 a2 a3 => by
      have := fcn_mo (B := B) (o := B 3 d') (a := a + 1) b (by omega)
      rw [fcn, if_pos ⟨a1, a2, a3⟩] at this
      omega
    rcases Nat.lt_trichotomy d d' with w | w | w
    · have := st d d' w k2 k3 e
      omega
    · exact w
    · have := st d' d w j2 j3 rfl
      omega
  · exact (key s' s d' d K' K z).elim
/-- what stands at each place of an object of class c -/
theorem CF.tau (H : CF B nx cn ct fc fs V m cl) (hc : c < cl) : ∃ τ : Nat → Int, ∀ s d o, OFF B nx cn ct m c s d o → τ o = B 8 d := by
  have h : ∀ o, ∃ t : Int, ∀ s d, OFF B nx cn ct m c s d o → t = B 8 d := fun o => by
    by_cases h : ∃ d s, OFF B nx cn ct m c s d o
    · obtain ⟨d, s, K⟩ := h
      exact ⟨B 8 d, fun s' d' K' => by rw [K.inj H hc K']⟩
    · exact ⟨0, fun s d K => absurd ⟨d, s, K⟩ h⟩
  obtain ⟨τ, hτ⟩ := Classical.axiomOfChoice h
  exact ⟨τ, fun s d o K => hτ o s d K⟩
end CFT
