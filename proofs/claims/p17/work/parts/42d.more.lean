/-! the run: places of fields, methods that are chosen, arithmetic -/
section MORE
variable {N : Nat} {X : Nat → Int32} {d p C n m cl : Nat} {A B : Nat → Nat → Int} {nx cn ct fc fs mn : Nat → Int} {V : Nat → Nat → Prop} {M M1 : me_M}
theorem fp_26 {c o dd s o' : Nat} (H : RP p C n m cl A B nx cn ct fc fs mn V M) (CFH : CF B nx cn ct fc fs V m cl) (hc : c < cl) (K : OFF B nx cn ct m c s dd o') : ∀ (f u : Nat), s - u < f → u ≤ s → me_W (mt_G N X) 410 d 26 [some (.inr (.inl (some 164, 25, 0))), none, some (.inl (dd : Int)), some (.inl (it nx u (c : Int))), some (.inl ((o : Int) + (gs9 nx (KF B ct m) u c : Int))), some (.inl (B 3 dd))] [] M (sx_qI (fun y M' => M' = M ∧ y = (o : Int) + (o' : Int)) nt_E) := by
  obtain ⟨k1, k2, k3, k4, k5⟩ := id K
  have c8 := CFH.1
  have m5 := CFH.1.2
  intro f
  induction f with
  | zero => intro u z; omega
  | succ f ih =>
    intro u hf hu
    have p0 : 0 ≤ it nx u (c : Int) := it_back (nx := nx) (s := s) (k := (c : Int)) (by omega) hu
    have rg := it_rg CFH.2.2.2.1 u (c : Int) (by omega) (by omega)
    obtain ⟨w, hw⟩ : ∃ w : Nat, it nx u (c : Int) = (w : Int) := ⟨(it nx u (c : Int)).toNat, by omega⟩
    have cw := CFH.cls k1 (Or.inl k2)
    have R := H.2.2.1
    refine b410_26 ?_
    rw [H.1.2.1, hw]
    refine dr_s ⟨by omega, by omega, ?_⟩
    rw [Int.toNat_natCast, (R w).2.1]
    refine ⟨by rw [← (R w).2.1]; exact me_i_r _ _ _, H.1.rB (by omega), fun z => dr_s ⟨by omega, by omega, rfl, ?_⟩, fun z => dr_s ⟨by omega, by omega, dr_s ⟨by omega, by omega, ?_⟩⟩⟩
    · rw [Int.toNat_natCast, (R dd).2.2.2, CFH.2.2.2.2.2.2.2.2.2.2.1.2 dd k1 k2, k5]
      have e : w = hkn B cn dd := CFH.inj (by omega) cw.1 (by rw [z, cw.2.1])
      have : u = s := it_once CFH.1.1 CFH.2.2.2.1 CFH.2.2.2.2.1 (k := (c : Int)) (by omega) (hw.trans (by rw [e])) k4 (by omega)
      rw [this]
      omega
    · rw [(R w).2.2.1, CFH.2.2.2.2.2.2.2.2.2.2.1.1 w (by omega)]
      have us : ¬ u = s := fun e => z (by
        rw [e] at hw
        have : w = hkn B cn dd := by omega
        rw [this, cw.2.1])
      have g := gs9_add (nx := nx) (F := KF B ct m) u 1 (c : Int) fun v v1 => it_back (nx := nx) (s := s) (by omega) (by omega)
      rw [hw] at g
      have g : gs9 nx (KF B ct m) (u + 1) c = gs9 nx (KF B ct m) u c + (fcn B (ct w) m + 0) := g
      have e36 : me_i M (p + 36) w = it nx (u + 1) (c : Int) := by
        rw [show me_i M (p + 36) w = nx w from (R w).1, it_last, hw, if_neg (by omega), Int.toNat_natCast]
      rw [e36, show (o : Int) + (gs9 nx (KF B ct m) u c : Int) + ((fcn B (ct w) m : Nat) : Int) = (o : Int) + (gs9 nx (KF B ct m) (u + 1) c : Int) by omega]
      exact ih (u + 1) (by omega) (by omega)
/-- the place of a field -/
theorem fplace_w {v c o dd s o' : Nat} {E : Nat → me_M → Prop} {K : Int → me_M → Prop} (H : RP p C n m cl A B nx cn ct fc fs mn V M) (CFH : CF B nx cn ct fc fs V m cl) (hv : v ≤ 400) (c1 : me_i M 171 v = (c : Int)) (o1 : me_i M 172 v = (o : Int)) (hc : c < cl) (Kf : OFF B nx cn ct m c s dd o') (hd : 1 ≤ d) (hK : K ((o + o' : Nat) : Int) M) : ∃ d', d = d' + 1 ∧ me_W (mt_G N X) 410 d' 0 [some (.inr (.inl (some 164, 25, 0))), some (.inl (v : Int)), some (.inl (dd : Int)), none, none, none] [] M (sx_qI K E) := by
  have m5 := CFH.1.2
  have k1 := Kf.1
  refine ca_I hd (P := fun y M' => M' = M ∧ y = (o : Int) + (o' : Int)) (F := nt_E) ?_ (fun y M' _ z => by
    rw [z.1, z.2, show (o : Int) + (o' : Int) = ((o + o' : Nat) : Int) by omega]
    exact hK) nt_E_no
  refine b410_0 ⟨by omega, by omega, by omega, by omega, ?_⟩
  have c1 : me_i M (164 + 7) v = (c : Int) := c1
  have o1 : me_i M (164 + 8) v = (o : Int) := o1
  rw [H.1.2.1, Int.toNat_natCast, c1, o1]
  refine dr_s ⟨by omega, by omega, ?_⟩
  rw [Int.toNat_natCast, show me_i M (p + 28) dd = B 3 dd from H.1.2.2.2.2.1 3 dd (by omega)]
  have := fp_26 (N := N) (X := X) (d := d - 1) (o := o) H CFH hc Kf (s + 1) 0 (by omega) (Nat.zero_le _)
  have e : (o : Int) + (gs9 nx (KF B ct m) 0 c : Int) = (o : Int) := by
    show (o : Int) + ((0 : Nat) : Int) = o
    omega
  rw [e] at this
  exact this
/-- behind a member -/
theorem after_w {h : Nat} {E : Nat → me_M → Prop} {K : Int → me_M → Prop} (H : RP p C n m cl A B nx cn ct fc fs mn V M) (CFH : CF B nx cn ct fc fs V m cl) (hm : h < m) (h2 : B 0 h = 2) (hd : 1 ≤ d) (hK : ∀ a : Nat, h < a → a ≤ h + 610 → (∀ q, q < m → B 3 q = (h : Int) → (B 0 q = 3 ∨ B 0 q = 4) → q < a) → K (a : Int) M) : ∃ d', d = d' + 1 ∧ me_W (mt_G N X) 419 d' 0 [some (.inr (.inl (some p, 29, 0))), some (.inl (h : Int)), none] [] M (sx_qI K E) := by
  have m5 := CFH.1.2
  refine ca_I hd (P := fun y M' => M' = M ∧ ∃ a : Nat, y = (a : Int) ∧ (h < a ∧ a ≤ m) ∧ (∀ j, h < j → j < a → 3 ≤ B 0 j) ∧ (a = m ∨ B 0 a ≤ 2)) (F := nt_E) ?_ (fun y M' _ z => ?_) nt_E_no
  · refine b419_0 ?_
    have key : ∀ (f x : Nat), m - x < f → h < x → x ≤ m → (∀ j, h < j → j < x → 3 ≤ B 0 j) → me_W (mt_G N X) 419 (d - 1) 4 [some (.inr (.inl (some p, 29, 0))), none, some (.inl (x : Int))] [] M (sx_qI (fun y M' => M' = M ∧ ∃ a : Nat, y = (a : Int) ∧ (h < a ∧ a ≤ m) ∧ (∀ j, h < j → j < a → 3 ≤ B 0 j) ∧ (a = m ∨ B 0 a ≤ 2)) nt_E) := by
      intro f
      induction f with
      | zero => intro x z; omega
      | succ f ih =>
        intro x hf hx hxm hj
        refine b419_4 ?_
        rw [H.2.1.2.1, Int.toNat_natCast, show me_i M (p + 25) x = B 0 x from H.1.2.2.2.2.1 0 x (by omega)]
        refine ⟨⟨by omega, by omega⟩, ⟨by omega, by omega⟩, fun z => ⟨rfl, x, rfl, ⟨hx, hxm⟩, hj, Or.inl (by omega)⟩, fun z => ⟨by omega, by omega, H.1.rB (by omega), ⟨by omega, by omega⟩, fun z1 => ⟨rfl, x, rfl, ⟨hx, hxm⟩, hj, Or.inr z1⟩, fun z1 => ?_⟩⟩
        rw [show (x : Int) + 1 = ((x + 1 : Nat) : Int) by omega]
        refine ih (x + 1) (by omega) (by omega) (by omega) fun j j1 j2 => ?_
        by_cases e : j = x
        · rw [e]
          omega
        · exact hj j j1 (by omega)
    rw [show (h : Int) + 1 = ((h + 1 : Nat) : Int) by omega]
    exact key (m + 1) (h + 1) (by omega) (by omega) (by omega) fun j j1 j2 => by omega
  · obtain ⟨rfl, a, rfl, ⟨a1, a2⟩, a3, a4⟩ := z
    refine hK a a1 ?_ fun q q1 q2 q3 => ?_
    · by_cases e : a = h + 1
      · omega
      · have := (CFH.2.2.2.2.2.2.2.2.2.1 h (a - 1) (by omega) h2 (by omega) fun j j1 j2 => a3 j j1 (by omega)).2
        omega
    · obtain ⟨h', b1, b2, b3, b4, _⟩ := CFH.2.2.2.2.2.2.1 q q1 q3
      have : h' = h := by omega
      subst h'
      rcases Nat.lt_or_ge q a with c | c
      · exact c
      · have := b4 a a1 c
        rcases a4 with a4 | a4 <;> omega
/-- what the model's arithmetic tells -/
theorem both_w {x1 x2 x3 : Int} {E : Nat → me_M → Prop} {K : Int → me_M → Prop} (r1 : me_r x1) (r2 : me_r x2) (r3 : me_r x3) (hd : 2 ≤ d) (hE : ∀ M', fr (fun b j => b = 164 ∧ (j = 7 ∨ j = 8)) M M' → E 167 M') (hK : ∀ y, K y M) : ∃ d', d = d' + 1 ∧ me_W (mt_G N X) 416 d' 0 [some (.inr (.inl (some 164, 25, 0))), some (.inl x1), some (.inl x2), some (.inl x3)] [] M (sx_qI K E) := by
  refine ca_I (by omega) (P := fun y M' => M' = M) (F := fun e M' => e = 167 ∧ fr (fun b j => b = 164 ∧ (j = 7 ∨ j = 8)) M M') ?_ (fun y M' _ z => by rw [z]; exact hK y) fun a M' _ z => by
    rw [z.1]
    exact hE M' z.2
  have r47 : me_r 47 := ⟨by omega, by omega⟩
  refine b416_0 ⟨r1, fun _ => rfl, fun _ => ⟨fun _ => rfl, fun _ => ⟨fun _ => rfl, fun _ => ⟨fun _ => ⟨r2, r3, fun _ => rfl, fun _ => rfl⟩, fun _ => ⟨fun _ => ⟨r2, r3, fun _ => rfl, fun _ => rfl⟩, fun _ => ⟨fun _ => ⟨r2, r3, fun _ => rfl, fun _ => rfl⟩, fun _ => ⟨fun _ => ⟨r2, r3, fun _ => rfl, fun _ => rfl⟩, fun _ => ⟨fun _ => ⟨r2, r3, fun _ => rfl, fun _ => rfl⟩, fun _ => ⟨fun _ => ⟨r2, r3, fun _ => rfl, fun _ => rfl⟩, fun _ => ⟨r3, fun z => ⟨r1, r47, fun _ => ⟨r2, r3, z, rfl⟩, fun _ => ⟨r2, r3, z, rfl⟩⟩, fun z => ?_⟩⟩⟩⟩⟩⟩⟩⟩⟩⟩
  exact fails_w (by omega) fun M' f => ⟨rfl, f⟩
/-- classes and methods, as the judge's methods want them -/
theorem RP.cs (H : RP p C n m cl A B nx cn ct fc fs mn V M) (CFH : CF B nx cn ct fc fs V m cl) : CS p M cl m := by
  have R := H.2.2.1
  have b0 : ∀ q, tA p M 0 q = B 0 q := fun q => H.1.2.2.2.2.1 0 q (by omega)
  have c0 : ∀ q, me_i M (p + 37) q = cn q := H.1.2.2.2.2.2.2.1
  refine ⟨H.2.1.2.2, CFH.1.1, fun i i1 => ?_, fun q q1 q2 => ?_, fun i i1 => ?_⟩
  · obtain ⟨q, a1, a2, a3, a4⟩ := CFH.2.1 i i1
    exact ⟨q, by rw [(R i).2.1, a1], a2, by rw [b0, a3], by rw [c0, a4]⟩
  · rw [b0] at q2
    obtain ⟨i, a1, a2, a3⟩ := CFH.2.2.1 q q1 q2
    exact ⟨i, a1, by rw [c0, a2], by rw [(R i).2.1, a3]⟩
  · rw [(R i).1]
    exact CFH.2.2.2.1 i i1
theorem RP.mtd {a : Nat} (H : RP p C n m cl A B nx cn ct fc fs mn V M) (CFH : CF B nx cn ct fc fs V m cl) (ha : a < m) (h2 : B 0 a = 2) : mtd p M a := by
  have b9 : tA p M 9 a = B 9 a := H.1.2.2.2.2.1 9 a (by omega)
  have b1 : tA p M 1 a = B 1 a := H.1.2.2.2.2.1 1 a (by omega)
  have m5 := CFH.1.2
  obtain ⟨⟨q1, q2, q3⟩, _⟩ := CFH.2.2.2.2.2.2.2.2.1 a ha h2
  have k := H.2.2.2.1 a ha
  refine ⟨by omega, by omega, by omega, (B 1 a).toNat, by omega, H.1.2.2.2.2.2.2.2.2 _ (by omega)⟩
theorem RP.own {a : Nat} (H : RP p C n m cl A B nx cn ct fc fs mn V M) (CFH : CF B nx cn ct fc fs V m cl) (ha : a < m) (h2 : B 0 a = 2) : ∃ q : Nat, tA p M 3 a = (q : Int) ∧ q < m ∧ tA p M 0 q = 0 := by
  obtain ⟨o, o1, o2, o3, _⟩ := CFH.2.2.2.2.2.1 a ha (Or.inr h2)
  exact ⟨o, by rw [show tA p M 3 a = B 3 a from H.1.2.2.2.2.1 3 a (by omega), o1], by omega, by rw [show tA p M 0 o = B 0 o from H.1.2.2.2.2.1 0 o (by omega), o3]⟩
/-- which method is called: what may be found for a in class c -/
def CHS (B : Nat → Nat → Int) (nx cn : Nat → Int) (V : Nat → Nat → Prop) (m c a q : Nat) : Prop := q < m ∧ (q = a ∨ B 0 q = 2 ∧ V q a ∧ up nx c (hkn B cn q))
/-- what was found in this run -/
def CHO (B : Nat → Nat → Int) (nx cn : Nat → Int) (V : Nat → Nat → Prop) (m cl : Nat) (M : me_M) : Prop := ∀ c a, c < cl → a < m → me_i M 190 (2408 * c + a) = me_i M 164 49 → ∃ q : Nat, me_i M 191 (2408 * c + a) = (q : Int) ∧ CHS B nx cn V m c a q
def cP (i : Nat) : Nat → Nat → Prop := fun b j => (b = 190 ∨ b = 191) ∧ j = i
theorem cho_45 {c a : Nat} {Q : me_Q} (H : RP p C n m cl A B nx cn ct fc fs mn V M) (CFH : CF B nx cn ct fc fs V m cl) (hc : c < cl) (ha : a < m) (h2 : B 0 a = 2) (hd : 5 ≤ d) (HQ : ∀ q : Nat, CHS B nx cn V m c a q → ∀ M', gx (cP (2408 * c + a)) no2 M M' → fr (cP (2408 * c + a)) M M' → me_i M' 190 (2408 * c + a) = me_i M 164 49 → me_i M' 191 (2408 * c + a) = (q : Int) → Q (.inr (some (.inl (q : Int)))) M') : ∀ (r u q : Nat) (x6 : Int), 9 - u < r → u ≤ 8 → CHS B nx cn V m c a q → x6 = 0 ∨ x6 = 1 → me_W (mt_G N X) 420 d 45 [some (.inr (.inl (some 164, 25, 0))), some (.inl (a : Int)), none, some (.inr (.inl (some p, 29, 0))), some (.inl ((2408 * c + a : Nat) : Int)), some (.inl (q : Int)), some (.inl x6), some (.inl (it nx u (c : Int))), none] [] M Q := by
  have c8 := CFH.1.1
  have m5 := CFH.1.2
  have R := H.2.2.1
  have GA0 := H.1.1
  have fin : ∀ q : Nat, CHS B nx cn V m c a q → 0 ≤ ((2408 * c + a : Nat) : Int) ∧ ((2408 * c + a : Nat) : Int) < ((19264 : Nat) : Int) ∧ let M1 : me_M := me_sI M (164 + 26) ((2408 * c + a : Nat) : Int).toNat (Int32.ofInt (me_i M 164 49)); 0 ≤ ((2408 * c + a : Nat) : Int) ∧ ((2408 * c + a : Nat) : Int) < ((19264 : Nat) : Int) ∧ let M2 : me_M := me_sI M1 (164 + 27) ((2408 * c + a : Nat) : Int).toNat (Int32.ofInt (q : Int)); Q (.inr (some (.inl (q : Int)))) M2 := fun q hq => by
    refine ⟨by omega, by omega, ?_⟩
    intro M1
    refine ⟨by omega, by omega, ?_⟩
    intro M2
    have f1 : fr (cP (2408 * c + a)) M M1 := fr_sI ⟨Or.inl rfl, by omega⟩
    have f2 : fr (cP (2408 * c + a)) M1 M2 := fr_sI ⟨Or.inr rfl, by omega⟩
    have f := f1.tr f2
    refine HQ q hq M2 (gx.of GA0 f fun b j z => ?_) f ?_ ?_
    · unfold oka
      have := z.1
      omega
    · show me_i (me_sI (me_sI M 190 (2408 * c + a) (Int32.ofInt (me_i M 164 49))) 191 (2408 * c + a) (Int32.ofInt (q : Int))) 190 (2408 * c + a) = _
      rw [me_i_sI, if_neg (by omega), me_i_sI, if_pos ⟨rfl, rfl⟩, me_to (me_i_r _ _ _)]
    · show me_i (me_sI (me_sI M 190 (2408 * c + a) (Int32.ofInt (me_i M 164 49))) 191 (2408 * c + a) (Int32.ofInt (q : Int))) 191 (2408 * c + a) = _
      rw [me_i_sI, if_pos ⟨rfl, rfl⟩, me_to ⟨by have := hq.1; omega, by have := hq.1; omega⟩]
  intro r
  induction r with
  | zero => intro u q x6 z; omega
  | succ r ih =>
    intro u q x6 hr hu hq h6
    have rg := it_rg CFH.2.2.2.1 u (c : Int) (by omega) (by omega)
    refine b420_45 ⟨⟨by omega, by omega⟩, fun _ => fin q hq, fun z => ⟨⟨by omega, by omega⟩, fun _ => fin q hq, fun z6 => dr_s ⟨by omega, by omega, ?_⟩⟩⟩
    have lg := it_long c8 CFH.2.2.2.1 CFH.2.2.2.2.1 (s := u) (k := (c : Int)) (by omega) z
    obtain ⟨w, hw⟩ : ∃ w : Nat, it nx u (c : Int) = (w : Int) := ⟨(it nx u (c : Int)).toNat, by omega⟩
    obtain ⟨o, o1, o2, o3, o4⟩ := CFH.2.1 w (by omega)
    have inner : ∀ (f x q : Nat) (x6 : Int), m - x < f → o < x → x ≤ m → (∀ j, o < j → j < x → ¬ B 0 j = 0) → CHS B nx cn V m c a q → x6 = 0 ∨ x6 = 1 → me_W (mt_G N X) 420 d 66 [some (.inr (.inl (some 164, 25, 0))), some (.inl (a : Int)), none, some (.inr (.inl (some p, 29, 0))), some (.inl ((2408 * c + a : Nat) : Int)), some (.inl (q : Int)), some (.inl x6), some (.inl (w : Int)), some (.inl (x : Int))] [] M Q := by
      intro f
      induction f with
      | zero => intro x q x6 z; omega
      | succ f ih2 =>
        intro x q x6 hf hx hxm hj hq h6
        have e36 : me_i M (p + 36) w = it nx (u + 1) (c : Int) := by
          rw [show me_i M (p + 36) w = nx w from (R w).1, it_last, hw, if_neg (by omega), Int.toNat_natCast]
        have out : me_W (mt_G N X) 420 d 45 [some (.inr (.inl (some 164, 25, 0))), some (.inl (a : Int)), none, some (.inr (.inl (some p, 29, 0))), some (.inl ((2408 * c + a : Nat) : Int)), some (.inl (q : Int)), some (.inl x6), some (.inl (it nx (u + 1) (c : Int))), none] [] M Q := ih (u + 1) q x6 (by omega) (by omega) hq h6
        have b0 : ∀ j, me_i M (p + 25) j = B 0 j := fun j => H.1.2.2.2.2.1 0 j (by omega)
        have rb : ∀ j, me_r (B 0 j) := fun j => H.1.rB (by omega)
        refine b420_66 (dr_s ?_)
        simp only [dr_eq, H.2.1.2.1, Int.toNat_natCast, e36, b0]
        have nx1 : (x : Int) + 1 = ((x + 1 : Nat) : Int) := by omega
        refine ⟨⟨by omega, by omega⟩, ⟨by omega, by omega⟩, fun _ => ⟨by omega, by omega, out⟩, fun zx => ⟨by omega, by omega, rb x, fun _ => ⟨by omega, by omega, out⟩, fun z0 => ⟨⟨by omega, by omega⟩, fun _ => ⟨by omega, by omega, out⟩, fun z6 => ⟨⟨by omega, by omega⟩, ⟨by omega, by omega⟩, fun za => ?_, fun za => ⟨by omega, by omega, rb x, ⟨by omega, by omega⟩, fun z2 => ?_, fun z2 => ?_⟩⟩⟩⟩⟩
        · rw [nx1]
          refine ih2 (x + 1) x 0 (by omega) (by omega) (by omega) (fun j j1 j2 => ?_) ⟨by omega, Or.inl (by omega)⟩ (Or.inl rfl)
          by_cases e : j = x
          · rw [e]
            exact z0
          · exact hj j j1 (by omega)
        · rw [nx1]
          refine ih2 (x + 1) q x6 (by omega) (by omega) (by omega) (fun j j1 j2 => ?_) hq h6
          by_cases e : j = x
          · rw [e]
            exact z0
          · exact hj j j1 (by omega)
        · have hj2 : ∀ j, o < j → j < x + 1 → ¬ B 0 j = 0 := fun j j1 j2 => by
            by_cases e : j = x
            · rw [e]
              exact z0
            · exact hj j j1 (by omega)
          refine ca_I (by omega) (c_352 (by omega) H.1.2.2.2.2.2.2.2.1 (H.cs CFH) (by omega) (H.mtd CFH (show x < m by omega) z2) (H.mtd CFH ha h2) (H.own CFH (show x < m by omega) z2) (H.own CFH ha h2)) (fun y M8 _ g => ?_) nt_E_no
          obtain ⟨rfl, g⟩ := g
          rw [nx1]
          refine ⟨⟨by omega, by omega⟩, fun _ => ih2 (x + 1) q x6 (by omega) (by omega) (by omega) hj2 hq h6, fun zy => ih2 (x + 1) x 0 (by omega) (by omega) (by omega) hj2 ⟨by omega, Or.inr ⟨z2, H.2.2.2.2 x a (by omega) ha z2 h2 ?_, ?_⟩⟩ (Or.inl rfl)⟩
          · rcases g with g | g
            · exact g.2
            · exact absurd g.1 zy
          · have own : B 3 x = (o : Int) := CFH.own_is (by omega) (Or.inr z2) hx o3 fun j j1 j2 => hj2 j j1 (by omega)
            have k := CFH.cls (q := x) (by omega) (Or.inr z2)
            have := CFH.inj (i := hkn B cn x) (j := w) k.1 (by omega) (by rw [k.2.1, own, o1])
            rw [this, ← hw]
            exact ⟨by omega, u, rfl⟩
    rw [hw, Int.toNat_natCast, (R w).2.1, o1, show (o : Int) + 1 = ((o + 1 : Nat) : Int) by omega]
    exact inner (m + 1) (o + 1) q x6 (by omega) (by omega) (by omega) (fun j j1 j2 => by omega) hq h6
theorem chosen_w {c a : Nat} {E : Nat → me_M → Prop} {K : Int → me_M → Prop} (H : RP p C n m cl A B nx cn ct fc fs mn V M) (CFH : CF B nx cn ct fc fs V m cl) (hc : c < cl) (ha : a < m) (h2 : B 0 a = 2) (hd : 6 ≤ d) (CH : CHO B nx cn V m cl M) (hK : ∀ (q : Nat) M', CHS B nx cn V m c a q → (M' = M ∨ gx (cP (2408 * c + a)) no2 M M' ∧ fr (cP (2408 * c + a)) M M' ∧ me_i M' 190 (2408 * c + a) = me_i M 164 49) → CHO B nx cn V m cl M' → K (q : Int) M') : ∃ d', d = d' + 1 ∧ me_W (mt_G N X) 420 d' 0 [some (.inr (.inl (some 164, 25, 0))), some (.inl (a : Int)), some (.inl (c : Int)), none, none, none, none, none, none] [] M (sx_qI K E) := by
  have c8 := CFH.1.1
  have m5 := CFH.1.2
  refine ca_I (by omega) (P := fun y M' => ∃ q : Nat, y = (q : Int) ∧ CHS B nx cn V m c a q ∧ (M' = M ∨ gx (cP (2408 * c + a)) no2 M M' ∧ fr (cP (2408 * c + a)) M M' ∧ me_i M' 190 (2408 * c + a) = me_i M 164 49) ∧ CHO B nx cn V m cl M') (F := nt_E) ?_ (fun y M' _ z => by
    obtain ⟨q, z1, z2, z3, z4⟩ := z
    rw [z1]
    exact hK q M' z2 z3 z4) nt_E_no
  refine b420_0 ?_
  have i9 : me_i M (164 + 26) (2408 * (c : Int) + (a : Int)).toNat = me_i M 190 (2408 * c + a) := by
    rw [show (2408 * (c : Int) + (a : Int)).toNat = 2408 * c + a by omega]
  have i91 : me_i M (164 + 27) (2408 * (c : Int) + (a : Int)).toNat = me_i M 191 (2408 * c + a) := by
    rw [show (2408 * (c : Int) + (a : Int)).toNat = 2408 * c + a by omega]
  rw [i9, i91]
  refine ⟨by omega, by omega, me_i_r _ _ _, me_i_r _ _ _, fun z => ?_, fun z => ⟨by omega, by omega, ?_⟩⟩
  · rw [H.1.2.1, show 2408 * (c : Int) + (a : Int) = ((2408 * c + a : Nat) : Int) by omega]
    refine cho_45 H CFH hc ha h2 (by omega) (fun q hq M' g f e1 e2 => ⟨q, rfl, hq, Or.inr ⟨g, f, e1⟩, fun c' a' c1 a1 z' => ?_⟩) 10 0 a 1 (by omega) (by omega) ⟨ha, Or.inl rfl⟩ (Or.inr rfl)
    rw [show me_i M' 164 49 = me_i M 164 49 from f.i fun w => by have := w.1; omega] at z'
    by_cases e : 2408 * c' + a' = 2408 * c + a
    · have : c' = c := by omega
      have : a' = a := by omega
      subst c' a'
      exact ⟨q, e2, hq⟩
    · rw [f.i fun w => e w.2] at z'
      rw [f.i fun w => e w.2]
      exact CH c' a' c1 a1 z'
  · obtain ⟨q, q1, q2⟩ := CH c a hc ha z
    exact ⟨q, q1, q2, Or.inl rfl, CH⟩
end MORE
