/-! the reference's judge: typeOfCall -/
/-- as many things of methods as there are methods, at most -/
theorem mcn_inj {B : Nat → Nat → Int} : ∀ (D : Nat) (f : Nat → Nat) (k : Nat), (∀ i, i < k → f i < D ∧ B 0 (f i) = 2) → (∀ i j, i < j → j < k → ¬ f i = f j) → k ≤ mcn B D := by
  intro D
  induction D with
  | zero =>
    intro f k h _
    by_cases c : k = 0
    · omega
    · have := (h 0 (by omega)).1
      omega
  | succ D ih =>
    intro f k h hd
    by_cases c : ∃ i, i < k ∧ f i = D
    · obtain ⟨a, a1, a2⟩ := c
      have r := ih (fun i => if i < a then f i else f (i + 1)) (k - 1) (fun i i1 => by
        by_cases c : i < a
        · show (if i < a then f i else f (i + 1)) < D ∧ B 0 (if i < a then f i else f (i + 1)) = 2
          rw [if_pos c]
          have := h i (by omega)
          have := hd i a c a1
          exact ⟨by omega, (h i (by omega)).2⟩
        · show (if i < a then f i else f (i + 1)) < D ∧ B 0 (if i < a then f i else f (i + 1)) = 2
          rw [if_neg c]
          have := h (i + 1) (by omega)
          have := hd a (i + 1) (by omega) (by omega)
          exact ⟨by omega, (h (i + 1) (by omega)).2⟩) (fun i j ij jk => by
        show ¬ (if i < a then f i else f (i + 1)) = (if j < a then f j else f (j + 1))
        by_cases c : j < a
        · rw [if_pos c, if_pos (by omega)]
          exact hd i j ij (by omega)
        · rw [if_neg c]
          by_cases c2 : i < a
          · rw [if_pos c2]
            exact hd i (j + 1) (by omega) (by omega)
          · rw [if_neg c2]
            exact hd (i + 1) (j + 1) (by omega) (by omega))
      have b := (h a a1).2
      rw [a2] at b
      rw [mcn, if_pos (Or.inr b)]
      omega
    · have r := ih f k (fun i i1 => by
        have := h i i1
        by_cases c2 : f i = D
        · exact absurd ⟨i, i1, c2⟩ c
        · exact ⟨by omega, this.2⟩) hd
      rw [mcn]
      omega
/-- what the static and the kind of a call want of q -/
def so (B : Nat → Nat → Int) (x4 : Int) (q : Nat) : Prop := (x4 = 1 → B 4 q = 0) ∧ (x4 = 2 → B 4 q = 1)
/-- those that might be meant, while class k is looked through up to its telling j -/
def CI (p : Nat) (Mb : me_M) (m : Nat) (c x4 na : Int) (T : Nat → Int) (ks : List Nat) (M M1 : me_M) (cnt : Nat) (old : Nat → Prop) : Prop :=
  fr (fun b _ => b = p + 42) M M1 ∧ (∀ i, i < cnt → ∃ q : Nat, me_i M1 (p + 42) i = (q : Int) ∧ q < m ∧ tA p Mb 0 q = 2 ∧ tA p Mb 9 q = na ∧ so (tA p Mb) x4 q ∧ ME8 (tA p Mb) (sp p Mb) (fun q => me_i Mb (p + 37) q) m c q ∧ AF (sp p Mb) T (tA p Mb 8) (q + 1) ks ∧ old q) ∧ ∀ i j, i < j → j < cnt → ¬ me_i M1 (p + 42) i = me_i M1 (p + 42) j
theorem CHN.eq {A A' : Nat → Nat → Int} (e : ∀ a, A' 7 a = A 7 a) : ∀ {ks : List Nat} {x : Int}, CHN A x ks → CHN A' x ks
  | [], _, h => h
  | a :: r, _, h => ⟨h.1, CHN.eq e (by rw [e a]; exact h.2)⟩
section CALL
variable {N : Nat} {X : Nat → Int32} {d p C n m cl h hc kn lo e x k sz : Nat} {Φ : Nat → Nat} {Mb M M' : me_M} {y c x3 x4 : Int} {T : Nat → Int} {ks : List Nat} {w : Nat}
theorem CI.le {na : Int} {M1 : me_M} {cnt : Nat} {old : Nat → Prop} (E : EB p C n m cl Φ Mb h hc) (H : CI p Mb m c x4 na T ks M M1 cnt old) : cnt ≤ 192 := by
  have a := E.1.2.2.2.2.2.2
  have b := mcn_inj (B := tA p Mb) m (fun i => (me_i M1 (p + 42) i).toNat) cnt (fun i i1 => by
    obtain ⟨q, q1, q2, q3, _⟩ := H.2.1 i i1
    show (me_i M1 (p + 42) i).toNat < m ∧ _
    rw [q1, Int.toNat_natCast]
    exact ⟨q2, q3⟩) (fun i j ij jk => by
    obtain ⟨q, q1, _⟩ := H.2.1 i (by omega)
    obtain ⟨q', q1', _⟩ := H.2.1 j jk
    have := H.2.2 i j ij jk
    show ¬ (me_i M1 (p + 42) i).toNat = (me_i M1 (p + 42) j).toNat
    omega)
  omega
/-- one more -/
theorem CI.put {na : Int} {M1 : me_M} {cnt q : Nat} {old old' : Nat → Prop} (H : CI p Mb m c x4 na T ks M M1 cnt old) (hq : q < m) (h2 : tA p Mb 0 q = 2) (hn : tA p Mb 9 q = na) (hs : so (tA p Mb) x4 q) (hM : ME8 (tA p Mb) (sp p Mb) (fun q => me_i Mb (p + 37) q) m c q) (hA : AF (sp p Mb) T (tA p Mb 8) (q + 1) ks) (hm : m ≤ 2405) (ho : ∀ q', old q' → ¬ q' = q) (ho2 : ∀ q', old q' → old' q') (ho3 : old' q) : CI p Mb m c x4 na T ks M (me_sI M1 (p + 42) cnt (Int32.ofInt (q : Int))) (cnt + 1) old' := by
  obtain ⟨f, h1, h3⟩ := H
  have v : ∀ i, me_i (me_sI M1 (p + 42) cnt (Int32.ofInt (q : Int))) (p + 42) i = if i = cnt then (q : Int) else me_i M1 (p + 42) i := fun i => by
    rw [me_i_sI]
    by_cases c : i = cnt
    · rw [if_pos ⟨rfl, c⟩, if_pos c, me_to ⟨by omega, by omega⟩]
    · rw [if_neg (by omega), if_neg c]
  refine ⟨f.tr (fr_sI rfl), fun i i1 => ?_, fun i j ij jk => ?_⟩
  · rw [v]
    by_cases c : i = cnt
    · rw [if_pos c]
      exact ⟨q, rfl, hq, h2, hn, hs, hM, hA, ho3⟩
    · rw [if_neg c]
      obtain ⟨q', a1, a2, a3, a4, a5, a6, a7, a8⟩ := h1 i (by omega)
      exact ⟨q', a1, a2, a3, a4, a5, a6, a7, ho2 _ a8⟩
  · rw [v, v, if_neg (show ¬ i = cnt by omega)]
    by_cases c : j = cnt
    · rw [if_pos c]
      obtain ⟨q', a1, a2, a3, a4, a5, a6, a7, a8⟩ := h1 i (by omega)
      have := ho _ a8
      omega
    · rw [if_neg c]
      exact h3 i j ij (by omega)
theorem CI.mo {na : Int} {M1 : me_M} {cnt : Nat} {old old' : Nat → Prop} (H : CI p Mb m c x4 na T ks M M1 cnt old) (ho : ∀ q, q < m → old q → old' q) : CI p Mb m c x4 na T ks M M1 cnt old' := ⟨H.1, fun i i1 => by
  obtain ⟨q', a1, a2, a3, a4, a5, a6, a7, a8⟩ := H.2.1 i i1
  exact ⟨q', a1, a2, a3, a4, a5, a6, a7, ho _ a2 a8⟩, H.2.2⟩
/-- q's class lies higher than k in its chain -/
def hig (p : Nat) (Mb : me_M) (k : Int) (q : Nat) : Prop := ∃ o i : Nat, tA p Mb 3 q = (o : Int) ∧ me_i Mb (p + 37) o = (i : Int) ∧ rank (sp p Mb) k < rank (sp p Mb) i
theorem call_75 {Q : me_Q} (E : EB p C n m cl Φ Mb h hc) (S : ES p Mb h hc m kn lo e M) (hw : w < C) (hd : 3 ≤ d) (hcn : CHN (nA p Mb) x3 ks) (hks : ∀ a, a ∈ ks → a < n ∧ ty_x cl (T a)) (hT : ∀ a, nA p M 9 a = T a) (hlen : ks.length ≤ 2405) (h4 : x4 = 0 ∨ x4 = 1 ∨ x4 = 2)
    (HE : ∀ (M1 : me_M) (cnt : Nat) (x8 : Int), me_r x8 → CI p Mb m c x4 (ks.length : Int) T ks M M1 cnt (fun _ => True) → me_W (mt_G N X) 348 d 75 [some (.inr (.inl (some p, 29, 0))), none, none, some (.inl x3), some (.inl x4), some (.inl (ks.length : Int)), none, some (.inl (w : Int)), some (.inl x8), some (.inl (cnt : Int)), some (.inl (-1)), none] [] M1 Q) :
    ∀ (r : Nat) (k : Int), -1 ≤ k → k < cl → (0 ≤ k → up (sp p Mb) c k) → rank (sp p Mb) k < r → ∀ (M1 : me_M) (cnt : Nat) (x8 : Int), me_r x8 → CI p Mb m c x4 (ks.length : Int) T ks M M1 cnt (fun q => 0 ≤ k → hig p Mb k q) → me_W (mt_G N X) 348 d 75 [some (.inr (.inl (some p, 29, 0))), none, none, some (.inl x3), some (.inl x4), some (.inl (ks.length : Int)), none, some (.inl (w : Int)), some (.inl x8), some (.inl (cnt : Int)), some (.inl k), none] [] M1 Q := by
  have n7 := E.n7
  obtain ⟨s1, s2, s3, s4, s5⟩ := E.1.2.2.2.1
  intro r
  induction r with
  | zero => intro k _ _ _ h; omega
  | succ r ih =>
    intro k k1 k2 k3 hr M1 cnt x8 r8 I
    by_cases kc : k < 0
    · rw [show k = -1 by omega]
      exact HE M1 cnt x8 r8 (I.mo fun _ _ _ => trivial)
    · obtain ⟨i, hi⟩ : ∃ i : Nat, k = (i : Int) := ⟨k.toNat, by omega⟩
      subst hi
      obtain ⟨q, q1, q2, q3, q4⟩ := s3 i (by omega)
      have S1 : ES p Mb h hc m kn lo e M1 := S.fr I.1 (fun b j z => by omega) (by rw [I.1.i (by omega)]; exact S.2.2.1)
      refine b348_75 ⟨⟨by omega, by omega⟩, fun z => by omega, fun _ => ⟨by omega, by omega, ?_⟩⟩
      rw [Int.toNat_natCast, show me_i M1 (p + 35) i = (q : Int) from (S1.1.i (by unfold rJ; omega)).trans q1]
      have r5 := s5 i (by omega)
      have nxt : ∀ (M2 : me_M) (cnt2 : Nat) (x82 : Int), me_r x82 → CI p Mb m c x4 (ks.length : Int) T ks M M2 cnt2 (fun q' => hig p Mb i q' ∨ ∃ o : Nat, tA p Mb 3 q' = (o : Int) ∧ me_i Mb (p + 37) o = (i : Int)) → me_W (mt_G N X) 348 d 75 [some (.inr (.inl (some p, 29, 0))), none, none, some (.inl x3), some (.inl x4), some (.inl (ks.length : Int)), none, some (.inl (w : Int)), some (.inl x82), some (.inl (cnt2 : Int)), some (.inl (me_i Mb (p + 36) i)), none] [] M2 Q := fun M2 cnt2 x82 r82 I2 => by
        have rl := rank_lt s2 s5 E.1.2.2.2.2.1 (i := i) (by omega)
        have rl' : rank (sp p Mb) (me_i Mb (p + 36) i) < rank (sp p Mb) (i : Int) := rl
        refine ih (me_i Mb (p + 36) i) (by have := r5.1; exact this) (by have := r5.2; exact this) (fun z => ?_) (by omega) M2 cnt2 x82 r82 (I2.mo fun q' _ z z2 => ?_)
        · have u := (k3 (by omega)).nx (by rw [Int.toNat_natCast]; exact z)
          rw [Int.toNat_natCast] at u
          exact u
        · rcases z with ⟨o, i', b1, b2, b3⟩ | ⟨o, b1, b2⟩
          · exact ⟨o, i', b1, b2, by omega⟩
          · exact ⟨o, i, b1, b2, rl'⟩
      have inner : ∀ (f j : Nat) (M2 : me_M) (cnt2 : Nat) (x82 : Int), m - j ≤ f → q < j → j ≤ m → (∀ l, q < l → l < j → ¬ tA p Mb 0 l = 0) → me_r x82 → CI p Mb m c x4 (ks.length : Int) T ks M M2 cnt2 (fun q' => hig p Mb i q' ∨ q' < j ∧ ∃ o : Nat, tA p Mb 3 q' = (o : Int) ∧ me_i Mb (p + 37) o = (i : Int)) → me_W (mt_G N X) 348 d 91 [some (.inr (.inl (some p, 29, 0))), none, none, some (.inl x3), some (.inl x4), some (.inl (ks.length : Int)), none, some (.inl (w : Int)), some (.inl x82), some (.inl (cnt2 : Int)), some (.inl (i : Int)), some (.inl (j : Int))] [] M2 Q := by
        intro f
        induction f with
        | zero =>
          intro j M2 cnt2 x82 f1 j1 j2 j3 r82 I2
          have S2 : ES p Mb h hc m kn lo e M2 := S.fr I2.1 (fun b j z => by omega) (by rw [I2.1.i (by omega)]; exact S.2.2.1)
          have m7 := (S2.js E).m7
          refine b348_91 ?_
          rw [(S2.js E).1.2.2.2.1, Int.toNat_natCast, show me_i M2 (p + 36) i = me_i Mb (p + 36) i from S2.1.i (by unfold rJ; omega)]
          exact ⟨⟨by omega, by omega⟩, ⟨by omega, by omega⟩, fun _ => ⟨by omega, by omega, nxt M2 cnt2 x82 r82 (I2.mo fun q' _ z => z.imp id fun v => v.2)⟩, fun z => by omega⟩
        | succ f ihf =>
          intro j M2 cnt2 x82 f1 j1 j2 j3 r82 I2
          have S2 : ES p Mb h hc m kn lo e M2 := S.fr I2.1 (fun b j z => by omega) (by rw [I2.1.i (by omega)]; exact S.2.2.1)
          have J2 := S2.js E
          have m7 := J2.m7
          have le := I2.le E
          have nx2 := nxt M2 cnt2 x82 r82 (I2.mo fun q' _ z => z.imp id fun v => v.2)
          refine b348_91 ?_
          rw [J2.1.2.2.2.1, Int.toNat_natCast, Int.toNat_natCast, Int.toNat_natCast, show me_i M2 (p + 36) i = me_i Mb (p + 36) i from S2.1.i (by unfold rJ; omega)]
          refine ⟨⟨by omega, by omega⟩, ⟨by omega, by omega⟩, fun _ => ⟨by omega, by omega, nx2⟩, fun z => ?_⟩
          have jm : j < m := by omega
          obtain ⟨v, v1, v2⟩ := J2.hn j jm
          have b0 : me_i M2 (p + 25) j = tA p Mb 0 j := S2.B 0 j (by omega)
          rw [show me_i M2 (p + 26) j = (v : Int) from v1, b0]
          have rb : me_r (tA p Mb 0 j) := me_i_r _ _ _
          refine ⟨by omega, by omega, rb, fun _ => ⟨by omega, by omega, nx2⟩, fun z0 => ?_⟩
          have more : ∀ (M3 : me_M) (cnt3 : Nat) (x83 : Int), me_r x83 → CI p Mb m c x4 (ks.length : Int) T ks M M3 cnt3 (fun q' => hig p Mb i q' ∨ q' < j + 1 ∧ ∃ o : Nat, tA p Mb 3 q' = (o : Int) ∧ me_i Mb (p + 37) o = (i : Int)) → me_W (mt_G N X) 348 d 91 [some (.inr (.inl (some p, 29, 0))), none, none, some (.inl x3), some (.inl x4), some (.inl (ks.length : Int)), none, some (.inl (w : Int)), some (.inl x83), some (.inl (cnt3 : Int)), some (.inl (i : Int)), some (.inl ((j : Int) + 1))] [] M3 Q := fun M3 cnt3 x83 r83 I3 => by
            rw [show (j : Int) + 1 = ((j + 1 : Nat) : Int) by omega]
            exact ihf (j + 1) M3 cnt3 x83 (by omega) (by omega) (by omega) (fun l l1 l2 => by
              by_cases c : l = j
              · rw [c]
                exact z0
              · exact j3 l l1 (by omega)) r83 I3
          have I3 := I2.mo (old' := fun q' => hig p Mb i q' ∨ q' < j + 1 ∧ ∃ o : Nat, tA p Mb 3 q' = (o : Int) ∧ me_i Mb (p + 37) o = (i : Int)) fun q' _ z => z.imp id fun v => ⟨by omega, v.2⟩
          have skip := more M2 cnt2 x82 r82 I3
          have skip1 := more M2 cnt2 1 ⟨by omega, by omega⟩ I3
          refine ⟨by omega, by omega, rb, ⟨by omega, by omega⟩, fun _ => skip, fun z2 => ⟨by omega, by omega, ?_⟩⟩
          refine ca_I (by omega) (c_326 (by omega) J2.2.2.1 J2.2.2.1 v2 (E.tk S2 hw)) (fun y M3 _ g => ?_) nt_E_no
          obtain ⟨rfl, g⟩ := g
          have b9 : me_i M3 (p + 34) j = tA p Mb 9 j := S2.B 9 j (by omega)
          have b4 : me_i M3 (p + 29) j = tA p Mb 4 j := S2.B 4 j (by omega)
          rw [b9, b4]
          have r9 : me_r (tA p Mb 9 j) := me_i_r _ _ _
          have r4 : me_r (tA p Mb 4 j) := me_i_r _ _ _
          have mt := E.1.met jm z2
          have rx4 : me_r x4 := by rcases h4 with z | z | z <;> rw [z] <;> exact ⟨by omega, by omega⟩
          refine ⟨by rcases g with g | g <;> rw [g.1] <;> exact ⟨by omega, by omega⟩, fun _ => skip, fun _ => ⟨by omega, by omega, r9, ⟨by omega, by omega⟩, fun _ => skip1, fun z9 => ?_⟩⟩
          have sj : tA p M3 0 j = 2 := (S2.B 0 j (by omega)).trans z2
          have own := E.1.own_is jm (Or.inr z2) j1 q3 fun l l1 l2 => by
            by_cases c : l = j
            · rw [c]
              exact z0
            · exact j3 l l1 (by omega)
          have e8 : tA p M3 8 = tA p Mb 8 := by
            funext a
            exact S2.B 8 a (by omega)
          have e9 : nA p M3 9 = T := by
            funext a
            rw [← hT a]
            exact I2.1.i (by omega)
          have tak : so (tA p Mb) x4 j → ∃ d', d = d' + 1 ∧ me_W (mt_G N X) 349 d' 0 [some (.inr (.inl (some p, 29, 0))), some (.inl (j : Int)), some (.inl x3), none, none, none] [] M3 (sx_qI (fun y8 M5 => me_r y8 ∧ (y8 = 0 → me_W (mt_G N X) 348 d 91 [some (.inr (.inl (some p, 29, 0))), none, none, some (.inl x3), some (.inl x4), some (.inl (ks.length : Int)), none, some (.inl (w : Int)), some (.inl 1), some (.inl (cnt2 : Int)), some (.inl (i : Int)), some (.inl ((j : Int) + 1))] [] M5 Q) ∧ (¬ y8 = 0 → 0 ≤ (cnt2 : Int) ∧ (cnt2 : Int) < ((192 : Nat) : Int) ∧ let M9 : me_M := me_sI M5 (p + 42) (cnt2 : Int).toNat (Int32.ofInt (j : Int)); me_W (mt_G N X) 348 d 91 [some (.inr (.inl (some p, 29, 0))), none, none, some (.inl x3), some (.inl x4), some (.inl (ks.length : Int)), none, some (.inl (w : Int)), some (.inl 1), some (.inl ((cnt2 : Int) + 1)), some (.inl (i : Int)), some (.inl ((j : Int) + 1))] [] M9 Q)) (fun e7 M6 => Q (.inl e7) M6)) := fun hso => by
            refine ca_I (by omega) (c_349 (ks := ks) J2 (by omega) jm sj ?_ (fun a a1 => by rw [e9]; exact hks a a1) (by rw [S2.B 9 j (by omega), z9])) (fun y8 M5 _ g8 => ?_) nt_E_no
            · exact CHN.eq (fun a => S2.A 7 a (by omega) (by omega)) hcn
            obtain ⟨rfl, g8⟩ := g8
            have r8 : me_r y8 := by
              rcases g8 with g | g
              · rw [g.1]
                exact ⟨by omega, by omega⟩
              · rw [g]
                exact ⟨by omega, by omega⟩
            refine ⟨r8, fun _ => skip1, fun z8 => ?_⟩
            have af : AF (sp p Mb) T (tA p Mb 8) (j + 1) ks := by
              rcases g8 with g | g
              · have := g.2
                rw [e8, e9, S2.sp] at this
                exact this
              · omega
            have P := I2.put (q := j) (old' := fun q' => hig p Mb i q' ∨ q' < j + 1 ∧ ∃ o : Nat, tA p Mb 3 q' = (o : Int) ∧ me_i Mb (p + 37) o = (i : Int)) jm z2 z9 hso ⟨i, q, own, q2, q4, k3 (by omega)⟩ af m7 (fun q' z => by
              rcases z with ⟨o, i', b1, b2, b3⟩ | z
              · intro e
                rw [e, own] at b1
                have : (o : Int) = q := b1.symm
                rw [show o = q by omega, q4] at b2
                rw [show i' = i by omega] at b3
                omega
              · omega) (fun q' z => z.imp id fun v => ⟨by omega, v.2⟩) (Or.inr ⟨by omega, q, own, q4⟩)
            have le2 := P.le E
            refine ⟨by omega, by omega, ?_⟩
            intro M9
            have e9' : M9 = me_sI M5 (p + 42) cnt2 (Int32.ofInt (j : Int)) := by
              show me_sI _ _ _ _ = _
              rw [Int.toNat_natCast]
            rw [e9', show (cnt2 : Int) + 1 = ((cnt2 + 1 : Nat) : Int) by omega]
            exact more _ (cnt2 + 1) 1 ⟨by omega, by omega⟩ P
          refine ⟨rx4, fun z4 => tak ⟨fun v => by omega, fun v => by omega⟩, fun z4 => ⟨by omega, by omega, fun _ => ⟨rx4, ⟨by omega, by omega⟩, fun z5 => ⟨r4, ⟨by omega, by omega⟩, fun _ => skip1, fun z6 => tak ⟨fun _ => z6, fun v => by omega⟩⟩, fun z5 => ⟨r4, ⟨by omega, by omega⟩, fun _ => skip1, fun z6 => tak ⟨fun v => by omega, fun _ => z6⟩⟩⟩⟩⟩
      rw [show (q : Int) + 1 = ((q + 1 : Nat) : Int) by omega]
      exact inner m (q + 1) M1 cnt x8 (by omega) (by omega) (by omega) (fun l l1 l2 => by omega) r8 (I.mo fun q' _ z => Or.inl (z (by omega)))
end CALL
