/-! the reference's files: readFile's contract -/
def gd0 : Nat → Option Nat := fun _ => none
/-- tokens: 0 sort 1 code 2 from 3 size 4 file -/
def kA (p : Nat) (M : me_M) (i k : Nat) : Int := me_i M (p + 8 + i) k
def tkc (p : Nat) (M : me_M) (F : Int) (Φ : Nat → Nat) (k : Nat) : Prop := (0 ≤ kA p M 4 k ∧ kA p M 4 k < F) ∧ 0 ≤ kA p M 2 k ∧ 1 ≤ kA p M 3 k ∧ kA p M 2 k + kA p M 3 k ≤ me_i M (p + 6) (kA p M 4 k).toNat ∧ (-1 ≤ kA p M 0 k ∧ kA p M 0 k ≤ 4 ∧ ¬ kA p M 0 k = 0) ∧ -1 ≤ kA p M 1 k ∧ kA p M 1 k ≤ 400 ∧ Φ k ≤ k ∧ kA p M 4 (Φ k) = kA p M 4 k
/-- C tokens of files below F, n nodes, m tellings -/
def PF (p : Nat) (M : me_M) (F : Int) (Φ : Nat → Nat) (C n m : Nat) : Prop := me_i M (p + 7) 5 = (C : Int) ∧ me_i M p 4 = (n : Int) ∧ n ≤ C ∧ me_i M p 16 = (m : Int) ∧ m ≤ C ∧ PG (nA p M) (tA p M) (tS p M) (tC p M) Φ n m C m ∧ (∀ k, k < C → tkc p M F Φ k) ∧ ∀ i j, i < j → j < C → kA p M 4 i < kA p M 4 j ∨ kA p M 4 i = kA p M 4 j ∧ kA p M 2 i + kA p M 3 i ≤ kA p M 2 j
/-- what a text's reading says: go of g_fil from token C on, o classes being there -/
def RD (K G : Nat) (T : Int → Int) (e : Int) (C o : Nat) (go : Option Nat) : Prop := ∃ (l : List (Int × Int × Int × Int)) (pp : Int) (s c : Nat → Int), rl_toks T e 0 0 l pp ∧ (l.length : Int) ≤ 601 ∧ (pp = e ∨ (l.length : Int) = 601) ∧ (∀ i t, l[i]? = some t → s (C + i) = t.1 ∧ c (C + i) = t.2.1) ∧ s (C + l.length) = 0 ∧ c (C + l.length) = -1 ∧ go = g_fil s c (C + 600) gd0 K G o C
/-- where readFile changes ints -/
def rR (p n0 m0 C : Nat) : Nat → Nat → Prop := fun b j => rM p n0 m0 b j ∨ b = p ∧ (j = 36 ∨ j = 39 ∨ j = 40 ∨ j = 41) ∨ b = p + 13 ∨ b = p + 7 ∧ j = 5 ∨ p + 8 ≤ b ∧ b ≤ p + 12 ∧ C ≤ j
section PHI
variable {A B : Nat → Nat → Int} {s c : Nat → Int} {Φ Φ' : Nat → Nat} {n D t u : Nat}
theorem PG.phi (G : PG A B s c Φ n D t u) (e : ∀ j, j < t → Φ' j = Φ j) : PG A B s c Φ' n D t u := by
  obtain ⟨g1, g2, g3, g4⟩ := G
  refine ⟨g1, fun d d1 d2 => ?_, g3, g4⟩
  · have z := g2 d d1 d2
    obtain ⟨⟨a1, a2⟩, a3⟩ := id z
    refine ⟨⟨?_, a2⟩, a3⟩
    rw [e (B 7 d).toNat (by omega)]
    exact a1
end PHI
section RF
variable {N : Nat} {X : Nat → Int32} {K G p d C n m f ot : Nat} {F : Int} {Φ : Nat → Nat} {M : me_M}
theorem rR_M {p n m C : Nat} : ∀ b j, rM p n m b j → rR p n m C b j := fun _ _ z => Or.inl z
theorem rf_72b {M6 M7 M8 : me_M} {l : List (Int × Int × Int × Int)} {pp e : Int} (hK : 80000 ≤ K) (hK2 : K < 900000) (hG : 3000 ≤ G) (hG2 : G < 9000) (hd : 510 ≤ d) (hp : 164 < p) (P : PF p M F Φ C n m) (hC : C ≤ 1804) (hf : f < 4) (hF : F ≤ f) (he : me_i M (p + 6) f = e) (he0 : 0 ≤ e) (he1 : e ≤ 4000) (hot : ot < 40000) (fa : fr (fun b j => b = p ∧ (j = 35 ∨ j = 36 ∨ j = 39 ∨ j = 40 ∨ j = 41) ∨ b = p + 13 ∧ j = f) M M6) (a35 : me_i M6 p 35 = (C : Int)) (a36 : me_i M6 p 36 = (C : Int)) (a41 : me_i M6 p 41 = 600) (a39 : me_i M6 p 39 = (ot : Int)) (a13 : me_i M6 (p + 13) f = (C : Int)) (c6 : me_i M6 (p + 7) 5 = (C : Int)) (q1 : rl_toks (rl_at M (p + 2 + f) e) e 0 0 l pp) (q2 : (l.length : Int) ≤ 601) (q3 : pp = e ∨ (l.length : Int) = 601) (hw : ∀ (i : Nat) (t : Int × Int × Int × Int), l[i]? = some t → tkw 0 e t ∧ 0 ≤ t.2.2.1 ∧ ∀ (j : Nat) (t' : Int × Int × Int × Int), i < j → l[j]? = some t' → t.2.2.2 ≤ t'.2.2.1) (gv : ∀ (i : Nat) (t : Int × Int × Int × Int), l[i]? = some t → me_i M7 (p + 7 + 1) (C + i) = t.1 ∧ me_i M7 (p + 7 + 2) (C + i) = t.2.1 ∧ me_i M7 (p + 7 + 3) (C + i) = t.2.2.1 ∧ me_i M7 (p + 7 + 4) (C + i) = t.2.2.2 - t.2.2.1 ∧ me_i M7 (p + 7 + 5) (C + i) = (f : Int)) (gf : fr (fun b j => b = p + 7 ∧ j = 5 ∨ p + 7 + 1 ≤ b ∧ b ≤ p + 7 + 5 ∧ C ≤ j) M6 M7) (gc : me_i M7 (p + 7) 5 = ((C + l.length : Nat) : Int)) (ge : fr (fun b j => p + 7 + 1 ≤ b ∧ b ≤ p + 7 + 5 ∧ j = C + l.length) M7 M8) (g0 : me_i M8 (p + 7 + 1) (C + l.length) = 0) (g0b : me_i M8 (p + 7 + 2) (C + l.length) = -1) :
    me_W (mt_G N X) 285 d 72 [some (.inr (.inl (some p, 29, 0))), none, none, some (.inl 0)] [] M8 (sx_qV (fun M' => ∃ go o C' n' m', RD K G (rl_at M (p + 2 + f) e) e C ot go ∧ go = some o ∧ PF p M' ((f : Int) + 1) (fun k => if k < C then Φ k else C) C' n' m' ∧ (C ≤ C' ∧ C' ≤ C + 601) ∧ n ≤ n' ∧ m ≤ m' ∧ fr (rR p n m C) M M' ∧ cc (tA p M') m' + ot = cc (tA p M) m + o ∧ mcn (tA p M') m' + 24 * ot ≤ mcn (tA p M) m + 24 * o ∧ me_i M' (p + 13) f = (C : Int)) (fun a M' => a = 166 ∧ fr (rR p n m C) M M' ∧ ∃ go, RD K G (rl_at M (p + 2 + f) e) e C ot go ∧ go = none)) := by
  obtain ⟨P1, P2, P3, P4, P5, P6, P7, P8⟩ := id P
  have f68 : fr (fun b j => b = p + 7 ∧ j = 5 ∨ p + 8 ≤ b ∧ b ≤ p + 12 ∧ C ≤ j) M6 M8 := (gf.mo fun b j z => by omega).tr (ge.mo fun b j z => by omega)
  have FA : fr (rR p n m C) M M8 := (fa.mo fun b j z => by
    rcases z with ⟨z1, z2⟩ | ⟨z1, _⟩
    · by_cases z3 : j = 35
      · exact Or.inl (Or.inl (Or.inl (Or.inr (Or.inl ⟨z1, Or.inr (Or.inl z3)⟩))))
      · exact Or.inr (Or.inl ⟨z1, by omega⟩)
    · exact Or.inr (Or.inr (Or.inl z1))).tr (f68.mo fun b j z => Or.inr (Or.inr (Or.inr z)))
  -- new tokens
  have nv : ∀ i t, l[i]? = some t → kA p M8 0 (C + i) = t.1 ∧ kA p M8 1 (C + i) = t.2.1 ∧ kA p M8 2 (C + i) = t.2.2.1 ∧ kA p M8 3 (C + i) = t.2.2.2 - t.2.2.1 ∧ kA p M8 4 (C + i) = (f : Int) := fun i t h => by
    have hi : i < l.length := (List.getElem?_eq_some_iff.mp h).1
    obtain ⟨b1, b2, b3, b4, b5⟩ := gv i t h
    unfold kA
    rw [ge.i (by omega), ge.i (by omega), ge.i (by omega), ge.i (by omega), ge.i (by omega)]
    exact ⟨b1, b2, b3, b4, b5⟩
  have gt : ∀ k, C ≤ k → k < C + l.length → ∃ t, l[k - C]? = some t := fun k k1 k2 => ⟨l[k - C]'(by omega), List.getElem?_eq_getElem (by omega)⟩
  have ov : ∀ i k, i < 5 → k < C → kA p M8 i k = kA p M i k := fun i k _ _ => (f68.i (by omega)).trans (fa.i (by omega))
  have z0 : tS p M8 (C + l.length) = 0 := g0
  have s5 : ∀ k, k ≤ C + l.length → ¬ tS p M8 k = 5 := fun k k1 => by
    by_cases c1 : k < C
    · have := (P7 k c1).2.2.2.2.1
      have e1 := ov 0 k (by omega) c1
      show ¬ kA p M8 0 k = 5
      omega
    · by_cases c2 : k = C + l.length
      · rw [c2, z0]
        omega
      · obtain ⟨t, ht⟩ := gt k (by omega) (by omega)
        have v := (nv _ t ht).1
        have w := (hw _ t ht).1.2.2.2.1.2.2.2 rfl
        rw [show C + (k - C) = k by omega] at v
        show ¬ kA p M8 0 k = 5
        omega
  have hz : ∀ k, C ≤ k → k < C + l.length → ¬ tS p M8 k = 0 := fun k k1 k2 => by
    obtain ⟨t, ht⟩ := gt k k1 k2
    have v := (nv _ t ht).1
    have w := (hw _ t ht).1.2.2.2.1
    rw [show C + (k - C) = k by omega] at v
    show ¬ kA p M8 0 k = 0
    omega
  have HD : ∀ h, CD N X p (tS p M8) (tC p M8) (C + 600) gd0 (C + l.length) h := fun h M' t' n' dp D d' PP h5 => absurd h5 (s5 t' PP.2.2.1)
  have pk8 : pk p (tS p M8) (tC p M8) (C + 600) M8 := ⟨fun _ => rfl, fun _ => rfl, by rw [f68.i (by omega), f68.i (by omega), a36, a41]; omega, by rw [f68.i (by omega), a36]; omega, by rw [f68.i (by omega), a41]; omega⟩
  have G8 : PG (nA p M8) (tA p M8) (tS p M8) (tC p M8) (fun k => if k < C then Φ k else C) n m C m := ((P6.sc (s' := tS p M8) (c' := tC p M8) fun j j1 => ⟨ov 0 j (by omega) j1, ov 1 j (by omega) j1⟩).phi (Φ' := fun k => if k < C then Φ k else C) (fun j j1 => if_pos j1)).re (Nat.le_refl _) (fun i j i1 _ => (f68.i (by omega)).trans (fa.i (by omega))) (fun i j i1 _ _ => (f68.i (by omega)).trans (fa.i (by omega))) (fun z => by omega) (fun z => by omega) (fun k k1 k2 => by omega)
  have pz8 : pz p (tS p M8) (tC p M8) (fun k => if k < C then Φ k else C) (C + 600) (C + l.length) C M8 C n m := ⟨pk8, by rw [f68.i (by omega), a35], ⟨Nat.le_refl _, by omega⟩, by rw [f68.i (by omega), fa.i (by omega), P2], P3, by rw [f68.i (by omega), fa.i (by omega), P4], P5, G8⟩
  have RDg : RD K G (rl_at M (p + 2 + f) e) e C ot (g_fil (tS p M8) (tC p M8) (C + 600) gd0 K G (0 + ot) C) := ⟨l, pp, tS p M8, tC p M8, q1, q2, q3, fun i t h => ⟨(nv i t h).1, (nv i t h).2.1⟩, z0, g0b, by rw [Nat.zero_add]⟩
  refine (fil_72 (n0 := n) (m0 := m) (K := K) (f0 := C) pk8 hp (by omega) (by omega) (by omega) z0 (fun x x1 x2 => if_neg (by omega)) hz HD hK hK2 (by rw [f68.i (by omega), a39]) (by omega) (by omega) G M8 C n m 0 _ fr.rf pz8 (Nat.le_refl _) (Nat.le_refl _) ⟨rfl, by omega⟩ (by omega) (by omega) rfl).mono fun o M' _ g => ?_
  rcases o with a | _ | x | ⟨q, u⟩ | j <;> first | exact g.elim | skip
  · obtain ⟨g1, g2, g3⟩ := g
    exact ⟨g1, FA.tr (g3.mo rR_M), _, RDg, g2⟩
  · obtain ⟨o, n', m', g1, g2, g3, g4, ⟨r1, r2, r3, r4, r5, r6, r7, r8⟩, g5, g6⟩ := g
    have kM : ∀ i k, i < 5 → kA p M' i k = kA p M8 i k := fun i k _ => g4.i (by unfold rM rS rE fF; omega)
    refine ⟨_, o, C + l.length, n', m', RDg, g1, ⟨?_, r4, r5, r6, r7, r8.sc (fun j _ => ⟨kM 0 j (by omega), kM 1 j (by omega)⟩), fun k k1 => ?_, fun i j i1 j1 => ?_⟩, ⟨by omega, by omega⟩, g2, g3, FA.tr (g4.mo rR_M), ?_, ?_, ?_⟩
    · rw [g4.i (by unfold rM rS rE fF; omega), ge.i (by omega), gc]
    · have s6 : ∀ j, me_i M' (p + 6) j = me_i M (p + 6) j := fun j => (g4.i (by unfold rM rS rE fF; omega)).trans ((f68.i (by omega)).trans (fa.i (by omega)))
      unfold tkc
      rw [kM 0 k (by omega), kM 1 k (by omega), kM 2 k (by omega), kM 3 k (by omega), kM 4 k (by omega), kM 4 _ (by omega), s6]
      by_cases c1 : k < C
      · have := P7 k c1
        unfold tkc at this
        rw [show (fun k => if k < C then Φ k else C) k = Φ k from if_pos c1, ov 0 k (by omega) c1, ov 1 k (by omega) c1, ov 2 k (by omega) c1, ov 3 k (by omega) c1, ov 4 k (by omega) c1, ov 4 (Φ k) (by omega) (by omega)]
        exact ⟨⟨this.1.1, by omega⟩, this.2⟩
      · obtain ⟨t, ht⟩ := gt k (by omega) k1
        obtain ⟨b1, b2, b3, b4, b5⟩ := nv _ t ht
        rw [show C + (k - C) = k by omega] at b1 b2 b3 b4 b5
        have hC0 : C < C + l.length := by omega
        obtain ⟨t0, ht0⟩ := gt C (Nat.le_refl _) hC0
        have b6 := (nv _ t0 ht0).2.2.2.2
        rw [show C + (C - C) = C by omega] at b6
        obtain ⟨w1, w2, w3, w4, w5, w6⟩ := (hw _ t ht).1
        rw [show (fun k => if k < C then Φ k else C) k = C from if_neg c1, b1, b2, b3, b4, b5, b6, Int.toNat_natCast, he]
        exact ⟨⟨by omega, by omega⟩, by omega, by omega, by omega, ⟨by omega, by have := w4.2.2.2 rfl; omega, w4.2.2.1⟩, w5, w6, by omega, rfl⟩
    · rw [kM 4 i (by omega), kM 4 j (by omega), kM 2 i (by omega), kM 2 j (by omega), kM 3 i (by omega)]
      by_cases c1 : j < C
      · rw [ov 4 i (by omega) (by omega), ov 4 j (by omega) c1, ov 2 i (by omega) (by omega), ov 2 j (by omega) c1, ov 3 i (by omega) (by omega)]
        exact P8 i j i1 c1
      · obtain ⟨t, ht⟩ := gt j (by omega) j1
        obtain ⟨b1, b2, b3, b4, b5⟩ := nv _ t ht
        rw [show C + (j - C) = j by omega] at b3 b5
        by_cases c2 : i < C
        · have := (P7 i c2).1.2
          rw [ov 4 i (by omega) c2, b5]
          exact Or.inl (by omega)
        · obtain ⟨t', ht'⟩ := gt i (by omega) (by omega)
          obtain ⟨d1, d2, d3, d4, d5⟩ := nv _ t' ht'
          rw [show C + (i - C) = i by omega] at d3 d4 d5
          have := (hw _ t' ht').2.2 (j - C) t (by omega) ht
          rw [b3, b5, d3, d4, d5]
          exact Or.inr ⟨rfl, by omega⟩
    · rw [g5, cc_eq (B := tA p M) (B' := tA p M8) m fun j _ => (f68.i (by omega)).trans (fa.i (by omega))]
    · rw [mcn_eq (B := tA p M) (B' := tA p M8) m fun j _ => (f68.i (by omega)).trans (fa.i (by omega))] at g6
      exact g6
    · rw [g4.i (by unfold rM rS rE fF; omega), f68.i (by omega), a13]
theorem rf_72 {M6 : me_M} {l : List (Int × Int × Int × Int)} {pp e : Int} (hK : 80000 ≤ K) (hK2 : K < 900000) (hG : 3000 ≤ G) (hG2 : G < 9000) (hd : 510 ≤ d) (hp : 164 < p) (P : PF p M F Φ C n m) (hC : C ≤ 1804) (hf : f < 4) (hF : F ≤ f) (he : me_i M (p + 6) f = e) (he0 : 0 ≤ e) (he1 : e ≤ 4000) (hot : ot < 40000) (fa : fr (fun b j => b = p ∧ (j = 35 ∨ j = 36 ∨ j = 39 ∨ j = 40 ∨ j = 41) ∨ b = p + 13 ∧ j = f) M M6) (a35 : me_i M6 p 35 = (C : Int)) (a36 : me_i M6 p 36 = (C : Int)) (a41 : me_i M6 p 41 = 600) (a39 : me_i M6 p 39 = (ot : Int)) (a13 : me_i M6 (p + 13) f = (C : Int)) (c6 : me_i M6 (p + 7) 5 = (C : Int)) (q1 : rl_toks (rl_at M (p + 2 + f) e) e 0 0 l pp) (q2 : (l.length : Int) ≤ 601) (q3 : pp = e ∨ (l.length : Int) = 601) :
    me_W (mt_G N X) 285 d 72 [some (.inr (.inl (some p, 29, 0))), none, none, some (.inl 0)] [] (tk_end (tk_puts M6 (p + 7) C f l) (p + 7) (C + l.length) e f) (sx_qV (fun M' => ∃ go o C' n' m', RD K G (rl_at M (p + 2 + f) e) e C ot go ∧ go = some o ∧ PF p M' ((f : Int) + 1) (fun k => if k < C then Φ k else C) C' n' m' ∧ (C ≤ C' ∧ C' ≤ C + 601) ∧ n ≤ n' ∧ m ≤ m' ∧ fr (rR p n m C) M M' ∧ cc (tA p M') m' + ot = cc (tA p M) m + o ∧ mcn (tA p M') m' + 24 * ot ≤ mcn (tA p M) m + 24 * o ∧ me_i M' (p + 13) f = (C : Int)) (fun a M' => a = 166 ∧ fr (rR p n m C) M M' ∧ ∃ go, RD K G (rl_at M (p + 2 + f) e) e C ot go ∧ go = none)) := by
  have hw := rl_toks_w (r := 0) rl_at_e (fun i => rl_at_b) l 0 (by omega) he0 q1
  have rf : me_r (f : Int) := ⟨by omega, by omega⟩
  have re : me_r e := ⟨by omega, by omega⟩
  have gv := fun i t h => tkp_v (a0 := p + 7) (r := 0) (e := e) rf re l M6 C i t (fun i t h => (hw i t h).1) h
  have gf := tkp_fr (a0 := p + 7) (f := (f : Int)) l M6 C
  have gc := tkp_c (a0 := p + 7) (f := (f : Int)) l M6 C c6 (by omega)
  have ge := tk_end_fr (M := tk_puts M6 (p + 7) C f l) (a0 := p + 7) (n := C + l.length) (e := e) (f := (f : Int))
  have g0 := tk_end_0 (M := tk_puts M6 (p + 7) C f l) (a0 := p + 7) (n := C + l.length) (e := e) (f := (f : Int))
  have g0b := tk_end_1 (M := tk_puts M6 (p + 7) C f l) (a0 := p + 7) (n := C + l.length) (e := e) (f := (f : Int))
  exact rf_72b hK hK2 hG hG2 hd hp P hC hf hF he he0 he1 hot fa a35 a36 a41 a39 a13 c6 q1 q2 q3 hw gv gf gc ge g0 g0b
theorem c_285 (hK : 80000 ≤ K) (hK2 : K < 900000) (hG : 3000 ≤ G) (hG2 : G < 9000) (hd : 510 ≤ d) (hp : 164 < p) (P : PF p M F Φ C n m) (hC : C ≤ 1804) (hf : f < 4) (hF : F ≤ f) (hpt : me_p M (p + 1) f = some (p + 2 + f)) (hk : M.2.1 (p + 2 + f) = (2, 4000)) (he0 : 0 ≤ me_i M (p + 6) f) (he1 : me_i M (p + 6) f ≤ 4000) (hot : ot < 40000) :
    me_W (mt_G N X) 285 d 0 [some (.inr (.inl (some p, 29, 0))), some (.inl (f : Int)), some (.inl (ot : Int)), none] [] M (sx_qV (fun M' => ∃ go o C' n' m', RD K G (rl_at M (p + 2 + f) (me_i M (p + 6) f)) (me_i M (p + 6) f) C ot go ∧ go = some o ∧ PF p M' ((f : Int) + 1) (fun k => if k < C then Φ k else C) C' n' m' ∧ (C ≤ C' ∧ C' ≤ C + 601) ∧ n ≤ n' ∧ m ≤ m' ∧ fr (rR p n m C) M M' ∧ cc (tA p M') m' + ot = cc (tA p M) m + o ∧ mcn (tA p M') m' + 24 * ot ≤ mcn (tA p M) m + 24 * o ∧ me_i M' (p + 13) f = (C : Int)) (fun a M' => a = 166 ∧ fr (rR p n m C) M M' ∧ ∃ go, RD K G (rl_at M (p + 2 + f) (me_i M (p + 6) f)) (me_i M (p + 6) f) C ot go ∧ go = none)) := by
  obtain ⟨P1, P2, P3, P4, P5, P6, P7, P8⟩ := id P
  refine b285_0 ?_
  rw [P1]
  intro M1
  have f1 : fr (fun b j => b = p ∧ j = 36) M M1 := fr_sI ⟨rfl, rfl⟩
  have w1 : me_i M1 p 36 = (C : Int) := by
    show me_i (me_sI _ _ _ _) _ _ = _
    rw [me_i_sI, if_pos ⟨rfl, rfl⟩, me_to ⟨by omega, by omega⟩]
  rw [w1]
  refine ⟨by omega, by omega, ?_⟩
  rw [Int.toNat_natCast]
  intro M2
  have f2 : fr (fun b j => b = p + 13 ∧ j = f) M1 M2 := fr_sI ⟨rfl, rfl⟩
  have v2 : me_i M2 (p + 13) f = (C : Int) := by
    show me_i (me_sI _ _ _ _) _ _ = _
    rw [me_i_sI, if_pos ⟨rfl, rfl⟩, me_to ⟨by omega, by omega⟩]
  rw [show me_i M2 p 36 = (C : Int) by rw [f2.i (by omega), w1]]
  intro M3
  have f3 : fr (fun b j => b = p ∧ j = 35) M2 M3 := fr_sI ⟨rfl, rfl⟩
  have v3 : me_i M3 p 35 = (C : Int) := by
    show me_i (me_sI _ _ _ _) _ _ = _
    rw [me_i_sI, if_pos ⟨rfl, rfl⟩, me_to ⟨by omega, by omega⟩]
  intro M4
  have f4 : fr (fun b j => b = p ∧ j = 41) M3 M4 := fr_sI ⟨rfl, rfl⟩
  have v4 : me_i M4 p 41 = 600 := by
    show me_i (me_sI _ _ _ _) _ _ = _
    rw [me_i_sI, if_pos ⟨rfl, rfl⟩, me_to ⟨by omega, by omega⟩]
  intro M5
  have f5 : fr (fun b j => b = p ∧ j = 39) M4 M5 := fr_sI ⟨rfl, rfl⟩
  have v5 : me_i M5 p 39 = (ot : Int) := by
    show me_i (me_sI _ _ _ _) _ _ = _
    rw [me_i_sI, if_pos ⟨rfl, rfl⟩, me_to ⟨by omega, by omega⟩]
  refine ⟨by omega, ?_⟩
  intro M6
  have f6 : fr (fun b j => b = p ∧ j = 40) M5 M6 := fr_sI ⟨rfl, rfl⟩
  have fa : fr (fun b j => b = p ∧ (j = 35 ∨ j = 36 ∨ j = 39 ∨ j = 40 ∨ j = 41) ∨ b = p + 13 ∧ j = f) M M6 := ((((f1.mo fun b j z => by omega).tr (f2.mo fun b j z => by omega)).tr (f3.mo fun b j z => by omega)).tr (f4.mo fun b j z => by omega)).tr ((f5.mo fun b j z => by omega).tr (f6.mo fun b j z => by omega))
  have a35 : me_i M6 p 35 = (C : Int) := by rw [f6.i (by omega), f5.i (by omega), f4.i (by omega), v3]
  have a36 : me_i M6 p 36 = (C : Int) := by rw [f6.i (by omega), f5.i (by omega), f4.i (by omega), f3.i (by omega), f2.i (by omega), w1]
  have a41 : me_i M6 p 41 = 600 := by rw [f6.i (by omega), f5.i (by omega), v4]
  have a39 : me_i M6 p 39 = (ot : Int) := by rw [f6.i (by omega), v5]
  have a13 : me_i M6 (p + 13) f = (C : Int) := by rw [f6.i (by omega), f5.i (by omega), f4.i (by omega), f3.i (by omega), v2]
  have k6 : M6.2.1 = M.2.1 := fa.2.1
  have p6 : me_p M6 (p + 1) f = some (p + 2 + f) := by rw [fa.p, hpt]
  have e6 : me_i M6 (p + 6) f = me_i M (p + 6) f := fa.i (by omega)
  have c6 : me_i M6 (p + 7) 5 = (C : Int) := by rw [fa.i (by omega), P1]
  have T6 : rl_at M6 (p + 2 + f) (me_i M (p + 6) f) = rl_at M (p + 2 + f) (me_i M (p + 6) f) := by
    funext i
    unfold rl_at
    rw [fa.i (by omega)]
  clear_value M6
  clear f6 v5 f5 v4 f4 v3 f3 v2 f2 w1 f1
  clear M5
  clear M4
  clear M3
  clear M2
  clear M1
  refine ⟨by omega, by omega, fun n7 hn7 => ?_⟩
  have n74 : n7 = 4000 := by
    have := hn7 _ p6
    rw [k6, hk] at this
    exact (congrArg Prod.snd this).symm
  subst n74
  rw [p6, e6]
  refine ⟨by omega, by omega, ?_⟩
  refine ca_V (by omega) (c_286 (n := C) (by omega) he0 (by omega) ⟨by omega, by omega⟩ (Or.inl (by omega)) ⟨by omega, by omega⟩ c6 (by omega)) (fun M8 _ q => ?_) nt_E_no
  obtain ⟨l, pp, q1, q2, q3, rfl⟩ := q
  rw [T6] at q1
  exact rf_72 hK hK2 hG hG2 hd hp P hC hf hF rfl he0 he1 hot fa a35 a36 a41 a39 a13 c6 q1 q2 q3
end RF
