/-! the reference's files: readAll -/
def sumk (k : Nat → Nat) : Nat → Nat
  | 0 => 0
  | f + 1 => sumk k f + k f
theorem sumk_mo {k : Nat → Nat} {a : Nat} : ∀ b, a ≤ b → sumk k a ≤ sumk k b := by
  intro b
  induction b with
  | zero =>
    intro h
    rw [show a = 0 by omega]
    exact Nat.le_refl _
  | succ b ih =>
    intro h
    by_cases c : a = b + 1
    · rw [c]
      exact Nat.le_refl _
    · have := ih (by omega)
      rw [sumk]
      omega
/-- a text that can be read, with k classes -/
def RT (K G : Nat) (T : Int → Int) (e : Int) (k : Nat) : Prop := ∃ C o, RD K G T e C o (some (o + k))
/-- where readAll changes ints -/
def rA (p : Nat) : Nat → Nat → Prop := fun b j => b = p ∨ p + 7 ≤ b ∧ b ≤ p + 46 ∨ fF b j
theorem rR_A {p n m C : Nat} : ∀ b j, rR p n m C b j → rA p b j := fun b j z => by
  rcases z with z | z | z | z | z
  · rcases z with z | z
    · rcases z with z | z | z
      · rcases z with z | z | z
        · exact Or.inr (Or.inr z)
        · exact Or.inl z.1
        · exact Or.inr (Or.inl (by omega))
      · exact Or.inl z.1
      · exact Or.inr (Or.inl (by omega))
    · exact Or.inl z.1
  · exact Or.inl z.1
  · exact Or.inr (Or.inl (by omega))
  · exact Or.inr (Or.inl (by omega))
  · exact Or.inr (Or.inl (by omega))
theorem rR_57 {p n m C : Nat} (hp : 164 < p) : ¬ rR p n m C p 57 := fun z => by
  rcases z with z | z | z | z | z
  · rcases z with z | z
    · rcases z with z | z | z
      · rcases z with z | z | z
        · unfold fF at z
          omega
        · have := z.2
          omega
        · omega
      · have := z.2
        omega
      · omega
    · have := z.2
      omega
  · have := z.2
    omega
  · omega
  · omega
  · omega
theorem rW_A {p : Nat} : ∀ b j, rW p b j → rA p b j := fun b j z => by
  unfold rW at z
  by_cases c : b = p
  · exact Or.inl c
  · exact Or.inr (Or.inl (by omega))
section RALL
variable {N : Nat} {X : Nat → Int32} {K G p d : Nat} {k : Nat → Nat} {M : me_M}
/-- while files are read -/
def RS (p : Nat) (k : Nat → Nat) (M M1 : me_M) (f : Nat) : Prop := ∃ Φ C n m, PF p M1 (f : Int) Φ C n m ∧ C ≤ 601 * f ∧ cc (tA p M1) m = sumk k f ∧ mcn (tA p M1) m ≤ 24 * sumk k f ∧ fr (rA p) M M1 ∧ me_i M1 p 57 = 0
theorem all_8 {Q : me_Q} (hK : 80000 ≤ K) (hK2 : K < 900000) (hG : 3000 ≤ G) (hG2 : G < 9000) (hd : 520 ≤ d) (hp : 164 < p) (hT : TX p M) (hR : ∀ f, f < 4 → RT K G (rl_at M (p + 2 + f) (me_i M (p + 6) f)) (me_i M (p + 6) f) (k f)) (hs : sumk k 4 ≤ 8) (HQ : ∀ M1, RS p k M M1 4 → me_W (mt_G N X) 282 d 8 [some (.inr (.inl (some p, 29, 0))), some (.inl 0), some (.inl 4), none] [] M1 Q) : ∀ (g f : Nat) (M1 : me_M), 4 - f < g → f ≤ 4 → RS p k M M1 f → me_W (mt_G N X) 282 d 8 [some (.inr (.inl (some p, 29, 0))), some (.inl 0), some (.inl (f : Int)), none] [] M1 Q := by
  intro g
  induction g with
  | zero => intro f M1 z; omega
  | succ g ih =>
    intro f M1 hg hf S
    by_cases c4 : f = 4
    · exact c4 ▸ HQ M1 (c4 ▸ S)
    obtain ⟨Φ, C, n, m, P, hC, hcc, hmc, F, h57⟩ := S
    have f4 : f < 4 := by omega
    have nf : ∀ b j, p + 1 ≤ b → b ≤ p + 6 → ¬ rA p b j := fun b j h1 h2 z => by
      unfold rA fF at z
      omega
    have e6 : me_i M1 (p + 6) f = me_i M (p + 6) f := F.i (nf _ _ (by omega) (by omega))
    have eT : rl_at M1 (p + 2 + f) (me_i M1 (p + 6) f) = rl_at M (p + 2 + f) (me_i M (p + 6) f) := by
      funext i
      unfold rl_at
      rw [e6, show me_i M1 (p + 2 + f) i.toNat = me_i M (p + 2 + f) i.toNat from F.i (nf _ _ (by omega) (by omega))]
    obtain ⟨t1, t2, t3, t4⟩ := hT f f4
    have s4 := sumk_mo (k := k) (a := f + 1) 4 (by omega)
    rw [sumk] at s4
    have ag : ∀ go, RD K G (rl_at M1 (p + 2 + f) (me_i M1 (p + 6) f)) (me_i M1 (p + 6) f) C (cc (tA p M1) m) go → go = some (cc (tA p M1) m + k f) := fun go r => by
      rw [eT, e6] at r
      obtain ⟨C0, o0, r0⟩ := hR f f4
      have a := r0.again r
      have b := a.2 (by omega)
      rw [b]
      congr 1
      omega
    refine b282_8 ⟨⟨by omega, by omega⟩, ⟨by omega, by omega⟩, fun z => by omega, fun _ => ?_⟩
    refine ca_I (by omega) (c_284 P.2.2.2.1 (by have := P.2.2.2.2.1; omega)) (fun y M2 _ q => ?_) nt_E_no
    obtain ⟨rfl, rfl⟩ := q
    rw [show (cc (tA p M2) m : Int) + 0 = ((cc (tA p M2) m : Nat) : Int) by omega]
    refine ca_V (by omega) (c_285 (ot := cc (tA p M2) m) hK hK2 hG hG2 (by omega) hp P (by omega) f4 (by omega) (by rw [F.p]; exact t1) (by rw [F.2.1]; exact t2) (by rw [e6]; exact t3) (by rw [e6]; exact t4) (by omega)) (fun M3 _ q => ?_) (fun a M' _ q => ?_)
    · obtain ⟨go, o, C', n', m', r, go1, P', ⟨c1, c2⟩, n1, m1, F', h1, h2, h3⟩ := q
      have b := ag go r
      rw [go1] at b
      have ob : o = cc (tA p M2) m + k f := Option.some.inj b
      rw [show (f : Int) + 1 = ((f + 1 : Nat) : Int) by omega] at P' ⊢
      refine ih (f + 1) M3 (by omega) (by omega) ⟨_, C', n', m', P', by omega, ?_, ?_, F.tr (F'.mo rR_A), (F'.i (rR_57 hp)).trans h57⟩
      · rw [sumk]
        omega
      · rw [sumk]
        omega
    · obtain ⟨_, _, go, r, z⟩ := q
      have := ag go r
      rw [z] at this
      cases this
theorem c_282 {K : Nat} (hK : 80000 ≤ K) (hK2 : K < 900000) (hG : 3000 ≤ G) (hG2 : G < 9000) (hd : 1860 ≤ d) (hp : 164 < p) (hT : TX p M) (hR : ∀ f, f < 4 → RT K G (rl_at M (p + 2 + f) (me_i M (p + 6) f)) (me_i M (p + 6) f) (k f)) (hs : sumk k 4 ≤ 8) : me_W (mt_G N X) 282 d 0 [some (.inr (.inl (some p, 29, 0))), none, none, none] [] M (sx_qI (fun y M' => fr (rA p) M M' ∧ y = me_i M' p 33 ∧ (0 ≤ y ∧ y ≤ 14) ∧ me_i M' p 57 = 0 ∧ ∃ Φ C n m, PF p M' 4 Φ C n m ∧ C ≤ 2404 ∧ cc (tA p M') m = sumk k 4 ∧ (y = 0 → ∃ Mb, GOOD p C n m (sumk k 4) Φ Mb M')) nt_E) := by
  refine b282_0 (ca_V (by omega) c_283 (fun M1 _ q => ?_) nt_E_no)
  obtain ⟨f1, v57, v4, v16, v5⟩ := q
  have F1 : fr (rA p) M M1 := f1.mo fun b j z => by
    rcases z with z | z
    · exact Or.inl z.1
    · exact Or.inr (Or.inl (by omega))
  refine all_8 hK hK2 hG hG2 (by omega) hp hT hR hs (fun M2 S => ?_) 5 0 M1 (by omega) (by omega) ⟨fun _ => 0, 0, 0, 0, ⟨v5, v4, Nat.le_refl _, v16, Nat.le_refl _, PG.empty, fun k z => by omega, fun i j _ z => by omega⟩, by omega, rfl, Nat.zero_le _, F1, v57⟩
  obtain ⟨Φ, C, n, m, P, hC, hcc, hmc, F, h57⟩ := S
  refine b282_8 ⟨⟨by omega, by omega⟩, ⟨by omega, by omega⟩, fun _ => ⟨by omega, by omega, ?_⟩, fun z => by omega⟩
  intro M3
  have f3 : fr (rW p) M2 M3 := fr_sI (by unfold rW; omega)
  clear_value M3
  have nf : ∀ b j, p + 1 ≤ b → b ≤ p + 6 → ¬ rA p b j := fun b j h1 h2 z => by
    unfold rA fF at z
    omega
  have T2 : TX p M2 := fun i i1 => by
    obtain ⟨h1, h2, h3, h4⟩ := hT i i1
    rw [F.p, F.2.1, F.i (nf _ _ (by omega) (by omega))]
    exact ⟨h1, h2, h3, h4⟩
  have W2 : WB p C n m Φ M2 := ⟨P, by omega, T2, by omega, by omega⟩
  have W3 := W2.fr f3
  have c3 : cc (tA p M3) m = sumk k 4 := by
    rw [cc_eq (B := tA p M2) m fun j _ => f3.i (by unfold rW; omega)]
    exact hcc
  refine ca_I (by omega) (c_331 W3 c3 (by omega)) (fun y M4 _ q => ?_) nt_E_no
  obtain ⟨f4, g2, g3, g4⟩ := q
  have W4 := W3.fr f4
  refine ⟨F.tr ((f3.mo rW_A).tr (f4.mo rW_A)), g2, g3, (f4.i (by unfold rW; omega)).trans ((f3.i (by unfold rW; omega)).trans h57), Φ, C, n, m, W4.1, by omega, ?_, fun z => ?_⟩
  · rw [cc_eq (B := tA p M3) m fun j _ => f4.i (by unfold rW; omega)]
    exact c3
  · obtain ⟨Mb, h1, _⟩ := g4 z
    exact ⟨Mb, h1⟩
end RALL
