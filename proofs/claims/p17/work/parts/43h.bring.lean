/-! the model's calls: a kept text is read again -/
section BRING
variable {N : Nat} {X : Nat → Int32} {d p C n m cl K G : Nat} {k : Nat → Nat} {x1 x2 : Int} {Φ : Nat → Nat} {M0 M M1 M2 : me_M} {kp : Nat → Nat} {j : Nat}
/-- step j's text can be read -/
def KRD (kp : Nat → Nat) (K G j : Nat) (k : Nat → Nat) (M : me_M) : Prop := (∀ f, f < 4 → (0 ≤ me_i M 446 (4 * j + f) ∧ me_i M 446 (4 * j + f) ≤ 3000) ∧ RT K G (rl_at M (kp j + 1 + f) (me_i M 446 (4 * j + f))) (me_i M 446 (4 * j + f)) (k f)) ∧ sumk k 4 ≤ 8
/-- where bring changes ints -/
def bgP (p : Nat) : Nat → Nat → Prop := fun b j => rA p b j ∨ p + 2 ≤ b ∧ b ≤ p + 6
theorem bgP_p {p b j : Nat} (h : bgP p b j) : p ≤ b ∧ b ≤ p + 46 ∨ b = 164 ∧ (j = 3 ∨ j = 4) := by
  rcases h with h | h
  · rcases h with h | h | h
    · exact Or.inl (by omega)
    · exact Or.inl (by omega)
    · exact Or.inr h
  · exact Or.inl (by omega)
/-- a program behind readAll -/
def RDP (p : Nat) (k : Nat → Nat) (M : me_M) : Prop := ∃ Φ C n m, PI p C n m (sumk k 4) Φ M M ∧ cc (tA p M) m = sumk k 4 ∧ (0 ≤ me_i M p 33 ∧ me_i M p 33 ≤ 14)
theorem rd_w (hK : 80000 ≤ K) (hK2 : K < 900000) (hG : 3000 ≤ G) (hG2 : G < 9000) (hd : 1860 ≤ d) (hp : 164 < p) (hT : TX p M) (hS : ∀ f, f < 4 → me_i M (p + 6) f ≤ 3000) (hR : ∀ f, f < 4 → RT K G (rl_at M (p + 2 + f) (me_i M (p + 6) f)) (me_i M (p + 6) f) (k f)) (hs : sumk k 4 ≤ 8) : me_W (mt_G N X) 282 d 0 [some (.inr (.inl (some p, 29, 0))), none, none, none] [] M (sx_qI (fun _ M' => fr (rA p) M M' ∧ RDP p k M') nt_E) := by
  refine (c_282 hK hK2 hG hG2 hd hp hT hR hs).mono fun o M' _ h => ?_
  rcases o with a | _ | x | ⟨a, b⟩ | jj
  · exact h
  · exact h
  · obtain ⟨f, y1, y2, h57, Φ, C, n, m, h1, h2, h3, h4⟩ := h
    have nf : ∀ j, ¬ rA p (p + 6) j := fun j z => by
      unfold rA fF at z
      omega
    refine ⟨f, Φ, C, n, m, ⟨h1, h2, fun b j _ _ _ => rfl, hT.fr f nf, fun i hi => ?_, fun v => absurd h57 v, fun v => h4 (y1.trans v)⟩, h3, by rw [← y1]; exact y2⟩
    rw [f.i (nf i)]
    exact hS i hi
  · exact h
  · exact h
theorem RT.e0 {T T' : Int → Int} {k : Nat} (h : RT K G T 0 k) : RT K G T' 0 k := by
  obtain ⟨C, o, l, pp, s, c, h1, h2⟩ := h
  cases l with
  | nil => exact ⟨C, o, [], pp, s, c, h1, h2⟩
  | cons t l =>
    have a : (0 : Int) = t.2.2.1 := h1.1
    have b := h1.2.1
    omega
theorem br_2 (hj : j < 13) (hp : 192 ≤ p ∧ p + 47 ≤ 380) (hK : 80000 ≤ K) (hK2 : K < 900000) (hG : 3000 ≤ G) (hG2 : G < 9000) (hd : 1862 ≤ d) (HT : TX p M) (HK : KPT kp M) (HR : KRD kp K G j k M) : ∀ (g x : Nat) (M1 : me_M), 4 - x < g → x ≤ 4 → fr (fun b _ => p + 2 ≤ b ∧ b ≤ p + 6) M M1 → (∀ f, f < x → me_i M1 (p + 6) f = me_i M 446 (4 * j + f) ∧ ∀ i : Nat, (i : Int) < me_i M 446 (4 * j + f) → me_i M1 (p + 2 + f) i = me_i M (kp j + 1 + f) i) → me_W (mt_G N X) 396 d 2 [some (.inr (.inl (some 164, 25, 0))), some (.inr (.inl (some p, 29, 0))), some (.inl (j : Int)), some (.inl (x : Int))] [] M1 (sx_qV (fun M' => fr (bgP p) M M' ∧ RDP p k M') nt_E) := by
  intro g
  induction g with
  | zero => intro x M1 z; omega
  | succ g ih =>
    intro x M1 hg hx f1 hv
    have kr := (HK.1 j hj).2.2.1
    refine b396_2 ⟨⟨by omega, by omega⟩, ⟨by decide, by decide⟩, fun c => ?_, fun c => ⟨by omega, by omega, by omega, by omega, ?_⟩⟩
    · have e4 : x = 4 := by omega
      rw [e4] at hv
      have HT1 : TX p M1 := fun f hf => by
        obtain ⟨t1, t2, t3, t4⟩ := HT f hf
        obtain ⟨a, b⟩ := hv f hf
        have := (HR.1 f hf).1
        exact ⟨f1.p.trans t1, by rw [f1.2.1]; exact t2, by omega, by omega⟩
      refine ca_I (by omega) (rd_w (k := k) hK hK2 hG hG2 (by omega) (by omega) HT1 (fun f hf => by rw [(hv f hf).1]; exact (HR.1 f hf).1.2) (fun f hf => ?_) HR.2) (fun y M2 _ z => ⟨(f1.mo fun b j v => Or.inr v).tr (z.1.mo fun b j v => Or.inl v), z.2⟩) nt_E_no
      obtain ⟨a, b⟩ := hv f hf
      have r := (HR.1 f hf).2
      by_cases e0 : me_i M 446 (4 * j + f) = 0
      · rw [a]
        rw [e0] at r ⊢
        exact r.e0
      have e : rl_at M1 (p + 2 + f) (me_i M1 (p + 6) f) = rl_at M (kp j + 1 + f) (me_i M 446 (4 * j + f)) := by
        funext i
        unfold rl_at
        have := (HR.1 f hf).1
        rw [a]
        by_cases c : i < me_i M 446 (4 * j + f)
        · rw [if_pos c, if_pos c, b i.toNat (by omega)]
        · rw [if_neg c, if_neg c]
      rw [e, a]
      exact r
    · have x4 : x < 4 := by omega
      rw [Int.toNat_natCast, Int.toNat_natCast, show (4 * (j : Int) + (x : Int)).toNat = 4 * j + x by omega]
      have o1 : ∀ b i, ¬ (p + 2 ≤ b ∧ b ≤ p + 6) → me_i M1 b i = me_i M b i := fun b i n => f1.i n
      have r1 := (HR.1 x x4).1
      have e446 : me_i M1 (164 + 282) (4 * j + x) = me_i M 446 (4 * j + x) := o1 _ _ (by omega)
      obtain ⟨sz, hsz⟩ := Int.eq_ofNat_of_zero_le r1.1
      rw [e446, hsz]
      intro M5
      have f2 : fr (fun b _ => p + 2 ≤ b ∧ b ≤ p + 6) M1 M5 := fr_sI (by omega)
      have v5 : me_i M5 (p + 6) x = (sz : Int) := by
        show me_i (me_sI M1 (p + 6) x (Int32.ofInt (sz : Int))) (p + 6) x = _
        rw [me_i_sI, if_pos ⟨rfl, rfl⟩, me_to ⟨by omega, by omega⟩]
      have o5 : ∀ b i, ¬ (b = p + 6 ∧ i = x) → me_i M5 b i = me_i M1 b i := fun b i n => by
        show me_i (me_sI M1 (p + 6) x (Int32.ofInt (sz : Int))) b i = _
        rw [me_i_sI, if_neg n]
      clear_value M5
      obtain ⟨k1, k2, k3, k4⟩ := ((HK.fr f1).fr f2).1 j hj
      obtain ⟨k5, k6⟩ := k4 x x4
      obtain ⟨t1, t2, t3, t4⟩ := HT x x4
      have p2 : me_p M5 (p + 1) x = some (p + 2 + x) := f2.p.trans (f1.p.trans t1)
      have z2 : M5.2.1 (p + 2 + x) = (2, 4000) := by
        rw [f2.2.1, f1.2.1]
        exact t2
      refine ⟨by omega, by omega, fun n6 hn6 => ?_⟩
      have h6 := hn6 _ k1
      rw [k2] at h6
      have h6 : 4 = n6 := (Prod.mk.inj h6).2
      rw [show (164 + 216 : Nat) = 380 from rfl, k1]
      refine dr_s ⟨by omega, by omega, fun n8 hn8 => ?_⟩
      have h8 := hn8 _ k5
      rw [k6] at h8
      have h8 : 3000 = n8 := (Prod.mk.inj h8).2
      refine ⟨by omega, by omega, fun n9 hn9 => ?_⟩
      have h9 := hn9 _ p2
      rw [z2] at h9
      have h9 : 4000 = n9 := (Prod.mk.inj h9).2
      refine ⟨by omega, by omega, ?_⟩
      rw [p2, k5, v5]
      refine dr_s (dr_s ⟨by omega, by omega, by omega, by omega, by omega, by omega, ?_⟩)
      rw [Int.toNat_natCast]
      intro M12
      have f3 : fr (fun b _ => p + 2 ≤ b ∧ b ≤ p + 6) M5 M12 := fr_cp fun i => by omega
      have c3 : ∀ c i, me_i M12 c i = if c = p + 2 + x ∧ i < sz then me_i M5 (kp j + 1 + x) i else me_i M5 c i := fun c i => mi_cp
      clear_value M12
      rw [show (x : Int) + 1 = ((x + 1 : Nat) : Int) by omega]
      refine ih (x + 1) M12 (by omega) (by omega) (f1.tr (f2.tr f3)) fun f hf => ?_
      by_cases e : f = x
      · subst e
        refine ⟨?_, fun i hi => ?_⟩
        · rw [c3, if_neg (by omega), v5, hsz]
        · rw [c3, if_pos ⟨rfl, by omega⟩, o5 _ _ (by omega), o1 _ _ (by omega)]
      · obtain ⟨a, b⟩ := hv f (by omega)
        refine ⟨?_, fun i hi => ?_⟩
        · rw [c3, if_neg (by omega), o5 _ _ (by omega)]
          exact a
        · rw [c3, if_neg (by omega), o5 _ _ (by omega)]
          exact b i hi
theorem c_396 (hj : j < 13) (hp : 192 ≤ p ∧ p + 47 ≤ 380) (hK : 80000 ≤ K) (hK2 : K < 900000) (hG : 3000 ≤ G) (hG2 : G < 9000) (hd : 1862 ≤ d) (HT : TX p M) (HK : KPT kp M) (HR : KRD kp K G j k M) : me_W (mt_G N X) 396 d 0 [some (.inr (.inl (some 164, 25, 0))), some (.inr (.inl (some p, 29, 0))), some (.inl (j : Int)), none] [] M (sx_qV (fun M' => fr (bgP p) M M' ∧ RDP p k M') nt_E) :=
  b396_0 (br_2 hj hp hK hK2 hG hG2 hd HT HK HR 5 0 M (by omega) (by omega) fr.rf fun f z => by omega)
end BRING
