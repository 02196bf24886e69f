/-! the reference's judge: know -/
section KNOW
variable {N : Nat} {X : Nat → Int32} {d p m b kn e : Nat} {M : me_M}
theorem KN.fr {P : Nat → Nat → Prop} {M' : me_M} (H : KN p M b kn) (f : fr P M M') (h48 : ¬ P p 48) (h41 : ∀ j, j < kn → ¬ P (p + 41) j) (h25 : ∀ j, ¬ P (p + 25) j) : KN p M' b kn := by
  obtain ⟨g1, g2, g3⟩ := H
  refine ⟨by rw [f.i h48, g1], g2, fun i i1 => ?_⟩
  obtain ⟨q, q1, q2, q4⟩ := g3 i i1
  refine ⟨q, by rw [f.i (h41 i i1), q1], q2, ?_⟩
  rw [show tA p M' 0 q = tA p M 0 q from f.i (h25 q)]
  exact q4
/-- know: one more is known; error 5 when its NAME was known -/
theorem c_358 (hd : 3 ≤ d) (hT : TX p M) (hm : m ≤ 2407) (hn : ∀ q, q < m → ∃ w : Nat, tA p M 1 q = (w : Int) ∧ tkv p M w) (hK : KN p M m kn) (hb : kn < 2407) (he : e < m) (hs : tA p M 0 e = 3 ∨ tA p M 0 e = 4) (her : 0 ≤ me_i M p 33 ∧ me_i M p 33 ≤ 14) : me_W (mt_G N X) 358 d 0 [some (.inr (.inl (some p, 29, 0))), some (.inl (e : Int))] [] M (sx_qV (fun M' => fr (fun b j => b = p ∧ (j = 33 ∨ j = 34 ∨ j = 48) ∨ b = p + 41 ∧ j = kn) M M' ∧ KN p M' m (kn + 1) ∧ me_i M' (p + 41) kn = (e : Int) ∧ (0 ≤ me_i M' p 33 ∧ me_i M' p 33 ≤ 14) ∧ (me_i M' p 33 = 0 → me_i M p 33 = 0)) nt_E) := by
  obtain ⟨g1, g2, g3⟩ := id hK
  obtain ⟨w, w1, w2⟩ := hn e he
  have hK' : KN p M m kn := hK
  -- what is put behind the others
  have fin : ∀ M7 : me_M, fr (fun b j => b = p ∧ (j = 33 ∨ j = 34)) M M7 → (0 ≤ me_i M7 p 33 ∧ me_i M7 p 33 ≤ 14) → (me_i M7 p 33 = 0 → me_i M p 33 = 0) → ∀ M8 M9 : me_M, M8 = me_sI M7 (p + 41) kn (Int32.ofInt (e : Int)) → M9 = me_sI M8 p 48 (Int32.ofInt ((kn : Int) + 1)) → fr (fun b j => b = p ∧ (j = 33 ∨ j = 34 ∨ j = 48) ∨ b = p + 41 ∧ j = kn) M M9 ∧ KN p M9 m (kn + 1) ∧ me_i M9 (p + 41) kn = (e : Int) ∧ (0 ≤ me_i M9 p 33 ∧ me_i M9 p 33 ≤ 14) ∧ (me_i M9 p 33 = 0 → me_i M p 33 = 0) := by
    intro M7 f7 h7 h7' M8 M9 e8 e9
    have f8 : fr (fun b j => b = p + 41 ∧ j = kn) M7 M8 := e8 ▸ fr_sI ⟨rfl, rfl⟩
    have f9 : fr (fun b j => b = p ∧ j = 48) M8 M9 := e9 ▸ fr_sI ⟨rfl, rfl⟩
    have fa : fr (fun b j => b = p ∧ (j = 33 ∨ j = 34 ∨ j = 48) ∨ b = p + 41 ∧ j = kn) M M9 := (f7.mo fun b j z => by omega).tr ((f8.mo fun b j z => by omega).tr (f9.mo fun b j z => by omega))
    have e33 : me_i M9 p 33 = me_i M7 p 33 := by rw [f9.i (by omega), f8.i (by omega)]
    have ek : me_i M9 (p + 41) kn = (e : Int) := by rw [f9.i (by omega), e8, me_i_sI, if_pos ⟨rfl, rfl⟩, me_to ⟨by omega, by omega⟩]
    refine ⟨fa, ⟨?_, by omega, fun i i1 => ?_⟩, ek, by rw [e33]; exact h7, by rw [e33]; exact h7'⟩
    · rw [e9, me_i_sI, if_pos ⟨rfl, rfl⟩, me_to ⟨by omega, by omega⟩]
      omega
    · by_cases c : i = kn
      · subst c
        refine ⟨e, ek, by omega, ?_⟩
        · rw [show tA p M9 0 e = tA p M 0 e from fa.i (by omega)]
          exact hs
      · obtain ⟨q, q1, q2, q4⟩ := g3 i (by omega)
        refine ⟨q, by rw [fa.i (by omega), q1], by omega, ?_⟩
        rw [show tA p M9 0 q = tA p M 0 q from fa.i (by omega)]
        exact q4
  refine b358_0 ?_
  rw [Int.toNat_natCast, show me_i M (p + 26) e = (w : Int) from w1]
  refine ⟨by omega, by omega, ?_⟩
  refine ca_I (by omega) (c_346 (by omega) hT hm hn hK' w2) (fun y M1 _ g => ?_) nt_E_no
  obtain ⟨rfl, g⟩ := g
  refine ⟨by rcases g with rfl | ⟨j, q, _, rfl, _, _, _⟩ <;> exact ⟨by omega, by omega⟩, fun z => ?_, fun z => ⟨by omega, by omega, ?_⟩⟩
  · rw [g1, Int.toNat_natCast]
    refine ⟨by omega, by omega, ?_⟩
    intro M5
    rw [show me_i M5 p 48 = (kn : Int) by
      show me_i (me_sI _ _ _ _) _ _ = _
      rw [me_i_sI, if_neg (by omega), g1]]
    exact fin M1 fr.rf her (fun h => h) M5 _ rfl rfl
  · rw [show me_i M1 (p + 26) e = (w : Int) from w1]
    refine ca_V (by omega) (c_334 (by omega) w2 (by omega) (by omega) her) (fun M7 _ q => ?_) nt_E_no
    obtain ⟨f7, h7, h8⟩ := q
    rw [show me_i M7 p 48 = (kn : Int) by rw [f7.i (by omega), g1], Int.toNat_natCast]
    refine ⟨by omega, by omega, ?_⟩
    intro M10
    rw [show me_i M10 p 48 = (kn : Int) by
      show me_i (me_sI _ _ _ _) _ _ = _
      rw [me_i_sI, if_neg (by omega), f7.i (by omega), g1]]
    exact fin M7 f7 ⟨by omega, h8⟩ (fun h => by omega) M10 _ rfl rfl
end KNOW
