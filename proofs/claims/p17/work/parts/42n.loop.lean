/-! the run: from act to act -/
section ACTS
variable {N : Nat} {X : Nat → Int32} {d p C n m cl : Nat} {A B : Nat → Nat → Int} {nx cn ct fc fs mn : Nat → Int} {V : Nat → Nat → Prop} {S F E : Nat → Int} {T BD : Nat} {MA KA : Nat → Int} {Mr M M1 M2 M' : me_M} {P R : Nat → Nat → Prop}
variable {nn fu st rd u b lb lo k i su hg bs tp : Nat} {σ : Nat → cx} {H : Nat → Nat} {z w self fm : Int}
/-- where the acts end -/
def ENDM (p C n m cl : Nat) (A B : Nat → Nat → Int) (nx cn ct fc fs mn : Nat → Int) (V : Nat → Nat → Prop) (S F E : Nat → Int) (T : Nat) (MA KA : Nat → Int) (BD : Nat) (Mr M : me_M) : Prop := ∃ (nn fu st rd hg bs : Nat), BA p C n m cl A B nx cn ct fc fs mn V S F E T MA KA Mr nn fu st rd M ∧ (me_i M 164 42 = 0 ∧ me_i M 164 10 = 0 ∧ me_i M 164 40 = (hg : Int) ∧ me_i M 164 25 = (bs : Int) ∧ me_i M 164 26 = 0) ∧ hg ≤ gL M 39 ∧ (hg = 0 ∨ S T = 1) ∧ rd + (T + 1) * (20001 - st) ≤ BD
theorem acts_w (EV : EVN m cl B nx cn ct fc fs V S F E T MA KA) : ∀ (f μ : Nat) (M : me_M), μ < f → MR p C n m cl A B nx cn ct fc fs mn V S F E T MA KA BD Mr μ M → 26 ≤ d → me_W (mt_G N X) 406 d 0 [some (.inr (.inl (some 164, 25, 0))), none] [] M (sx_qV (ENDM p C n m cl A B nx cn ct fc fs mn V S F E T MA KA BD Mr) (fun e M' => e = 167 ∧ RBS Mr M')) := by
  intro f
  induction f with
  | zero => intro μ M z; omega
  | succ f ih =>
    intro μ M hf ⟨nn, fu, st, rd, u, b, lb, lo, k, i, su, hg, bs, tp, σ, H, z, w, self, fm, I, J, h41, hmu, hb⟩ hd
    have G := I.GA
    have pk := J.2.2.1
    have pkk := pk.1.1
    have iT : i < T := by omega
    have T57 := EV.2.1
    obtain ⟨l1, l2, l3⟩ := I.1.2.1
    obtain ⟨s1, s2, s3⟩ := I.1.2.2.1 i iT
    refine b406_0 fun n1 hn1 => ?_
    cases gn G g31 hn1
    rw [gp G g31, h41]
    refine dr_s ⟨Int.natCast_nonneg _, Int.ofNat_lt.mpr (Nat.lt_of_lt_of_le iT l1), me_i_r _ _ _, fun c => ?_, fun c => ?_⟩
    · rw [Int.toNat_natCast] at c
      have c : S i = 0 := s1.symm.trans c
      have ln := J.2.2.2.2.1.len
      have fb := J.2.2.2.2.2.1
      have ch := J.2.2.2.2.2.2
      have cc : w = -1 ∧ z = -1 ∧ ((σ i).1 = [] ∨ S T = 1) := by
        by_cases e : i = k
        · rcases pk.1.2.2.2.2 with v | v | v
          · rw [e]
            exact v.2
          · have := v.1
            rw [← e] at this
            omega
          · have := v.1
            rw [← e] at this
            omega
        · have ao := (pk.1.2.1 i pk.2.1 (by omega)).2
          unfold AO at ao
          rcases ao with ⟨y, ⟨v, _⟩ | ⟨v, _⟩ | ⟨v, _⟩ | ⟨v, _⟩ | ⟨v, _⟩ | ⟨v, _⟩ | ⟨v, _⟩ | ⟨v, _⟩ | ⟨v, _⟩ | ⟨v, _⟩ | ⟨v, _⟩ | ⟨v, _⟩ | ⟨v, _⟩ | ⟨v, _⟩ | ⟨v, _⟩ | ⟨v, _⟩ | ⟨v, _⟩, _⟩ | ⟨v, _⟩ | ⟨v, _⟩ | ⟨v, _⟩ | ⟨v, _⟩ <;> omega
      have u0 : u = 0 := fb.2.2.2.2.mpr ⟨cc.1, cc.2.1⟩
      subst u0
      have su0 : su = 0 := ch
      refine ⟨nn, fu, st, rd, hg, bs, I, ⟨J.1.1, J.1.2.1, J.1.2.2.1, J.1.2.2.2.1, J.1.2.2.2.2.1.trans ?_⟩, J.2.1.2.1, cc.2.2.imp (fun v => ?_) id, ?_⟩
      · have : tp = 0 := by omega
        rw [this]
        rfl
      · rw [v, List.length_nil] at ln
        omega
      · unfold mu at hmu
        rw [if_neg (by omega)] at hmu
        rw [Nat.sub_zero] at hmu
        omega
    · rw [Int.toNat_natCast] at c
      have c : ¬ S i = 0 := fun v => c (s1.trans v)
      intro M3
      obtain ⟨c1, c2, c3⟩ := cell1 (M1 := M3) (j0 := 41) (x := (i : Int) + 1) G rfl
      rw [me_to ⟨by omega, by omega⟩] at c3
      have c3 : me_i M3 164 41 = ((i + 1 : Nat) : Int) := c3
      clear_value M3
      have kp := m1_k (j0 := 41) (by decide)
      have nr : ∀ j a, ¬ no2 j a := fun _ _ v => v
      have I3 := I.keep c1 (fun b j v => ⟨v.1, by have := v.2; omega⟩) fun j a v => absurd v (nr j a)
      have J3 := J.go (i' := i) (hg' := hg) G c1 kp (fun j a v => absurd v (nr j a)) ((c2.i fun v => absurd v.2 (by decide)).trans J.1.2.2.1) (Nat.le_trans J.2.1.2.1 (c1.2.2.2.2.1 39 g39).1) pk.2 (J.frd G c1 kp (fun a => nr _ a) fun q _ v => v) (J.stk G c1 kp (Nat.le_refl _) (fun a _ => nr _ a) J.2.2.2.2.1)
      have G3 := I3.GA
      obtain ⟨m1, m2, m3⟩ := I3.1.2.1
      obtain ⟨t1, t2, t3⟩ := I3.1.2.2.1 i iT
      have v1 : me_i M3 (ga M3 31) i = S i := t1
      have v2 : me_i M3 (ga M3 32) i = F i := t2
      have v3 : me_i M3 (ga M3 33) i = E i := t3
      have hm : rd + mu S T st su i ≤ BD ∧ BD ≤ 2000000000 := by rw [hmu]; exact hb
      have rd1 : ∀ {l : Nat}, T ≤ l → (0 : Int) ≤ (i : Int) ∧ (i : Int) < ((l : Nat) : Int) := fun h => ⟨Int.natCast_nonneg _, Int.ofNat_lt.mpr (Nat.lt_of_lt_of_le iT h)⟩
      intro n4 hn4
      cases gn G3 g31 hn4
      rw [gp G3 g31, gp G3 g32, gp G3 g33]
      refine dr_s ⟨(rd1 m1).1, (rd1 m1).2, me_i_r _ _ _, ⟨by omega, by omega⟩, fun c15 => ?_, fun c15 => ?_⟩
      · rw [Int.toNat_natCast, v1] at c15
        intro n6 hn6
        cases gn G3 g31 ((gp G3 g31).symm ▸ hn6)
        refine dr_s ⟨(rd1 m1).1, (rd1 m1).2, fun n8 hn8 => ?_⟩
        cases gn G3 g32 ((gp G3 g32).symm ▸ hn8)
        refine dr_s ⟨(rd1 m2).1, (rd1 m2).2, ?_⟩
        rw [Int.toNat_natCast, v1, v2]
        obtain ⟨d', e, W⟩ := act_w2 (N := N) (X := X) (d := d) EV I3 J3 hm c3 c15 (by omega)
        refine ca_V (P := fun M' => NXT p C n m cl A B nx cn ct fc fs mn V S F E T MA KA BD Mr (mu S T st su i) M') (F := (fun e M' => e = 167 ∧ RBS Mr M')) (by omega) (by rw [show d - 1 = d' by omega]; exact W) (fun M' _ ⟨μ', u1, u2⟩ => ih μ' M' (by omega) u2 hd) fun a M' _ y => y
      · rw [Int.toNat_natCast, v1] at c15
        intro n6 hn6
        cases gn G3 g31 ((gp G3 g31).symm ▸ hn6)
        refine dr_s ⟨(rd1 m1).1, (rd1 m1).2, fun n8 hn8 => ?_⟩
        cases gn G3 g32 ((gp G3 g32).symm ▸ hn8)
        refine dr_s ⟨(rd1 m2).1, (rd1 m2).2, fun n9 hn9 => ?_⟩
        cases gn G3 g33 ((gp G3 g33).symm ▸ hn9)
        refine dr_s ⟨(rd1 m3).1, (rd1 m3).2, ?_⟩
        rw [Int.toNat_natCast, v1, v2, v3]
        obtain ⟨d', e, W⟩ := val_w (N := N) (X := X) (d := d) EV I3 J3 hm c3 c c15 (by omega)
        refine ca_V (P := fun M' => NXT p C n m cl A B nx cn ct fc fs mn V S F E T MA KA BD Mr (mu S T st su i) M') (F := (fun e M' => e = 167 ∧ RBS Mr M')) (by omega) (by rw [show d - 1 = d' by omega]; exact W) (fun M' _ ⟨μ', u1, u2⟩ => ih μ' M' (by omega) u2 hd) fun a M' _ y => y
end ACTS
