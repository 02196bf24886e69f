/-! the run: acts, one and all -/
section WORK
variable {N : Nat} {X : Nat → Int32} {d p C n m cl : Nat} {A B : Nat → Nat → Int} {nx cn ct fc fs mn : Nat → Int} {V : Nat → Nat → Prop} {S F E : Nat → Int} {T BD : Nat} {MA KA : Nat → Int} {Mr M M1 M2 M' : me_M} {P R : Nat → Nat → Prop}
variable {nn fu st rd u b lb lo k i su hg bs tp : Nat} {σ : Nat → cx} {H : Nat → Nat} {z w self fm : Int}
theorem MEMO.rs (I : MEMO p C n m cl A B nx cn ct fc fs mn V S F E T MA KA M) (hi : i < T) : me_r (S i) ∧ me_r (F i) ∧ me_r (E i) := by
  obtain ⟨a1, a2, a3⟩ := I.2.2.1 i hi
  rw [← a1, ← a2, ← a3]
  exact ⟨me_i_r _ _ _, me_i_r _ _ _, me_i_r _ _ _⟩
theorem ca_V' {zz d pc : Nat} {L : List (Option me_V)} {st : List me_V} {P : me_M → Prop} {FF : Nat → me_M → Prop} (hd : 1 ≤ d) (h : me_W (mt_G N X) zz (d - 1) pc L st M (sx_qV P FF)) : ∃ d', d = d' + 1 ∧ me_W (mt_G N X) zz d' pc L st M (sx_qV P FF) := ⟨d - 1, by omega, h⟩
theorem val_w (EV : EVN m cl B nx cn ct fc fs V S F E T MA KA) (I : BA p C n m cl A B nx cn ct fc fs mn V S F E T MA KA Mr nn fu st rd M) (J : FX B nx cn m cl S F E T nn u b lb lo k i su σ H z w hg bs tp self fm M) (hm : rd + mu S T st su i ≤ BD ∧ BD ≤ 2000000000) (h41 : me_i M 164 41 = ((i + 1 : Nat) : Int)) (h0 : ¬ S i = 0) (h15 : S i < 15) (hd : 24 ≤ d) : ∃ d', d = d' + 1 ∧ me_W (mt_G N X) 407 d' 0 [some (.inr (.inl (some 164, 25, 0))), some (.inl (S i)), some (.inl (F i)), some (.inl (E i)), none, none] [] M (sx_qV (fun M' => NXT p C n m cl A B nx cn ct fc fs mn V S F E T MA KA BD Mr (mu S T st su i) M') (fun e M' => e = 167 ∧ RBS Mr M')) := by
  obtain ⟨d', rfl⟩ : ∃ d', d = d' + 1 := ⟨d - 1, by omega⟩
  refine ⟨d', rfl, ?_⟩
  have pk := J.2.2.1
  have pkk := pk.1.1
  obtain ⟨rS, rF, rE⟩ := I.1.rs (i := i) (by omega)
  have ac := pk.1.act pk.2.1 pk.2.2
  rcases ac with ac | ⟨ac, _⟩ | ⟨ac, _⟩ | ⟨hik, cx0, ac⟩
  · exact absurd ac h0
  · omega
  · omega
  rcases ac with ⟨y, sa, hc⟩ | ⟨hs, j, t, r, fj, ij, jk, ht, ex, c1, c2⟩ | ⟨hs, _⟩ | ⟨hs, _⟩
  · rcases sa with ⟨hs, h2, t, e, ht⟩ | ⟨hs, h2, h4, e⟩ | ⟨hs, h2, t, e, ht⟩ | ⟨hs, h2, q, q0, q1, q2, q3, q4, e⟩ | ⟨hs, h2, q, q0, q1, q2, q3, e⟩ | ⟨hs, h2, q, q0, q1, q2, q3, h4, q4, e⟩ | ⟨hs, h2, q, t, r, q0, q1, q2, q3, ht, q4, ex, e⟩ | ⟨hs, h2, c, q0, hcl, e⟩ | ⟨hs, h2, t0, t, r, ht, ex, e⟩ | ⟨hs, h2, t0, t1, t, r, ht, ex, e⟩ | ⟨hs, h2, q, l, r, zz, q0, qm, q2, q9, ar, ee, hx, e⟩ | ⟨hs, _⟩ | ⟨hs, _⟩ | ⟨hs, _⟩ | ⟨hs, _⟩ | ⟨hs, _⟩ | ⟨hs, _⟩
    · refine b407_0 ⟨rS, fun z => by omega, fun _ => v_1 EV I J hm h41 hik cx0 hc hs h2 e ht (by omega), fun z => by omega, fun z => by omega, fun z => by omega, fun z => by omega, fun z => by omega, fun z => by omega, fun z => by omega, fun z => by omega, fun z => by omega, fun z => by omega, fun z => by omega, fun z => by omega, trivial⟩
    · refine b407_0 ⟨rS, fun z => by omega, fun z => by omega, fun _ => v_2 EV I J hm h41 hik cx0 hc hs h2 h4 e (by omega), fun z => by omega, fun z => by omega, fun z => by omega, fun z => by omega, fun z => by omega, fun z => by omega, fun z => by omega, fun z => by omega, fun z => by omega, fun z => by omega, fun z => by omega, trivial⟩
    · refine b407_0 ⟨rS, fun z => by omega, fun z => by omega, fun z => by omega, fun _ => v_3 (Q := sx_qV (fun _ => True) nt_E) EV I J hm h41 hik cx0 hc hs h2 e ht (by omega), fun z => by omega, fun z => by omega, fun z => by omega, fun z => by omega, fun z => by omega, fun z => by omega, fun z => by omega, fun z => by omega, fun z => by omega, fun z => by omega, trivial⟩
    · refine b407_0 ⟨rS, fun z => by omega, fun z => by omega, fun z => by omega, fun z => by omega, fun _ => v_4 EV I J hm h41 hik cx0 hc hs h2 q0 q1 q2 q3 q4 e (by omega), fun z => by omega, fun z => by omega, fun z => by omega, fun z => by omega, fun z => by omega, fun z => by omega, fun z => by omega, fun z => by omega, fun z => by omega, trivial⟩
    · refine b407_0 ⟨rS, fun z => by omega, fun z => by omega, fun z => by omega, fun z => by omega, fun z => by omega, fun _ => v_5 EV I J hm h41 hik cx0 hc hs h2 q0 q1 q2 q3 e (by omega), fun z => by omega, fun z => by omega, fun z => by omega, fun z => by omega, fun z => by omega, fun z => by omega, fun z => by omega, fun z => by omega, trivial⟩
    · refine b407_0 ⟨rS, fun z => by omega, fun z => by omega, fun z => by omega, fun z => by omega, fun z => by omega, fun z => by omega, fun _ => v_6 EV I J hm h41 hik cx0 hc hs h2 q0 q1 q2 q3 h4 q4 e (by omega), fun z => by omega, fun z => by omega, fun z => by omega, fun z => by omega, fun z => by omega, fun z => by omega, fun z => by omega, trivial⟩
    · refine b407_0 ⟨rS, fun z => by omega, fun z => by omega, fun z => by omega, fun z => by omega, fun z => by omega, fun z => by omega, fun z => by omega, fun _ => v_7 EV I J hm h41 hik cx0 hc hs h2 q0 q1 q2 q3 ht q4 ex e (by omega), fun z => by omega, fun z => by omega, fun z => by omega, fun z => by omega, fun z => by omega, fun z => by omega, trivial⟩
    · refine b407_0 ⟨rS, fun z => by omega, fun z => by omega, fun z => by omega, fun z => by omega, fun z => by omega, fun z => by omega, fun z => by omega, fun z => by omega, fun _ => as_8 EV I J hm h41 hik cx0 hc hs h2 q0 hcl e (by omega), fun z => by omega, fun z => by omega, fun z => by omega, fun z => by omega, fun z => by omega, trivial⟩
    · rcases hs with hs | hs
      · refine b407_0 ⟨rS, fun z => by omega, fun z => by omega, fun z => by omega, fun z => by omega, fun z => by omega, fun z => by omega, fun z => by omega, fun z => by omega, fun z => by omega, fun _ => v_9 (f := fun x => -x) EV I J hm h41 hik cx0 hc (Or.inl hs) h2 ht ex e, fun z => by omega, fun z => by omega, fun z => by omega, fun z => by omega, trivial⟩
      · refine b407_0 ⟨rS, fun z => by omega, fun z => by omega, fun z => by omega, fun z => by omega, fun z => by omega, fun z => by omega, fun z => by omega, fun z => by omega, fun z => by omega, fun z => by omega, fun _ => v_9 (f := fun x => 1 - x) EV I J hm h41 hik cx0 hc (Or.inr hs) h2 ht ex e, fun z => by omega, fun z => by omega, fun z => by omega, trivial⟩
    · refine b407_0 ⟨rS, fun z => by omega, fun z => by omega, fun z => by omega, fun z => by omega, fun z => by omega, fun z => by omega, fun z => by omega, fun z => by omega, fun z => by omega, fun z => by omega, fun z => by omega, fun _ => v_11 EV I J hm h41 hik cx0 hc hs h2 ht ex e rF (by omega), fun z => by omega, fun z => by omega, trivial⟩
    · refine b407_0 ⟨rS, fun _ => ca_V' (by omega) (as_14 EV I J hm h41 hik cx0 hc hs h2 q0 qm q2 q9 ar ee hx e (by omega)), fun z => by omega, fun z => by omega, fun z => by omega, fun z => by omega, fun z => by omega, fun z => by omega, fun z => by omega, fun z => by omega, fun z => by omega, fun z => by omega, fun z => by omega, fun z => by omega, fun z => by omega, trivial⟩
    · omega
    · omega
    · omega
    · omega
    · omega
    · omega
  · rcases hs with hs | hs
    · refine b407_0 ⟨rS, fun z => by omega, fun z => by omega, fun z => by omega, fun z => by omega, fun z => by omega, fun z => by omega, fun z => by omega, fun z => by omega, fun z => by omega, fun z => by omega, fun z => by omega, fun z => by omega, fun _ => fun n94 hn => v_12 (o := 0) EV I J hm h41 hik cx0 (by omega) fj ij jk ex c1 c2 ⟨by omega, by omega⟩ n94 hn (A0 := fun x => me_r (S i) ∧ me_r 12 ∧ (¬ S i = 12 → me_r x ∧ me_r 1 ∧ (¬ x = 1 → let M96 : me_M := me_sI M 164 40 (Int32.ofInt (me_i M 164 40 - 1)); NXT p C n m cl A B nx cn ct fc fs mn V S F E T MA KA BD Mr (mu S T st su i) M96) ∧ (x = 1 → let M97 : me_M := me_sI M 164 41 (Int32.ofInt (F i)); NXT p C n m cl A B nx cn ct fc fs mn V S F E T MA KA BD Mr (mu S T st su i) M97)) ∧ (S i = 12 → me_r x ∧ me_r 0 ∧ (¬ x = 0 → let M96 : me_M := me_sI M 164 40 (Int32.ofInt (me_i M 164 40 - 1)); NXT p C n m cl A B nx cn ct fc fs mn V S F E T MA KA BD Mr (mu S T st su i) M96) ∧ (x = 0 → let M97 : me_M := me_sI M 164 41 (Int32.ofInt (F i)); NXT p C n m cl A B nx cn ct fc fs mn V S F E T MA KA BD Mr (mu S T st su i) M97))) fun x rx hh => ⟨rS, ⟨by omega, by omega⟩, fun n => absurd hs n, fun _ => ⟨rx, hh⟩⟩, fun z => by omega, trivial⟩
    · refine b407_0 ⟨rS, fun z => by omega, fun z => by omega, fun z => by omega, fun z => by omega, fun z => by omega, fun z => by omega, fun z => by omega, fun z => by omega, fun z => by omega, fun z => by omega, fun z => by omega, fun z => by omega, fun z => by omega, fun _ => fun n94 hn => v_12 (o := 1) EV I J hm h41 hik cx0 (by omega) fj ij jk ex c1 c2 ⟨by omega, by omega⟩ n94 hn (A0 := fun x => me_r (S i) ∧ me_r 12 ∧ (¬ S i = 12 → me_r x ∧ me_r 1 ∧ (¬ x = 1 → let M96 : me_M := me_sI M 164 40 (Int32.ofInt (me_i M 164 40 - 1)); NXT p C n m cl A B nx cn ct fc fs mn V S F E T MA KA BD Mr (mu S T st su i) M96) ∧ (x = 1 → let M97 : me_M := me_sI M 164 41 (Int32.ofInt (F i)); NXT p C n m cl A B nx cn ct fc fs mn V S F E T MA KA BD Mr (mu S T st su i) M97)) ∧ (S i = 12 → me_r x ∧ me_r 0 ∧ (¬ x = 0 → let M96 : me_M := me_sI M 164 40 (Int32.ofInt (me_i M 164 40 - 1)); NXT p C n m cl A B nx cn ct fc fs mn V S F E T MA KA BD Mr (mu S T st su i) M96) ∧ (x = 0 → let M97 : me_M := me_sI M 164 41 (Int32.ofInt (F i)); NXT p C n m cl A B nx cn ct fc fs mn V S F E T MA KA BD Mr (mu S T st su i) M97))) fun x rx hh => ⟨rS, ⟨by omega, by omega⟩, fun _ => ⟨rx, hh⟩, fun n => by omega⟩, trivial⟩
  · omega
  · omega
theorem act_w2 (EV : EVN m cl B nx cn ct fc fs V S F E T MA KA) (I : BA p C n m cl A B nx cn ct fc fs mn V S F E T MA KA Mr nn fu st rd M) (J : FX B nx cn m cl S F E T nn u b lb lo k i su σ H z w hg bs tp self fm M) (hm : rd + mu S T st su i ≤ BD ∧ BD ≤ 2000000000) (h41 : me_i M 164 41 = ((i + 1 : Nat) : Int)) (h15 : 15 ≤ S i) (hd : 24 ≤ d) : ∃ d', d = d' + 1 ∧ me_W (mt_G N X) 421 d' 0 [some (.inr (.inl (some 164, 25, 0))), some (.inl (S i)), some (.inl (F i)), none, none] [] M (sx_qV (fun M' => NXT p C n m cl A B nx cn ct fc fs mn V S F E T MA KA BD Mr (mu S T st su i) M') (fun e M' => e = 167 ∧ RBS Mr M')) := by
  obtain ⟨d', rfl⟩ : ∃ d', d = d' + 1 := ⟨d - 1, by omega⟩
  refine ⟨d', rfl, ?_⟩
  have pk := J.2.2.1
  have pkk := pk.1.1
  obtain ⟨rS, rF, rE⟩ := I.1.rs (i := i) (by omega)
  have sb := I.2.2.2.2.2.2.2.2.1
  have ac := pk.1.act pk.2.1 pk.2.2
  rcases ac with ac | ⟨hs, h, hw, hm', h2, t, hx, hf⟩ | ⟨hs, hx, hw, c, hz, hcl⟩ | ⟨hik, cx0, ac⟩
  · omega
  · refine b421_0 ⟨rS, fun z => by omega, fun z => by omega, fun z => by omega, fun z => by omega, fun z => by omega, fun z => by omega, fun z => by omega, fun z => by omega, fun z => by omega, fun z => by omega, fun _ => by
      intro M75
      exact as_24 EV I J hm h41 hs hw hx hf (by omega) rfl, fun z => by omega, fun z => by omega, trivial⟩
  · refine b421_0 ⟨rS, fun _ => by
      intro M1
      exact as_27 EV I J hm h41 hs hw hz hx (by omega) rfl, fun z => by omega, fun z => by omega, fun z => by omega, fun z => by omega, fun z => by omega, fun z => by omega, fun z => by omega, fun z => by omega, fun z => by omega, fun z => by omega, fun z => by omega, fun z => by omega, trivial⟩
  rcases ac with ⟨y, sa, hc⟩ | ⟨hs, _⟩ | ⟨hs, j, t, r, fj, ij, jk, ex, c1, c2⟩ | ⟨hs, j, fj, j1, j2, j3, c2⟩
  · rcases sa with ⟨hs, _⟩ | ⟨hs, _⟩ | ⟨hs, _⟩ | ⟨hs, _⟩ | ⟨hs, _⟩ | ⟨hs, _⟩ | ⟨hs, _⟩ | ⟨hs, _⟩ | ⟨hs, _⟩ | ⟨hs, _⟩ | ⟨hs, _⟩ | ⟨hs, h2, e⟩ | ⟨hs, q, t, r, q0, q1, q2, q3, hf, ex, e, hy⟩ | ⟨hs, h2, q, t, r, q0, q1, q2, q3, hf, ex, e⟩ | ⟨hs, h2, q, t, r, q0, q1, q2, q3, h4, q4, hf, ex, e⟩ | ⟨hs, h2, q, t, u, r, q0, q1, q2, q3, hf, ht, q4, ex, e⟩ | ⟨hs, h2, t, ex⟩
    · omega
    · omega
    · omega
    · omega
    · omega
    · omega
    · omega
    · omega
    · omega
    · omega
    · omega
    · rcases hs with hs | hs | hs
      · refine b421_0 ⟨rS, fun z => by omega, fun _ => by
        intro M8
        exact as_15 EV I J hm h41 hik cx0 hc (Or.inl hs) h2 e (by omega) rfl, fun z => by omega, fun z => by omega, fun z => by omega, fun z => by omega, fun z => by omega, fun z => by omega, fun z => by omega, fun z => by omega, fun z => by omega, fun z => by omega, fun z => by omega, trivial⟩
      · refine b421_0 ⟨rS, fun z => by omega, fun z => by omega, fun _ => by
        intro M8
        exact as_15 EV I J hm h41 hik cx0 hc (Or.inr hs) h2 e (by omega) rfl, fun z => by omega, fun z => by omega, fun z => by omega, fun z => by omega, fun z => by omega, fun z => by omega, fun z => by omega, fun z => by omega, fun z => by omega, fun z => by omega, trivial⟩
      · refine b421_0 ⟨rS, fun z => by omega, fun z => by omega, fun z => by omega, fun z => by omega, fun z => by omega, fun z => by omega, fun z => by omega, fun z => by omega, fun z => by omega, fun z => by omega, fun z => by omega, fun z => by omega, fun _ => by
        intro M8
        exact as_26 EV I J hm h41 hik cx0 hc hs h2 e rfl, trivial⟩
    · refine b421_0 ⟨rS, fun z => by omega, fun z => by omega, fun z => by omega, fun _ => as_17 EV I J hm h41 hik cx0 hc hs q0 q1 q2 q3 hf ex e hy (by omega), fun z => by omega, fun z => by omega, fun z => by omega, fun z => by omega, fun z => by omega, fun z => by omega, fun z => by omega, fun z => by omega, fun z => by omega, trivial⟩
    · refine b421_0 ⟨rS, fun z => by omega, fun z => by omega, fun z => by omega, fun z => by omega, fun _ => as_18 EV I J hm h41 hik cx0 hc hs h2 q0 q1 hf ex e (by omega), fun z => by omega, fun z => by omega, fun z => by omega, fun z => by omega, fun z => by omega, fun z => by omega, fun z => by omega, fun z => by omega, trivial⟩
    · refine b421_0 ⟨rS, fun z => by omega, fun z => by omega, fun z => by omega, fun z => by omega, fun z => by omega, fun _ => as_19 EV I J hm h41 hik cx0 hc hs h2 q0 q1 q2 q3 h4 q4 hf ex e (by omega), fun z => by omega, fun z => by omega, fun z => by omega, fun z => by omega, fun z => by omega, fun z => by omega, fun z => by omega, trivial⟩
    · refine b421_0 ⟨rS, fun z => by omega, fun z => by omega, fun z => by omega, fun z => by omega, fun z => by omega, fun z => by omega, fun _ => as_20 (Q := fun _ => True) EV I J hm h41 hik cx0 hc hs h2 q0 q1 q2 q3 hf ht q4 ex e (by omega), fun z => by omega, fun z => by omega, fun z => by omega, fun z => by omega, fun z => by omega, fun z => by omega, trivial⟩
    · rcases hs with hs | hs
      · refine b421_0 ⟨rS, fun z => by omega, fun z => by omega, fun z => by omega, fun z => by omega, fun z => by omega, fun z => by omega, fun z => by omega, fun _ => by
        intro M68
        exact drop_fin EV I J hm h41 ex hc.1 (fun q _ v => by rw [← h2]; exact hc.2 q v) hik (by omega) rfl, fun z => by omega, fun z => by omega, fun z => by omega, fun z => by omega, fun z => by omega, trivial⟩
      · refine b421_0 ⟨rS, fun z => by omega, fun z => by omega, fun z => by omega, fun z => by omega, fun z => by omega, fun z => by omega, fun z => by omega, fun z => by omega, fun z => by omega, fun z => by omega, fun z => by omega, fun _ => as_25 EV I J hm h41 hik cx0 hc hs h2 ex rfl (by omega), fun z => by omega, trivial⟩
  · omega
  · refine b421_0 ⟨rS, fun z => by omega, fun z => by omega, fun z => by omega, fun z => by omega, fun z => by omega, fun z => by omega, fun z => by omega, fun z => by omega, fun _ => as_22 EV I J hm h41 hik cx0 (by omega) fj ij jk ex c1 c2 (by omega), fun z => by omega, fun z => by omega, fun z => by omega, fun z => by omega, trivial⟩
  · refine b421_0 ⟨rS, fun z => by omega, fun z => by omega, fun z => by omega, fun z => by omega, fun z => by omega, fun z => by omega, fun z => by omega, fun z => by omega, fun z => by omega, fun _ => by
      intro M74
      refine jump_fin (j := j) EV I J hm h41 c2.1 J.2.2.2.2.1 (fun q _ v => c2.2 q v) ⟨j1, j2⟩ ?_ (by rw [← fj])
      rcases j3 with j3 | j3
      · exact mu_fwd (by omega) j3 (by omega)
      · exact mu_back (by omega) j3 sb, fun z => by omega, fun z => by omega, fun z => by omega, trivial⟩
end WORK
