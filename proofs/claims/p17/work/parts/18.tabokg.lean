/-! the tables are right, as the machine asks: the whole of it -/
theorem mt_F_ok {y idx ci k : Nat} {b : Bool} {hst : String} {p : Nat × Nat} (h : (idx, ci, k, b, hst, p) ∈ mt_F.getD (mt_oc y) []) : mv_okF mt_cl mt_Tg (mt_Nm y).cls idx ci k ∧ ci < mt_k.length ∧ ((mt_Nm y).cls = mt_cn ci → Cond.fieldLink (mt_Nm y).cls idx (mt_T ci k).1 (mt_T ci k).2.1 (mt_T ci k).2.2.1 ∈ mt_Tg) := by
  have h1 := mt_all_of mt_okf_all h
  unfold mt_okf at h1
  simp only [Bool.and_eq_true] at h1
  obtain ⟨⟨⟨h1, h2⟩, h3⟩, h4⟩ := h1
  have h1 := mt_lt h1
  rw [mt_cls]
  cases b with
  | true =>
    rw [if_pos rfl] at h3
    refine ⟨⟨_, _, _, mt_cl_at h1, mt_lt h2, mt_ws_in h1, Or.inr ⟨hst, mt_g (mt_in_mem h3) rfl⟩⟩, h1, fun e => ?_⟩
    simp [e] at h4
  | false =>
    rw [if_neg (by decide)] at h3
    have h5 := mt_g (mt_in_mem h3) rfl
    exact ⟨⟨_, _, _, mt_cl_at h1, mt_lt h2, mt_ws_in h1, Or.inl h5⟩, h1, fun _ => h5⟩
theorem mt_M_ok {z : Nat} (n : Nat) (f : Nat → Int32) (h : mt_zin z = true) : mv_okM mt_Nm mt_Cd mt_Tg (mt_G n f) z := by
  unfold mt_zin at h
  rw [Bool.and_eq_true] at h
  have h0 : z ∈ (List.range mt_m.length).drop 1 := by
    refine List.mem_of_getElem? (i := z - 1) ?_
    have := mt_lt h.1
    rw [List.getElem?_drop, show 1 + (z - 1) = z by omega, List.getElem?_range (mt_lt h.2)]
  have h1 := List.all_eq_true.mp mt_okm_all z h0
  have h2 := List.all_eq_true.mp mt_okp_all z h0
  unfold mt_okm at h1
  simp only [Bool.and_eq_true] at h1
  obtain ⟨⟨h1, h3⟩, h4⟩ := h1
  refine ⟨?_, h2, by simpa using h3, by simpa using h4⟩
  split at h1
  · rename_i hh
    refine Or.inl ⟨?_, hh⟩
    unfold mt_inC at h1
    split at h1
    · rename_i m' b' l' r' hw
      simp only [Bool.and_eq_true] at h1
      obtain ⟨⟨⟨e1, e2⟩, e3⟩, e4⟩ := h1
      have e1 := of_decide_eq_true e1
      have e2 := mt_beq_eq e2
      have e3 := Nat.eq_of_beq_eq_true e3
      have e4 := of_decide_eq_true e4
      subst e1 e2 e3 e4
      exact mt_g (mt_in_mem (q := (mt_inf z).2.2.1) (decide_eq_true hw)) rfl
    · cases h1
  · refine Or.inr ?_
    unfold mt_inH at h1
    split at h1
    · rename_i m' b' l' r' h' hw
      simp only [Bool.and_eq_true] at h1
      obtain ⟨⟨⟨⟨e1, e2⟩, e3⟩, e4⟩, e5⟩ := h1
      have e1 := of_decide_eq_true e1
      have e2 := mt_beq_eq e2
      have e3 := Nat.eq_of_beq_eq_true e3
      have e4 := of_decide_eq_true e4
      have e5 := of_decide_eq_true e5
      subst e1 e2 e3 e4 e5
      exact mt_g (mt_in_mem (q := (mt_inf z).2.2.1) (decide_eq_true hw)) rfl
    · cases h1
theorem mt_K_ok {y idx kd z n : Nat} {hst : String} {p : Nat × Nat} (h : mt_okl (mt_oc y) (idx, kd, z, n, hst, p) = true) : mv_okK mt_Tg (mt_Nm y).cls idx (mt_Nm z) := by
  unfold mt_okl at h
  rw [mt_cls]
  split at h
  · exact Or.inr ⟨hst, mt_g (mt_in_mem h) rfl⟩
  · exact Or.inl (mt_g (mt_in_mem h) rfl)
theorem mt_D_ok {z n : Nat} (h : mt_okd z n = true) : mv_okN (mt_Nm z) n := by
  intro sig hs
  unfold mt_okd at h
  rw [hs] at h
  exact Nat.eq_of_beq_eq_true h
theorem mt_pick3 {y idx kd z n : Nat} (h : (mt_pick mt_C y idx).map (fun e => (e.1, e.2.1, e.2.2.1)) = some (kd, z, n)) : ∃ (hst : String) (p : Nat × Nat), (idx, kd, z, n, hst, p) ∈ mt_C.getD (mt_oc y) [] := by
  rw [Option.map_eq_some_iff] at h
  obtain ⟨e, h1, h2⟩ := h
  obtain ⟨kd', z', n', hst, p⟩ := e
  cases h2
  exact ⟨hst, p, mt_pick_of h1⟩
theorem mt_calls {y idx kd z n0 : Nat} (n : Nat) (f : Nat → Int32) (h : (mt_pick mt_C y idx).map (fun e => (e.1, e.2.1, e.2.2.1)) = some (kd, z, n0)) : (kd = 0 ∨ kd = 1 → mv_okM mt_Nm mt_Cd mt_Tg (mt_G n f) z ∧ mv_okS mt_Nm mt_Tg (mt_Nm y).cls idx z n0) ∧ (kd = 2 ∨ kd = 3 → mv_okM mt_Nm mt_Cd mt_Tg (mt_G n f) z ∧ mv_okV mt_Nm mt_cl mt_Tg (mt_G n f) (mt_Nm y).cls idx z n0) ∧ (kd = 4 ∨ kd = 5 → mv_okM mt_Nm mt_Cd mt_Tg (mt_G n f) z ∧ mv_okI mt_Nm mt_Cd mt_Tg (mt_G n f) (mt_Nm y).cls idx z n0) := by
  obtain ⟨hst, p, hm⟩ := mt_pick3 h
  have h1 := mt_all_of mt_okc_all hm
  refine ⟨fun hk => ?_, fun hk => ?_, fun hk => ?_⟩
  · have h1 : mt_okc (mt_oc y) (idx, kd, z, n0, hst, p) = true := h1
    unfold mt_okc at h1
    rw [if_pos (show kd ≤ 1 by omega)] at h1
    simp only [Bool.and_eq_true] at h1
    obtain ⟨⟨⟨⟨a1, a2⟩, a3⟩, a4⟩, a5⟩ := h1
    exact ⟨mt_M_ok n f a1, mt_K_ok a2, mt_g (mt_in_mem a4) rfl, mt_g (mt_in_mem a5) rfl, mt_D_ok a3⟩
  · have h1 : mt_okc (mt_oc y) (idx, kd, z, n0, hst, p) = true := h1
    unfold mt_okc at h1
    rw [if_neg (show ¬ kd ≤ 1 by omega), if_pos (show kd ≤ 3 by omega)] at h1
    simp only [Bool.and_eq_true] at h1
    obtain ⟨⟨⟨⟨⟨⟨a1, a2⟩, a3⟩, a4⟩, a5⟩, a6⟩, a7⟩ := h1
    refine ⟨mt_M_ok n f a1, mt_K_ok a2, mt_g (mt_in_mem a4) rfl, mt_g (mt_in_mem a5) rfl, ?_, mt_D_ok a3⟩
    refine ⟨mt_T (mt_gW z), (mt_fl (mt_gW z)).length, ?_⟩
    rw [← of_decide_eq_true a7]
    exact mt_cl_at (mt_lt a6)
  · have h1 : mt_okc (mt_oc y) (idx, kd, z, n0, hst, p) = true := h1
    unfold mt_okc at h1
    rw [if_neg (show ¬ kd ≤ 1 by omega), if_neg (show ¬ kd ≤ 3 by omega), if_pos (show kd ≤ 5 by omega)] at h1
    simp only [Bool.and_eq_true] at h1
    obtain ⟨⟨⟨⟨⟨a1, a2⟩, a3⟩, a4⟩, a5⟩, a6⟩ := h1
    refine ⟨mt_M_ok n f a1, mt_K_ok a2, mt_g (mt_in_mem a4) rfl, of_decide_eq_true a5, ?_, mt_D_ok a3⟩
    unfold mt_inC at a6
    split at a6
    · rename_i m' b' l' r' hw
      simp only [Bool.and_eq_true] at a6
      obtain ⟨⟨⟨e1, e2⟩, e3⟩, e4⟩ := a6
      have e1 := of_decide_eq_true e1
      have e2 := mt_beq_eq e2
      have e3 := Nat.eq_of_beq_eq_true e3
      have e4 := of_decide_eq_true e4
      subst e1 e2 e3 e4
      exact mt_g (mt_in_mem (q := (mt_inf z).2.2.1) (decide_eq_true hw)) rfl
    · cases a6
theorem mt_gi {own : String} {idx : Nat} {y : MethodName} {v : List Jvm.Cond} (h : Cond.methodLink own idx y ∈ mt_Ts) (hv : GoodIn tables_1 v) (hs : v.all mt_stayb = true) : GoodIn mt_Tg (.methodLink own idx y :: v) := by
  intro w hw
  rcases List.mem_cons.mp hw with rfl | hw
  · exact ⟨mt_g h rfl, Or.inl rfl⟩
  · exact ⟨mt_g (List.mem_append.mpr (Or.inr (hv w hw).1)) (List.all_eq_true.mp hs w hw), (hv w hw).2⟩
theorem mt_N8_ok (n : Nat) (f : Nat → Int32) : mv_okN8 mt_Nm mt_cl mt_Tg mt_Us (mt_G n f) := by
  intro y idx kd z n0 h
  obtain ⟨hst, p, hm⟩ := mt_pick3 h
  have h1 : mt_okc (mt_oc y) (idx, kd, z, n0, hst, p) = true := mt_all_of mt_okc_all hm
  have h8 : mt_ok8 (mt_oc y) (idx, kd, z, n0, hst, p) = true := mt_all_of mt_ok8_all hm
  have h79 := mt_okc_79
  simp only [Bool.and_eq_true] at h79
  obtain ⟨⟨⟨p1, p2⟩, p3⟩, p4⟩ := h79
  refine ⟨fun hk => ?_, fun hk => ?_, fun hk => ?_, fun hk => ?_, fun hk => ?_⟩
  · subst hk
    unfold mv_okM7
    rw [mt_cls]
    exact ⟨mt_g (mt_in_mem h1) rfl, mt_g (mt_mem_mem p1) rfl, mt_g (mt_mem_mem p2) rfl, mt_g (mt_mem_mem p3) rfl⟩
  · subst hk
    have hX := mt_okX
    simp only [Bool.and_eq_true] at hX
    obtain ⟨⟨x1, x2⟩, x3⟩ := hX
    refine ⟨⟨mt_T mt_X, ?_⟩, ?_⟩
    · have e1 := mt_cl_at (mt_lt x1)
      rw [of_decide_eq_true x2, Nat.eq_of_beq_eq_true x3] at e1
      exact e1
    · rw [mt_cls]
      intro w hw
      unfold mt_ok8 at h8
      rw [Bool.or_eq_true] at h8
      rcases h8 with h8 | h8
      · cases h8
      have h9 := List.all_eq_true.mp h8 w hw
      rw [Bool.or_eq_true] at h9
      rcases h9 with h9 | h9
      · rw [Bool.and_eq_true] at h9
        exact Or.inl (mt_g (mt_mem_mem h9.1) h9.2)
      · exact Or.inr (of_decide_eq_true h9)
  · subst hk
    unfold mv_okM9
    rw [mt_cls]
    exact ⟨mt_g (mt_in_mem h1) rfl, mt_g (mt_mem_mem p4) rfl, mt_g mt_objc rfl⟩
  · subst hk
    rw [mt_cls]
    exact mt_gi (mt_in_mem h1) mt_v6_in (Bool.and_eq_true_iff.mp mt_v64).1
  · subst hk
    rw [mt_cls]
    exact mt_gi (mt_in_mem h1) mt_v4_in (Bool.and_eq_true_iff.mp mt_v64).2
theorem mt_hand_of : ∀ (l : List (Nat × Nat × Nat × Nat)) (pc h ct : Nat), mv_hand l pc = some (h, ct) → ∃ e ∈ l, e.2.2.2 = ct
  | [], _, _, _, q => by cases q
  | (a, b, c, d) :: r, pc, h, ct, q => by
    unfold mv_hand at q
    split at q
    · cases q
      exact ⟨_, List.mem_cons_self, rfl⟩
    · obtain ⟨e, h1, h2⟩ := mt_hand_of r pc h ct q
      exact ⟨e, List.mem_cons_of_mem _ h1, h2⟩
theorem mt_G_ok (n : Nat) (f : Nat → Int32) : mv_okG mt_Nm mt_Cd mt_cl mt_L mt_Tg (mt_G n f) := by
  refine ⟨?_, ?_, ?_, ?_, ?_, ?_, fun y idx kd z n0 h => mt_calls n f h, ?_⟩
  · intro y pc i len h
    have h : (match decode (mt_Cd y) pc with | .ok q => some q | .error _ => none) = some (i, len) := h
    split at h
    · rename_i q hq
      cases h
      exact hq
    · cases h
  · intro y idx ci0 k0 h
    have h : (mt_pick mt_F y idx).map (fun e => (e.1, e.2.1)) = some (ci0, k0) := h
    rw [Option.map_eq_some_iff] at h
    obtain ⟨⟨ci, k, b, hst, p⟩, h1, h2⟩ := h
    cases h2
    obtain ⟨g1, g2, g3⟩ := mt_F_ok (mt_pick_of h1)
    refine ⟨g1, mt_gC_ok n f g2, fun hp hq => ?_⟩
    obtain ⟨q, hq1, hq2, hq3⟩ := mt_k_at g2
    have hQ : (match mt_m[y]?, mt_k[ci]? with | some q, some c => Nat.beq q.1 c.1 && decide (q.2.1 = "<init>") | _, _ => false) = true := hq
    rw [hq1] at hQ
    split at hQ
    · rename_i m0 c0 hm hc
      cases hc
      rw [Bool.and_eq_true] at hQ
      have e1 : (mt_Nm y).cls = mt_cn ci := by
        unfold mt_Nm
        rw [hm, hq3]
        show mt_own m0.1 = mt_own q.1
        rw [Nat.eq_of_beq_eq_true hQ.1]
      have e2 : (mt_Nm y).name = "<init>" := by
        unfold mt_Nm
        rw [hm]
        exact of_decide_eq_true hQ.2
      obtain ⟨C, T, N, c1, c2, -⟩ := g1
      obtain ⟨-, hr⟩ := mt_cl_of c1
      cases hr
      refine ⟨_, _, _, c1, ?_, g3 e1, e2⟩
      obtain ⟨fl, hfl⟩ : ∃ fl, (mt_fl ci)[k]? = some fl := ⟨_, List.getElem?_eq_getElem c2⟩
      obtain ⟨⟨q', hq', ho⟩, -⟩ := mt_okk_in g2 hfl
      rw [hq1] at hq'
      cases hq'
      rw [mt_T_at hfl, e1, hq3, ho]
    · cases hQ
  · intro y idx ci0 h
    have h : (mt_pick mt_N y idx).map (fun e => e.1) = some ci0 := h
    rw [Option.map_eq_some_iff] at h
    obtain ⟨⟨ci, p⟩, h1, h2⟩ := h
    cases h2
    have h3 := mt_all_of mt_okn_all (mt_pick_of h1)
    unfold mt_okn at h3
    rw [Bool.and_eq_true] at h3
    have hlt := mt_lt h3.1
    refine ⟨mt_gC_ok n f hlt, fun C T N hc => ?_⟩
    obtain ⟨-, hr⟩ := mt_cl_of hc
    cases hr
    obtain ⟨q, hq1, hq2, hq3⟩ := mt_k_at hlt
    have h5 := mt_kk hlt
    unfold mt_okk at h5
    rw [hq1] at h5
    simp only [Bool.and_eq_true] at h5
    obtain ⟨⟨⟨-, h5⟩, h6⟩, -⟩ := h5
    refine ⟨?_, ?_, mt_g (mt_in_mem h6) rfl⟩
    · rw [mt_cls]
      exact mt_g (mt_in_mem h3.2) rfl
    · show Cond.instantiable _ (match mt_k[ci]? with | some q => q.2.1 | none => 0) ∈ mt_Tg
      rw [hq1]
      exact mt_g (mt_in_mem h5) rfl
  · intro y idx t0 h
    have h : (mt_pick mt_A y idx).map (fun e => e.1) = some t0 := h
    rw [Option.map_eq_some_iff] at h
    obtain ⟨⟨t, p1, p2⟩, h1, h2⟩ := h
    cases h2
    have h3 := mt_all_of mt_oka_all (mt_pick_of h1)
    unfold mt_oka at h3
    split at h3
    · rename_i C hC
      rw [Bool.and_eq_true] at h3
      refine Or.inl ⟨C, hC, ?_, mt_g (mt_in_mem h3.2) rfl⟩
      rw [mt_cls]
      exact mt_g (mt_in_mem h3.1) rfl
    · rename_i ty hC
      rw [Bool.and_eq_true] at h3
      refine Or.inr ⟨ty, hC, ?_, mt_g (mt_in_mem h3.2) rfl⟩
      rw [mt_cls]
      exact mt_g (mt_in_mem h3.1) rfl
    · cases h3
  · intro y idx v h
    have h : (match mt_pick mt_K y idx with | some e => some (Value.int (Int32.ofInt e.1)) | none => (mt_pick mt_U y idx).map fun e => Value.ref (mv_big + 1 + e.1)) = some (.int v) := h
    split at h
    · rename_i e he
      cases h
      have h3 := mt_all_of mt_oki_all (mt_pick_of he)
      unfold mt_oki at h3
      rw [mt_cls]
      exact mt_g (mt_in_mem h3) rfl
    · rw [Option.map_eq_some_iff] at h
      obtain ⟨e, -, he⟩ := h
      cases he
  · intro y idx a b c h
    have h : (mt_pick mt_M y idx).map (fun e => (e.1, e.2.1, e.2.2.1)) = some (a, b, c) := h
    rw [Option.map_eq_some_iff] at h
    obtain ⟨⟨t, t1, t2, p1, p2, p3⟩, h1, h2⟩ := h
    cases h2
    have h3 := mt_all_of mt_okr_all (mt_pick_of h1)
    rw [Bool.or_eq_true] at h3
    have hac := mt_okac
    simp only [Bool.and_eq_true] at hac
    obtain ⟨⟨⟨⟨⟨k1, k2⟩, k3⟩, k4⟩, k5⟩, k6⟩ := hac
    have key : ∀ ty : FieldType, (ty = .int ∨ ty = .byte) → Cond.arrayClass ty ∈ mt_Tg → mt_okr (mt_oc y) (idx, t, t1, t2, p1, p2, p3) ty = true → mv_okGr mt_L mt_Tg (mt_Nm y).cls idx t t1 t2 := by
      intro ty hty hac h3
      refine ⟨ty, hty, hac, ?_⟩
      rw [mt_cls]
      unfold mt_okr at h3
      split at h3
      · rename_i hz
        simp only [Bool.and_eq_true] at h3
        obtain ⟨⟨⟨b1, b2⟩, b3⟩, b4⟩ := h3
        exact Or.inl ⟨hz, mt_is_at b1, mt_is_at b2, mt_g (mt_in_mem b3) rfl, mt_g (mt_in_mem b4) rfl⟩
      · rename_i hz
        simp only [Bool.and_eq_true] at h3
        obtain ⟨⟨⟨⟨⟨b1, b2⟩, b3⟩, b4⟩, b5⟩, b6⟩ := h3
        exact Or.inr ⟨Nat.pos_of_ne_zero hz, mt_is_at b1, mt_is_at b2, mt_is_at b3, mt_g (mt_in_mem b4) rfl, mt_g (mt_in_mem b5) rfl, mt_g (mt_in_mem b6) rfl⟩
    rcases h3 with h3 | h3
    · exact key .int (Or.inl rfl) (mt_g (mt_in_mem k1) rfl) h3
    · exact key .byte (Or.inr rfl) (mt_g (mt_in_mem k2) rfl) h3
  · intro y pc h ct hq
    have hq : mv_hand (mt_gH y) pc = some (h, ct) := hq
    obtain ⟨e, he, hct⟩ := mt_hand_of _ _ _ _ hq
    have hX := mt_okX
    simp only [Bool.and_eq_true] at hX
    obtain ⟨⟨x1, x2⟩, x3⟩ := hX
    unfold mt_gH at he
    split at he
    · rename_i z hz
      have hzy : z.1 = y := Nat.eq_of_beq_eq_true (List.find?_some (p := fun e : Nat × List (Nat × Nat × Nat × Nat) => Nat.beq e.1 y) hz)
      have h2 := List.all_eq_true.mp mt_okh_all z (List.mem_of_find?_eq_some hz)
      have h3 := List.all_eq_true.mp h2 e he
      rw [Bool.and_eq_true, hct, hzy] at h3
      refine ⟨Nat.pos_iff_ne_zero.mp (mt_lt h3.1), _, _, _, mt_cl_at (mt_lt x1), ?_⟩
      show Cond.classLink (mt_Nm y).cls ct (mt_cn mt_X) ∈ mt_Tg
      rw [of_decide_eq_true x2]
      exact mt_g (mt_mem_mem h3.2) rfl
    · exact absurd he List.not_mem_nil
