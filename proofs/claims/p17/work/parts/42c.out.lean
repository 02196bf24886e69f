/-! the run: setOut, comeBack, slot, step of fields -/
section OUT
variable {N : Nat} {X : Nat → Int32} {d u : Nat} {M M1 M2 : me_M} {Q : me_Q}
set_option maxHeartbeats 6000000 in
theorem setout_w {E : Nat → me_M → Prop} {K : me_M → Prop} (G : GA M) (h42 : me_i M 164 42 = (u : Int)) (hu : u ≤ 40) (hd : 5 ≤ d) (hK : ∀ M', sOut M M' u → K M') : ∃ d', d = d' + 1 ∧ me_W (mt_G N X) 415 d' 0 [some (.inr (.inl (some 164, 25, 0)))] [] M (sx_qV K E) := by
  refine ca_V (by omega) (P := fun M' => sOut M M' u) (F := nt_E) ?_ (fun M' _ z => hK M' z) nt_E_no
  have hr : me_r ((u : Int) + 1) := ⟨by omega, by omega⟩
  have hu1 : ((u + 1 : Nat) : Int) = (u : Int) + 1 := by omega
  refine b415_0 ?_
  refine room_w G (by decide) (by decide) h42 hu (by omega) fun o43 w43 S43 z43 q43 l43 e43 => ⟨z43, ?_⟩
  intro R43
  have q43 : gx no2 no2 M R43 := q43
  have l43 : u < gL R43 43 := l43
  have e43 : me_i R43 164 42 = (u : Int) := e43
  clear_value R43
  refine room_w q43.GA (by decide) (by decide) e43 hu (by omega) fun o44 w44 S44 z44 q44 l44 e44 => ⟨z44, ?_⟩
  intro R44
  have q44 : gx no2 no2 R43 R44 := q44
  have l44 : u < gL R44 44 := l44
  have e44 : me_i R44 164 42 = (u : Int) := e44
  clear_value R44
  refine room_w q44.GA (by decide) (by decide) e44 hu (by omega) fun o45 w45 S45 z45 q45 l45 e45 => ⟨z45, ?_⟩
  intro R45
  have q45 : gx no2 no2 R44 R45 := q45
  have l45 : u < gL R45 45 := l45
  have e45 : me_i R45 164 42 = (u : Int) := e45
  clear_value R45
  refine room_w q45.GA (by decide) (by decide) e45 hu (by omega) fun o46 w46 S46 z46 q46 l46 e46 => ⟨z46, ?_⟩
  intro R46
  have q46 : gx no2 no2 R45 R46 := q46
  have l46 : u < gL R46 46 := l46
  have e46 : me_i R46 164 42 = (u : Int) := e46
  clear_value R46
  refine room_w q46.GA (by decide) (by decide) e46 hu (by omega) fun o47 w47 S47 z47 q47 l47 e47 => ⟨z47, ?_⟩
  intro R47
  have q47 : gx no2 no2 R46 R47 := q47
  have l47 : u < gL R47 47 := l47
  have e47 : me_i R47 164 42 = (u : Int) := e47
  clear_value R47
  refine room_w q47.GA (by decide) (by decide) e47 hu (by omega) fun o48 w48 S48 z48 q48 l48 e48 => ⟨z48, ?_⟩
  intro R48
  have q48 : gx no2 no2 R47 R48 := q48
  have l48 : u < gL R48 48 := l48
  have e48 : me_i R48 164 42 = (u : Int) := e48
  clear_value R48
  have Q1 : gx no2 no2 M R48 := q43.tr (q44.tr (q45.tr (q46.tr (q47.tr q48))))
  have sc : ∀ j, me_i R48 164 j = me_i M 164 j := fun j => Q1.i4 G fun z => z
  have t43 : u < gL R48 43 := Nat.lt_of_lt_of_le (Nat.lt_of_lt_of_le (Nat.lt_of_lt_of_le (Nat.lt_of_lt_of_le (Nat.lt_of_lt_of_le (l43) (q44.2.2.2.2.1 43 (g43 (by decide) (by decide))).1) (q45.2.2.2.2.1 43 (g43 (by decide) (by decide))).1) (q46.2.2.2.2.1 43 (g43 (by decide) (by decide))).1) (q47.2.2.2.2.1 43 (g43 (by decide) (by decide))).1) (q48.2.2.2.2.1 43 (g43 (by decide) (by decide))).1
  have t44 : u < gL R48 44 := Nat.lt_of_lt_of_le (Nat.lt_of_lt_of_le (Nat.lt_of_lt_of_le (Nat.lt_of_lt_of_le (l44) (q45.2.2.2.2.1 44 (g43 (by decide) (by decide))).1) (q46.2.2.2.2.1 44 (g43 (by decide) (by decide))).1) (q47.2.2.2.2.1 44 (g43 (by decide) (by decide))).1) (q48.2.2.2.2.1 44 (g43 (by decide) (by decide))).1
  have t45 : u < gL R48 45 := Nat.lt_of_lt_of_le (Nat.lt_of_lt_of_le (Nat.lt_of_lt_of_le (l45) (q46.2.2.2.2.1 45 (g43 (by decide) (by decide))).1) (q47.2.2.2.2.1 45 (g43 (by decide) (by decide))).1) (q48.2.2.2.2.1 45 (g43 (by decide) (by decide))).1
  have t46 : u < gL R48 46 := Nat.lt_of_lt_of_le (Nat.lt_of_lt_of_le (l46) (q47.2.2.2.2.1 46 (g43 (by decide) (by decide))).1) (q48.2.2.2.2.1 46 (g43 (by decide) (by decide))).1
  have t47 : u < gL R48 47 := Nat.lt_of_lt_of_le (l47) (q48.2.2.2.2.1 47 (g43 (by decide) (by decide))).1
  have t48 : u < gL R48 48 := l48
  clear l43 l44 l45 l46 l47 l48
  have hl : ∀ j, 43 ≤ j → j ≤ 48 → u < gL R48 j := fun j j1 j2 => by
    rcases (show j = 43 ∨ j = 44 ∨ j = 45 ∨ j = 46 ∨ j = 47 ∨ j = 48 by clear t43 t44 t45 t46 t47 t48; omega) with z | z | z | z | z | z <;> rw [z] <;> assumption
  clear t43 t44 t45 t46 t47 t48
  intro n43 hn43
  cases gn Q1.GA (g43 (j := 43) (by decide) (by decide)) hn43
  rw [gp Q1.GA (g43 (j := 43) (by decide) (by decide))]
  refine dr_s ?_
  rw [e48, Int.toNat_natCast]
  refine ⟨Int.natCast_nonneg u, Int.ofNat_lt.mpr (by skip; exact hl 43 (by decide) (by decide)), ?_⟩
  intro P43
  obtain ⟨a43, b43, c43, f43⟩ := row1 (M1 := P43) (j := 43) (i := u) (x := me_i R48 164 41) Q1.GA (g43 (by decide) (by decide)) rfl
  rw [me_to (me_i_r _ _ _)] at c43
  clear_value P43
  have s43 : ∀ i, me_i P43 164 i = me_i M 164 i := fun i => (b43 164 i (by decide) ok164).trans (sc i)
  rw [sc] at c43
  have h4342 := (s43 42).trans h42
  intro n44 hn44
  cases gn a43.GA (g43 (j := 44) (by decide) (by decide)) hn44
  rw [gp a43.GA (g43 (j := 44) (by decide) (by decide))]
  refine dr_s ?_
  rw [h4342, Int.toNat_natCast]
  refine ⟨Int.natCast_nonneg u, Int.ofNat_lt.mpr (by rw [f43]; exact hl 44 (by decide) (by decide)), ?_⟩
  intro P44
  obtain ⟨a44, b44, c44, f44⟩ := row1 (M1 := P44) (j := 44) (i := u) (x := me_i P43 164 25) a43.GA (g43 (by decide) (by decide)) rfl
  rw [me_to (me_i_r _ _ _)] at c44
  clear_value P44
  have s44 : ∀ i, me_i P44 164 i = me_i M 164 i := fun i => (b44 164 i (by decide) ok164).trans (s43 i)
  rw [s43] at c44
  have h4442 := (s44 42).trans h42
  intro n45 hn45
  cases gn a44.GA (g43 (j := 45) (by decide) (by decide)) hn45
  rw [gp a44.GA (g43 (j := 45) (by decide) (by decide))]
  refine dr_s ?_
  rw [h4442, Int.toNat_natCast]
  refine ⟨Int.natCast_nonneg u, Int.ofNat_lt.mpr (by rw [f44, f43]; exact hl 45 (by decide) (by decide)), ?_⟩
  intro P45
  obtain ⟨a45, b45, c45, f45⟩ := row1 (M1 := P45) (j := 45) (i := u) (x := me_i P44 164 26) a44.GA (g43 (by decide) (by decide)) rfl
  rw [me_to (me_i_r _ _ _)] at c45
  clear_value P45
  have s45 : ∀ i, me_i P45 164 i = me_i M 164 i := fun i => (b45 164 i (by decide) ok164).trans (s44 i)
  rw [s44] at c45
  have h4542 := (s45 42).trans h42
  intro n46 hn46
  cases gn a45.GA (g43 (j := 46) (by decide) (by decide)) hn46
  rw [gp a45.GA (g43 (j := 46) (by decide) (by decide))]
  refine dr_s ?_
  rw [h4542, Int.toNat_natCast]
  refine ⟨Int.natCast_nonneg u, Int.ofNat_lt.mpr (by rw [f45, f44, f43]; exact hl 46 (by decide) (by decide)), ?_⟩
  intro P46
  obtain ⟨a46, b46, c46, f46⟩ := row1 (M1 := P46) (j := 46) (i := u) (x := me_i P45 164 27) a45.GA (g43 (by decide) (by decide)) rfl
  rw [me_to (me_i_r _ _ _)] at c46
  clear_value P46
  have s46 : ∀ i, me_i P46 164 i = me_i M 164 i := fun i => (b46 164 i (by decide) ok164).trans (s45 i)
  rw [s45] at c46
  have h4642 := (s46 42).trans h42
  intro n47 hn47
  cases gn a46.GA (g43 (j := 47) (by decide) (by decide)) hn47
  rw [gp a46.GA (g43 (j := 47) (by decide) (by decide))]
  refine dr_s ?_
  rw [h4642, Int.toNat_natCast]
  refine ⟨Int.natCast_nonneg u, Int.ofNat_lt.mpr (by rw [f46, f45, f44, f43]; exact hl 47 (by decide) (by decide)), ?_⟩
  intro P47
  obtain ⟨a47, b47, c47, f47⟩ := row1 (M1 := P47) (j := 47) (i := u) (x := me_i P46 164 28) a46.GA (g43 (by decide) (by decide)) rfl
  rw [me_to (me_i_r _ _ _)] at c47
  clear_value P47
  have s47 : ∀ i, me_i P47 164 i = me_i M 164 i := fun i => (b47 164 i (by decide) ok164).trans (s46 i)
  rw [s46] at c47
  have h4742 := (s47 42).trans h42
  intro n48 hn48
  cases gn a47.GA (g43 (j := 48) (by decide) (by decide)) hn48
  rw [gp a47.GA (g43 (j := 48) (by decide) (by decide))]
  refine dr_s ?_
  rw [h4742, Int.toNat_natCast]
  refine ⟨Int.natCast_nonneg u, Int.ofNat_lt.mpr (by rw [f47, f46, f45, f44, f43]; exact hl 48 (by decide) (by decide)), ?_⟩
  intro P48
  obtain ⟨a48, b48, c48, f48⟩ := row1 (M1 := P48) (j := 48) (i := u) (x := me_i P47 164 29) a47.GA (g43 (by decide) (by decide)) rfl
  rw [me_to (me_i_r _ _ _)] at c48
  clear_value P48
  have s48 : ∀ i, me_i P48 164 i = me_i M 164 i := fun i => (b48 164 i (by decide) ok164).trans (s47 i)
  rw [s47] at c48
  have h4842 := (s48 42).trans h42
  intro Z
  obtain ⟨g1, g2, g3⟩ := cell1 (M1 := Z) (j0 := 42) (x := me_i P48 164 42 + 1) a48.GA rfl
  clear_value Z
  rw [s48, h42, me_to hr] at g3
  have len : ∀ j, 43 ≤ j → j ≤ 48 → u < gL P48 j := fun j j1 j2 => by
    rw [f48, f47, f46, f45, f44, f43]
    exact hl j j1 j2
  have v43 := ((((((g1.g (g43 (by decide) (by decide)) (len 43 (by decide) (by decide)) (fun z => z)).trans (a48.g (g43 (by decide) (by decide)) (by rw [f47, f46, f45, f44, f43]; exact hl 43 (by decide) (by decide)) (fun z => absurd z.1 (by decide)))).trans (a47.g (g43 (by decide) (by decide)) (by rw [f46, f45, f44, f43]; exact hl 43 (by decide) (by decide)) (fun z => absurd z.1 (by decide)))).trans (a46.g (g43 (by decide) (by decide)) (by rw [f45, f44, f43]; exact hl 43 (by decide) (by decide)) (fun z => absurd z.1 (by decide)))).trans (a45.g (g43 (by decide) (by decide)) (by rw [f44, f43]; exact hl 43 (by decide) (by decide)) (fun z => absurd z.1 (by decide)))).trans (a44.g (g43 (by decide) (by decide)) (by rw [f43]; exact hl 43 (by decide) (by decide)) (fun z => absurd z.1 (by decide)))).trans c43
  have v44 := (((((g1.g (g43 (by decide) (by decide)) (len 44 (by decide) (by decide)) (fun z => z)).trans (a48.g (g43 (by decide) (by decide)) (by rw [f47, f46, f45, f44, f43]; exact hl 44 (by decide) (by decide)) (fun z => absurd z.1 (by decide)))).trans (a47.g (g43 (by decide) (by decide)) (by rw [f46, f45, f44, f43]; exact hl 44 (by decide) (by decide)) (fun z => absurd z.1 (by decide)))).trans (a46.g (g43 (by decide) (by decide)) (by rw [f45, f44, f43]; exact hl 44 (by decide) (by decide)) (fun z => absurd z.1 (by decide)))).trans (a45.g (g43 (by decide) (by decide)) (by rw [f44, f43]; exact hl 44 (by decide) (by decide)) (fun z => absurd z.1 (by decide)))).trans c44
  have v45 := ((((g1.g (g43 (by decide) (by decide)) (len 45 (by decide) (by decide)) (fun z => z)).trans (a48.g (g43 (by decide) (by decide)) (by rw [f47, f46, f45, f44, f43]; exact hl 45 (by decide) (by decide)) (fun z => absurd z.1 (by decide)))).trans (a47.g (g43 (by decide) (by decide)) (by rw [f46, f45, f44, f43]; exact hl 45 (by decide) (by decide)) (fun z => absurd z.1 (by decide)))).trans (a46.g (g43 (by decide) (by decide)) (by rw [f45, f44, f43]; exact hl 45 (by decide) (by decide)) (fun z => absurd z.1 (by decide)))).trans c45
  have v46 := (((g1.g (g43 (by decide) (by decide)) (len 46 (by decide) (by decide)) (fun z => z)).trans (a48.g (g43 (by decide) (by decide)) (by rw [f47, f46, f45, f44, f43]; exact hl 46 (by decide) (by decide)) (fun z => absurd z.1 (by decide)))).trans (a47.g (g43 (by decide) (by decide)) (by rw [f46, f45, f44, f43]; exact hl 46 (by decide) (by decide)) (fun z => absurd z.1 (by decide)))).trans c46
  have v47 := ((g1.g (g43 (by decide) (by decide)) (len 47 (by decide) (by decide)) (fun z => z)).trans (a48.g (g43 (by decide) (by decide)) (by rw [f47, f46, f45, f44, f43]; exact hl 47 (by decide) (by decide)) (fun z => absurd z.1 (by decide)))).trans c47
  have v48 := (g1.g (g43 (by decide) (by decide)) (len 48 (by decide) (by decide)) (fun z => z)).trans c48
  have A : gx no2 (rO u) R48 P48 := (a43.mo no2_mo fun a k z => ⟨by rw [z.1]; decide, by rw [z.1]; decide, z.2⟩).tr ((a44.mo no2_mo fun a k z => ⟨by rw [z.1]; decide, by rw [z.1]; decide, z.2⟩).tr ((a45.mo no2_mo fun a k z => ⟨by rw [z.1]; decide, by rw [z.1]; decide, z.2⟩).tr ((a46.mo no2_mo fun a k z => ⟨by rw [z.1]; decide, by rw [z.1]; decide, z.2⟩).tr ((a47.mo no2_mo fun a k z => ⟨by rw [z.1]; decide, by rw [z.1]; decide, z.2⟩).tr (a48.mo no2_mo fun a k z => ⟨by rw [z.1]; decide, by rw [z.1]; decide, z.2⟩)))))
  refine ⟨(Q1.mo no2_mo no2_mo).tr ((A.mo no2_mo fun a k z => z).tr (g1.mo (fun _ _ z => z) no2_mo)), by rw [hu1]; exact g3, v43, v44, v45, v46, v47, v48, fun j j1 j2 => ?_⟩
  exact Nat.lt_of_lt_of_le (len j j1 j2) (g1.2.2.2.2.1 j (g43 j1 j2)).1
/-- comeBack -/
def cB : Nat → Nat → Prop := fun b j => b = 164 ∧ (j = 42 ∨ j = 41 ∨ 25 ≤ j ∧ j ≤ 29)
def cBack (M M' : me_M) (u : Nat) : Prop := fr cB M M' ∧ me_i M' 164 42 = (u : Int) ∧ me_i M' 164 41 = gi M 43 u ∧ me_i M' 164 25 = gi M 44 u ∧ me_i M' 164 26 = gi M 45 u ∧ me_i M' 164 27 = gi M 46 u ∧ me_i M' 164 28 = gi M 47 u
theorem cell_fr {j0 : Nat} {x : Int} (e : M1 = me_sI M 164 j0 (Int32.ofInt x)) (hx : me_r x) : fr (m1 j0) M M1 ∧ me_i M1 164 j0 = x := by
  have f : fr (m1 j0) M M1 := by
    rw [e]
    exact fr_sI ⟨rfl, rfl⟩
  refine ⟨f, ?_⟩
  rw [e, me_i_sI, if_pos ⟨rfl, rfl⟩, me_to hx]
theorem gi_fr {j0 : Nat} (f : fr (m1 j0) M M1) (G : GA M) {j i : Nat} (hj : j ∈ gl) : gi M1 j i = gi M j i := by
  have e : ga M1 j = ga M j := by
    unfold ga me_p
    rw [f.2.2.1]
  unfold gi
  rw [e]
  refine f.i fun z => ?_
  have := (G.1 j hj).2.2.2.1
  rw [z.1] at this
  exact ok164 this
set_option maxHeartbeats 4000000 in
theorem back_w {E : Nat → me_M → Prop} {K : me_M → Prop} (G : GA M) (h42 : me_i M 164 42 = ((u + 1 : Nat) : Int)) (hu : u ≤ 40) (hl : ∀ j, 43 ≤ j → j ≤ 48 → u < gL M j) (hd : 1 ≤ d) (hK : ∀ M', cBack M M' u → K M') : ∃ d', d = d' + 1 ∧ me_W (mt_G N X) 422 d' 0 [some (.inr (.inl (some 164, 25, 0)))] [] M (sx_qV K E) := by
  refine ca_V (by omega) (P := fun M' => cBack M M' u) (F := nt_E) ?_ (fun M' _ z => hK M' z) nt_E_no
  refine b422_0 ?_
  intro Z42
  obtain ⟨f42, v42⟩ := cell_fr (M := M) (M1 := Z42) (j0 := 42) (x := me_i M 164 42 - 1) rfl (by rw [h42]; exact ⟨by omega, by omega⟩)
  rw [h42] at v42
  have v42 : me_i Z42 164 42 = (u : Int) := by omega
  clear_value Z42
  have G42 := (gx.of (R := no2) G f42 m1_ok).GA
  have L42 : ∀ j, gL Z42 j = gL M j := fun j => by
    unfold gL ga me_p
    rw [f42.2.2.1, f42.2.1]
  have I42 : ∀ j, j ∈ gl → gi Z42 j u = gi M j u := fun j hj => gi_fr f42 G hj
  intro n43 hn43
  cases gn G42 (g43 (j := 43) (by decide) (by decide)) hn43
  rw [gp G42 (g43 (j := 43) (by decide) (by decide))]
  refine dr_s ?_
  rw [v42, Int.toNat_natCast]
  refine ⟨Int.natCast_nonneg u, Int.ofNat_lt.mpr (by rw [L42]; exact hl 43 (by decide) (by decide)), ?_⟩
  intro Z43
  obtain ⟨f43, w43⟩ := cell_fr (M := Z42) (M1 := Z43) (j0 := 41) (x := me_i Z42 (ga Z42 43) u) rfl (me_i_r _ _ _)
  have w43 : me_i Z43 164 41 = gi M 43 u := w43.trans (I42 43 (g43 (by decide) (by decide)))
  clear_value Z43
  have G43 := (gx.of (R := no2) G42 f43 m1_ok).GA
  have L43 : ∀ j, gL Z43 j = gL M j := fun j => by
    rw [← L42 j]
    unfold gL ga me_p
    rw [f43.2.2.1, f43.2.1]
  have I43 : ∀ j, j ∈ gl → gi Z43 j u = gi M j u := fun j hj => (gi_fr f43 G42 hj).trans (I42 j hj)
  have v42 : me_i Z43 164 42 = (u : Int) := (f43.i fun z => absurd z.2 (by decide)).trans v42
  intro n44 hn44
  cases gn G43 (g43 (j := 44) (by decide) (by decide)) hn44
  rw [gp G43 (g43 (j := 44) (by decide) (by decide))]
  refine dr_s ?_
  rw [v42, Int.toNat_natCast]
  refine ⟨Int.natCast_nonneg u, Int.ofNat_lt.mpr (by rw [L43]; exact hl 44 (by decide) (by decide)), ?_⟩
  intro Z44
  obtain ⟨f44, w44⟩ := cell_fr (M := Z43) (M1 := Z44) (j0 := 25) (x := me_i Z43 (ga Z43 44) u) rfl (me_i_r _ _ _)
  have w44 : me_i Z44 164 25 = gi M 44 u := w44.trans (I43 44 (g43 (by decide) (by decide)))
  clear_value Z44
  have G44 := (gx.of (R := no2) G43 f44 m1_ok).GA
  have L44 : ∀ j, gL Z44 j = gL M j := fun j => by
    rw [← L43 j]
    unfold gL ga me_p
    rw [f44.2.2.1, f44.2.1]
  have I44 : ∀ j, j ∈ gl → gi Z44 j u = gi M j u := fun j hj => (gi_fr f44 G43 hj).trans (I43 j hj)
  have v42 : me_i Z44 164 42 = (u : Int) := (f44.i fun z => absurd z.2 (by decide)).trans v42
  have w43 : me_i Z44 164 41 = gi M 43 u := (f44.i fun z => absurd z.2 (by decide)).trans w43
  intro n45 hn45
  cases gn G44 (g43 (j := 45) (by decide) (by decide)) hn45
  rw [gp G44 (g43 (j := 45) (by decide) (by decide))]
  refine dr_s ?_
  rw [v42, Int.toNat_natCast]
  refine ⟨Int.natCast_nonneg u, Int.ofNat_lt.mpr (by rw [L44]; exact hl 45 (by decide) (by decide)), ?_⟩
  intro Z45
  obtain ⟨f45, w45⟩ := cell_fr (M := Z44) (M1 := Z45) (j0 := 26) (x := me_i Z44 (ga Z44 45) u) rfl (me_i_r _ _ _)
  have w45 : me_i Z45 164 26 = gi M 45 u := w45.trans (I44 45 (g43 (by decide) (by decide)))
  clear_value Z45
  have G45 := (gx.of (R := no2) G44 f45 m1_ok).GA
  have L45 : ∀ j, gL Z45 j = gL M j := fun j => by
    rw [← L44 j]
    unfold gL ga me_p
    rw [f45.2.2.1, f45.2.1]
  have I45 : ∀ j, j ∈ gl → gi Z45 j u = gi M j u := fun j hj => (gi_fr f45 G44 hj).trans (I44 j hj)
  have v42 : me_i Z45 164 42 = (u : Int) := (f45.i fun z => absurd z.2 (by decide)).trans v42
  have w43 : me_i Z45 164 41 = gi M 43 u := (f45.i fun z => absurd z.2 (by decide)).trans w43
  have w44 : me_i Z45 164 25 = gi M 44 u := (f45.i fun z => absurd z.2 (by decide)).trans w44
  intro n46 hn46
  cases gn G45 (g43 (j := 46) (by decide) (by decide)) hn46
  rw [gp G45 (g43 (j := 46) (by decide) (by decide))]
  refine dr_s ?_
  rw [v42, Int.toNat_natCast]
  refine ⟨Int.natCast_nonneg u, Int.ofNat_lt.mpr (by rw [L45]; exact hl 46 (by decide) (by decide)), ?_⟩
  intro Z46
  obtain ⟨f46, w46⟩ := cell_fr (M := Z45) (M1 := Z46) (j0 := 27) (x := me_i Z45 (ga Z45 46) u) rfl (me_i_r _ _ _)
  have w46 : me_i Z46 164 27 = gi M 46 u := w46.trans (I45 46 (g43 (by decide) (by decide)))
  clear_value Z46
  have G46 := (gx.of (R := no2) G45 f46 m1_ok).GA
  have L46 : ∀ j, gL Z46 j = gL M j := fun j => by
    rw [← L45 j]
    unfold gL ga me_p
    rw [f46.2.2.1, f46.2.1]
  have I46 : ∀ j, j ∈ gl → gi Z46 j u = gi M j u := fun j hj => (gi_fr f46 G45 hj).trans (I45 j hj)
  have v42 : me_i Z46 164 42 = (u : Int) := (f46.i fun z => absurd z.2 (by decide)).trans v42
  have w43 : me_i Z46 164 41 = gi M 43 u := (f46.i fun z => absurd z.2 (by decide)).trans w43
  have w44 : me_i Z46 164 25 = gi M 44 u := (f46.i fun z => absurd z.2 (by decide)).trans w44
  have w45 : me_i Z46 164 26 = gi M 45 u := (f46.i fun z => absurd z.2 (by decide)).trans w45
  intro n47 hn47
  cases gn G46 (g43 (j := 47) (by decide) (by decide)) hn47
  rw [gp G46 (g43 (j := 47) (by decide) (by decide))]
  refine dr_s ?_
  rw [v42, Int.toNat_natCast]
  refine ⟨Int.natCast_nonneg u, Int.ofNat_lt.mpr (by rw [L46]; exact hl 47 (by decide) (by decide)), ?_⟩
  intro Z47
  obtain ⟨f47, w47⟩ := cell_fr (M := Z46) (M1 := Z47) (j0 := 28) (x := me_i Z46 (ga Z46 47) u) rfl (me_i_r _ _ _)
  have w47 : me_i Z47 164 28 = gi M 47 u := w47.trans (I46 47 (g43 (by decide) (by decide)))
  clear_value Z47
  have G47 := (gx.of (R := no2) G46 f47 m1_ok).GA
  have L47 : ∀ j, gL Z47 j = gL M j := fun j => by
    rw [← L46 j]
    unfold gL ga me_p
    rw [f47.2.2.1, f47.2.1]
  have I47 : ∀ j, j ∈ gl → gi Z47 j u = gi M j u := fun j hj => (gi_fr f47 G46 hj).trans (I46 j hj)
  have v42 : me_i Z47 164 42 = (u : Int) := (f47.i fun z => absurd z.2 (by decide)).trans v42
  have w43 : me_i Z47 164 41 = gi M 43 u := (f47.i fun z => absurd z.2 (by decide)).trans w43
  have w44 : me_i Z47 164 25 = gi M 44 u := (f47.i fun z => absurd z.2 (by decide)).trans w44
  have w45 : me_i Z47 164 26 = gi M 45 u := (f47.i fun z => absurd z.2 (by decide)).trans w45
  have w46 : me_i Z47 164 27 = gi M 46 u := (f47.i fun z => absurd z.2 (by decide)).trans w46
  intro n48 hn48
  cases gn G47 (g43 (j := 48) (by decide) (by decide)) hn48
  rw [gp G47 (g43 (j := 48) (by decide) (by decide))]
  refine dr_s ?_
  rw [v42, Int.toNat_natCast]
  refine ⟨Int.natCast_nonneg u, Int.ofNat_lt.mpr (by rw [L47]; exact hl 48 (by decide) (by decide)), ?_⟩
  intro Z48
  obtain ⟨f48, w48⟩ := cell_fr (M := Z47) (M1 := Z48) (j0 := 29) (x := me_i Z47 (ga Z47 48) u) rfl (me_i_r _ _ _)
  have w48 : me_i Z48 164 29 = gi M 48 u := w48.trans (I47 48 (g43 (by decide) (by decide)))
  clear_value Z48
  have G48 := (gx.of (R := no2) G47 f48 m1_ok).GA
  have L48 : ∀ j, gL Z48 j = gL M j := fun j => by
    rw [← L47 j]
    unfold gL ga me_p
    rw [f48.2.2.1, f48.2.1]
  have I48 : ∀ j, j ∈ gl → gi Z48 j u = gi M j u := fun j hj => (gi_fr f48 G47 hj).trans (I47 j hj)
  have v42 : me_i Z48 164 42 = (u : Int) := (f48.i fun z => absurd z.2 (by decide)).trans v42
  have w43 : me_i Z48 164 41 = gi M 43 u := (f48.i fun z => absurd z.2 (by decide)).trans w43
  have w44 : me_i Z48 164 25 = gi M 44 u := (f48.i fun z => absurd z.2 (by decide)).trans w44
  have w45 : me_i Z48 164 26 = gi M 45 u := (f48.i fun z => absurd z.2 (by decide)).trans w45
  have w46 : me_i Z48 164 27 = gi M 46 u := (f48.i fun z => absurd z.2 (by decide)).trans w46
  have w47 : me_i Z48 164 28 = gi M 47 u := (f48.i fun z => absurd z.2 (by decide)).trans w47
  have mm : ∀ {j0 : Nat}, (j0 = 42 ∨ j0 = 41 ∨ 25 ≤ j0 ∧ j0 ≤ 29) → ∀ b j, m1 j0 b j → cB b j := fun h b j z => ⟨z.1, by rw [z.2]; exact h⟩
  refine ⟨(f42.mo (mm (by decide))).tr ((f43.mo (mm (by decide))).tr ((f44.mo (mm (by decide))).tr ((f45.mo (mm (by decide))).tr ((f46.mo (mm (by decide))).tr ((f47.mo (mm (by decide))).tr (f48.mo (mm (by decide)))))))), v42, w43, w44, w45, w46, w47⟩
/-- slot -/
theorem slot_w {a fb fm : Int} {E : Nat → me_M → Prop} {K : Int → me_M → Prop} (h25 : me_i M 164 25 = fb) (h27 : me_i M 164 27 = fm) (hd : 1 ≤ d) (hK : K (fb + a - fm - 1) M) : ∃ d', d = d' + 1 ∧ me_W (mt_G N X) 409 d' 0 [some (.inr (.inl (some 164, 25, 0))), some (.inl a)] [] M (sx_qI K E) := by
  refine ca_I hd (P := fun y M' => M' = M ∧ y = fb + a - fm - 1) (F := nt_E) (b409_0 ⟨rfl, ?_⟩) (fun y M' _ z => by rw [z.1, z.2]; exact hK) nt_E_no
  rw [h25, h27]
end OUT
