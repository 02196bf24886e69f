/-! writeExp's write; push -/
theorem dr_s {a : Nat} {K : Nat → Prop} (h : K a) : me_dr (some a) K := h
/-- the model's own cells -/
def wP : Nat → Nat → Prop := fun b j => b = 164 ∧ j = 30
def wR (t : Nat) : Nat → Nat → Prop := fun j i => (j = 31 ∨ j = 32 ∨ j = 33) ∧ i = t
def no2 : Nat → Nat → Prop := fun _ _ => False
theorem no2_mo {P : Nat → Nat → Prop} : ∀ b j, no2 b j → P b j := fun _ _ z => z.elim
theorem g31 : 31 ∈ gl := by decide
theorem g32 : 32 ∈ gl := by decide
theorem g33 : 33 ∈ gl := by decide
theorem g39 : 39 ∈ gl := by decide
theorem ok164 : ¬ oka 164 := by unfold oka; omega
section WRITE
variable {M : me_M} {N : Nat} {X : Nat → Int32} {d : Nat}
theorem gx.GA {P R : Nat → Nat → Prop} {M M1 : me_M} (h : gx P R M M1) : _root_.Jvm.Pilot.CRefactorHouseLaw_law_r6603_cc39db.GA M1 := h.2.2.2.2.2
theorem gx.i4 {P R : Nat → Nat → Prop} {M M1 : me_M} (h : gx P R M M1) (G : _root_.Jvm.Pilot.CRefactorHouseLaw_law_r6603_cc39db.GA M) {j : Nat} (n : ¬ P 164 j) : me_i M1 164 j = me_i M 164 j := h.i G (by omega) ok164 n
theorem gi_set' {j i : Nat} {x : Int32} : gi (me_sI M (ga M j) i x) j i = x.toInt := by
  show me_i (me_sI M (ga M j) i x) (ga M j) i = x.toInt
  rw [me_i_sI, if_pos ⟨rfl, rfl⟩]
/-- one act was written -/
def W1 (M M' : me_M) (t : Nat) (s f e : Int) : Prop := gx wP (wR t) M M' ∧ me_i M' 164 30 = (t : Int) + 1 ∧ gi M' 31 t = s ∧ gi M' 32 t = f ∧ gi M' 33 t = e ∧ t < gL M' 31 ∧ t < gL M' 32 ∧ t < gL M' 33
theorem c_399w {t : Nat} {x1 x2 x3 : Int} (G : _root_.Jvm.Pilot.CRefactorHouseLaw_law_r6603_cc39db.GA M) (h30 : me_i M 164 30 = (t : Int)) (ht : t < 60000) (hd : 4 ≤ d) : me_W (mt_G N X) 399 d 0 [some (.inr (.inl (some 164, 25, 0))), some (.inl x1), some (.inl x2), some (.inl x3)] [] M (sx_qI (fun y M' => y = (t : Int) ∧ gx wP (wR t) M M' ∧ me_i M' 164 30 = (t : Int) + 1 ∧ gi M' 31 t = (Int32.ofInt x1).toInt ∧ gi M' 32 t = (Int32.ofInt x2).toInt ∧ gi M' 33 t = (Int32.ofInt x3).toInt ∧ t < gL M' 31 ∧ t < gL M' 32 ∧ t < gL M' 33) nt_E) := by
  have c1 : gcap 31 = 62000 := by decide
  have c2 : gcap 32 = 62000 := by decide
  have c3 : gcap 33 = 62000 := by decide
  refine b399_0 (fun n1 hn => ?_)
  cases gn G g31 hn
  rw [gp G g31, h30]
  refine ca_P (by omega) (c_400 (P := no2) (R := no2) G g31 (by decide) (by omega) (by omega) (by omega)) (fun o w M1 _ q => ?_) nt_E_no
  obtain ⟨q0, q1, l1⟩ := q
  refine ⟨q0, ?_⟩
  intro M7
  have q1 : gx no2 no2 M M7 := q1
  have l1 : (t : Int) + 1 ≤ gL M7 31 := l1
  clear_value M7
  have e7 : me_i M7 164 30 = (t : Int) := (q1.i4 G fun z => z).trans h30
  intro n2 hn2
  cases gn q1.GA g32 hn2
  rw [gp q1.GA g32, e7]
  refine ca_P (by omega) (c_400 (P := no2) (R := no2) q1.GA g32 (by decide) (by omega) (by omega) (by omega)) (fun o w M2 _ q => ?_) nt_E_no
  obtain ⟨q0, q2, l2⟩ := q
  refine ⟨q0, ?_⟩
  intro M14
  have q2 : gx no2 no2 M7 M14 := q2
  have l2 : (t : Int) + 1 ≤ gL M14 32 := l2
  clear_value M14
  have e14 : me_i M14 164 30 = (t : Int) := (q2.i4 q1.GA fun z => z).trans e7
  intro n3 hn3
  cases gn q2.GA g33 hn3
  rw [gp q2.GA g33, e14]
  refine ca_P (by omega) (c_400 (P := no2) (R := no2) q2.GA g33 (by decide) (by omega) (by omega) (by omega)) (fun o w M3 _ q => ?_) nt_E_no
  obtain ⟨q0, q3, l3⟩ := q
  refine ⟨q0, ?_⟩
  intro M21
  have q3 : gx no2 no2 M14 M21 := q3
  have l3 : (t : Int) + 1 ≤ gL M21 33 := l3
  clear_value M21
  have e21 : me_i M21 164 30 = (t : Int) := (q3.i4 q2.GA fun z => z).trans e14
  have q4 := q1.tr (q2.tr q3)
  have l2' := (q3.2.2.2.2.1 32 g32).1
  have l1' := (q3.2.2.2.2.1 31 g31).1
  have l1'' := (q2.2.2.2.2.1 31 g31).1
  intro n4 hn4
  cases gn q4.GA g31 hn4
  rw [gp q4.GA g31]
  refine dr_s ?_
  rw [e21]
  refine ⟨by omega, by omega, ?_⟩
  intro M24
  have s1 : gx no2 (fun j i => j = 31 ∧ i = t) M21 M24 := gx.set q4.GA g31 ⟨rfl, by omega⟩
  have v1 : gi M24 31 t = (Int32.ofInt x1).toInt := gi_set' (M := M21) (i := t)
  clear_value M24
  have e24 : me_i M24 164 30 = (t : Int) := (s1.i4 q4.GA fun z => z).trans e21
  have k1 := s1.2.2.2.2.1 31 g31
  have k2 := s1.2.2.2.2.1 32 g32
  have k3 := s1.2.2.2.2.1 33 g33
  intro n5 hn5
  cases gn s1.GA g32 hn5
  rw [gp s1.GA g32]
  refine dr_s ?_
  rw [e24]
  refine ⟨by omega, by omega, ?_⟩
  intro M27
  have s2 : gx no2 (fun j i => j = 32 ∧ i = t) M24 M27 := gx.set s1.GA g32 ⟨rfl, by omega⟩
  have v2 : gi M27 32 t = (Int32.ofInt x2).toInt := gi_set' (M := M24) (i := t)
  clear_value M27
  have e27 : me_i M27 164 30 = (t : Int) := (s2.i4 s1.GA fun z => z).trans e24
  have k1' := s2.2.2.2.2.1 31 g31
  have k2' := s2.2.2.2.2.1 32 g32
  have k3' := s2.2.2.2.2.1 33 g33
  have w1 : gi M27 31 t = (Int32.ofInt x1).toInt := (s2.g g31 (by omega) fun z => by omega).trans v1
  intro n6 hn6
  cases gn s2.GA g33 hn6
  rw [gp s2.GA g33]
  refine dr_s ?_
  rw [e27]
  refine ⟨by omega, by omega, ?_⟩
  intro M30
  have s3 : gx no2 (fun j i => j = 33 ∧ i = t) M27 M30 := gx.set s2.GA g33 ⟨rfl, by omega⟩
  have v3 : gi M30 33 t = (Int32.ofInt x3).toInt := gi_set' (M := M27) (i := t)
  clear_value M30
  have e30 : me_i M30 164 30 = (t : Int) := (s3.i4 s2.GA fun z => z).trans e27
  have k1'' := s3.2.2.2.2.1 31 g31
  have k2'' := s3.2.2.2.2.1 32 g32
  have k3'' := s3.2.2.2.2.1 33 g33
  have u1 : gi M30 31 t = (Int32.ofInt x1).toInt := (s3.g g31 (by omega) fun z => by omega).trans w1
  have u2 : gi M30 32 t = (Int32.ofInt x2).toInt := (s3.g g32 (by omega) fun z => by omega).trans v2
  intro M31
  have s4 : gx wP no2 M30 M31 := gx.of s3.GA (fr_sI (P := wP) ⟨rfl, rfl⟩) (fun b j z => by rw [z.1]; exact ok164)
  have e31 : me_i M31 164 30 = (t : Int) + 1 := by
    show me_i (me_sI M30 164 30 (Int32.ofInt (me_i M30 164 30 + 1))) 164 30 = _
    rw [me_i_sI, if_pos ⟨rfl, rfl⟩, e30, me_to ⟨by omega, by omega⟩]
  clear_value M31
  have z1 := s4.2.2.2.2.1 31 g31
  have z2 := s4.2.2.2.2.1 32 g32
  have z3 := s4.2.2.2.2.1 33 g33
  refine ⟨by omega, ?_, e31, (s4.g g31 (by omega) fun z => z).trans u1, (s4.g g32 (by omega) fun z => z).trans u2, (s4.g g33 (by omega) fun z => z).trans v3, by omega, by omega, by omega⟩
  refine (q4.mo no2_mo no2_mo).tr ((s1.mo no2_mo ?_).tr ((s2.mo no2_mo ?_).tr ((s3.mo no2_mo ?_).tr (s4.mo (fun _ _ z => z) no2_mo))))
  · exact fun b j z => ⟨Or.inl z.1, z.2⟩
  · exact fun b j z => ⟨Or.inr (Or.inl z.1), z.2⟩
  · exact fun b j z => ⟨Or.inr (Or.inr z.1), z.2⟩
theorem c_399 {t : Nat} {x1 x2 x3 : Int} (G : _root_.Jvm.Pilot.CRefactorHouseLaw_law_r6603_cc39db.GA M) (h30 : me_i M 164 30 = (t : Int)) (ht : t < 60000) (hx1 : me_r x1) (hx3 : me_r x3) (hd : 4 ≤ d) : me_W (mt_G N X) 399 d 0 [some (.inr (.inl (some 164, 25, 0))), some (.inl x1), some (.inl x2), some (.inl x3)] [] M (sx_qI (fun y M' => y = (t : Int) ∧ W1 M M' t x1 (Int32.ofInt x2).toInt x3) nt_E) := by
  refine (c_399w G h30 ht hd).mono fun o M' _ g => ?_
  rcases o with a | _ | x | ⟨q, u⟩ | j <;> first | exact g.elim | skip
  obtain ⟨g1, g2, g3, g4, g5, g6, g7⟩ := g
  exact ⟨g1, g2, g3, g4.trans (me_to hx1), g5, g6.trans (me_to hx3), g7⟩
end WRITE
