/-! sx: the tree of words from a place to the cut places -/
def si_is (y : Nat) (e : Nat × Instr × Nat) : Bool := decide (decode (mt_Cd y) e.1 = .ok e.2)
def sx_at (J : List (Nat × Instr × Nat)) (pc : Nat) : Option (Instr × Nat) := (J.find? fun e => Nat.beq e.1 pc).map fun e => e.2
theorem sx_at_ok {J : List (Nat × Instr × Nat)} {y : Nat} (h : J.all (si_is y) = true) {pc : Nat} {r : Instr × Nat} (hr : sx_at J pc = some r) (N : Nat) (X : Nat → Int32) : mv_gI (mt_G N X) y pc = some r := by
  unfold sx_at at hr
  rw [Option.map_eq_some_iff] at hr
  obtain ⟨e, h1, h2⟩ := hr
  have h3 := of_decide_eq_true (List.all_eq_true.mp h e (List.mem_of_find?_eq_some h1))
  have h4 : e.1 = pc := Nat.eq_of_beq_eq_true (List.find?_some (p := fun e : Nat × Instr × Nat => Nat.beq e.1 pc) h1)
  subst h4
  subst h2
  show (match decode (mt_Cd y) e.1 with
    | .ok q => some q
    | .error _ => none) = _
  rw [h3]
def sx_kn (y idx : Nat) : Option Int := (mt_pick mt_K y idx).map fun e => e.1
/-- the locals that a cut place knows -/
def sx_fg : List Bool → List (Option me_V) → List (Option me_V)
  | true :: m, v :: L => v :: sx_fg m L
  | false :: m, _ :: L => none :: sx_fg m L
  | _, _ => []
theorem sx_fg_ok : ∀ (m : List Bool) (L : List (Option me_V)) (i : Nat) (v : me_V), (sx_fg m L)[i]? = some (some v) → L[i]? = some (some v)
  | [], L, i, v, h => by
    unfold sx_fg at h
    simp at h
  | b :: m, [], i, v, h => by
    cases b <;> (unfold sx_fg at h; simp at h)
  | true :: m, w :: L, 0, v, h => h
  | true :: m, w :: L, i + 1, v, h => sx_fg_ok m L i v h
  | false :: m, w :: L, 0, v, h => by cases h
  | false :: m, w :: L, i + 1, v, h => sx_fg_ok m L i v h
def sx_cut : List (Nat × List Bool) → Nat → Option (List Bool)
  | [], _ => none
  | e :: r, pc => match Nat.beq e.1 pc with
    | true => some e.2
    | false => sx_cut r pc
section SXX
variable (G : mv_G) (kn : Nat → Nat → Option Int) (pv y : Nat) (Q : me_Q) (cut : List (Nat × List Bool)) (J : List (Nat × Instr × Nat))
def sx : Nat → Nat → Nat → List (Option me_V) → List me_V → me_M → Prop
  | 0, _, _, _, _, _ => False
  | n + 1, d, pc, L, st, M => match sx_at J pc with
    | some (i, len) => sx_i G kn pv y Q (fun d pc L st M => match sx_cut cut pc with
      | some ms => me_W G y d pc (sx_fg ms L) st M Q
      | none => sx n d pc L st M) d pc len L st M i
    | none => False
end SXX
def hg_ik (ci k : Nat) : Bool := match mt_gT ci k with
  | some .int => true
  | some .boolean => true
  | some .byte => true
  | _ => false
def hg_b (ci : Nat) : Bool := decide ((List.range (mt_gD ci).length).map (fun k => if hg_ik ci k = true then Value.int 0 else va_rf none) = mt_gD ci)
theorem hg_all : (List.range sx_fkT.length).all hg_b = true := by decide +kernel
theorem hg_fs {N : Nat} {X : Nat → Int32} {ci : Nat} (hc : ci < sx_fkT.length) : me_fs (mt_G N X) ci (fun _ => 0) (fun _ => none) = mv_gD (mt_G N X) ci := by
  have h1 : hg_b ci = true := List.all_eq_true.mp hg_all ci (List.mem_range.mpr hc)
  unfold hg_b at h1
  have h2 := of_decide_eq_true h1
  have h3 : mv_gD (mt_G N X) ci = mt_gD ci := rfl
  have h4 : ∀ k, me_ik (mt_G N X) ci k = hg_ik ci k := fun k => rfl
  unfold me_fs
  rw [h3]
  simp only [h4]
  exact h2
theorem mt_hG (N : Nat) (X : Nat → Int32) : me_hG (mt_G N X) := by
  refine ⟨fun a ha => ?_, fun ci hc => ?_, fun a ha => ?_⟩
  · show (if a = mv_big then some (N, X) else none) = none
    rw [if_neg (by omega)]
  · exact hg_fs (N := N) (X := X) hc
  · show (if a ≤ mv_big then none else _) = none
    rw [if_pos (by omega)]
theorem mt_hT (N : Nat) (X : Nat → Int32) : ∀ a tx, mv_gX2 (mt_G N X) a = some tx → tx.length ≤ 2147483647 := by
  intro a tx h
  have h : (if a ≤ mv_big then none else (mt_TX[a - (mv_big + 1)]?).map fun e => e.2.2.2) = some tx := h
  split at h
  · cases h
  · rw [Option.map_eq_some_iff] at h
    obtain ⟨e, h1, h2⟩ := h
    have h3 := List.all_eq_true.mp mt_xok_all e (List.mem_of_getElem? h1)
    unfold mt_xok at h3
    rw [Bool.and_eq_true] at h3
    have h4 : e.2.2.2.length < 1000 := Nat.le_of_ble_eq_true h3.2
    rw [← h2]
    omega
theorem mt_hkn (N : Nat) (X : Nat → Int32) : ∀ y idx v, sx_kn y idx = some v → mv_gK (mt_G N X) y idx = some (.int (Int32.ofInt v)) := by
  intro y idx v h
  unfold sx_kn at h
  rw [Option.map_eq_some_iff] at h
  obtain ⟨e, h1, h2⟩ := h
  show (match mt_pick mt_K y idx with
    | some e => some (Value.int (Int32.ofInt e.1))
    | none => (mt_pick mt_U y idx).map fun e : Nat × String × (Nat × Nat) => Value.ref (mv_big + 1 + e.1)) = _
  rw [h1, ← h2]
theorem sx_ok {N : Nat} {X : Nat → Int32} {pv y : Nat} {Q : me_Q} {cut : List (Nat × List Bool)} {J : List (Nat × Instr × Nat)} (hJ : J.all (si_is y) = true) : ∀ {n d pc : Nat} {L : List (Option me_V)} {st : List me_V} {M : me_M}, sx (mt_G N X) sx_kn pv y Q cut J n d pc L st M → me_W (mt_G N X) y d pc L st M Q
  | 0, _, _, _, _, _, h => h.elim
  | n + 1, d, pc, L, st, M, h => by
    unfold sx at h
    split at h
    · rename_i i len hi
      refine sx_i_ok (mt_hG N X) (mt_hT N X) (mt_hkn N X) (fun d pc L st M h => ?_) (sx_at_ok hJ hi N X) h
      split at h
      · exact h.forget (sx_fg_ok _ _)
      · exact sx_ok hJ h
    · exact h.elim
/-- a call by its contract -/
theorem ca_I {G : mv_G} {z d pc : Nat} {L : List (Option me_V)} {st : List me_V} {M : me_M} {P K : Int → me_M → Prop} {F E : Nat → me_M → Prop} (hd : 1 ≤ d) (h : me_W G z (d - 1) pc L st M (sx_qI P F)) (k : ∀ x M', me_ext M M' → P x M' → K x M') (e : ∀ a M', me_ext M M' → F a M' → E a M') : ∃ d', d = d' + 1 ∧ me_W G z d' pc L st M (sx_qI K E) := ⟨d - 1, by omega, h.mono fun o M' g q => by
  rcases o with a | _ | x | ⟨p, q⟩ | j
  · exact e a M' g q
  · exact q.elim
  · exact k x M' g q
  · exact q.elim
  · exact q.elim⟩
theorem ca_V {G : mv_G} {z d pc : Nat} {L : List (Option me_V)} {st : List me_V} {M : me_M} {P K : me_M → Prop} {F E : Nat → me_M → Prop} (hd : 1 ≤ d) (h : me_W G z (d - 1) pc L st M (sx_qV P F)) (k : ∀ M', me_ext M M' → P M' → K M') (e : ∀ a M', me_ext M M' → F a M' → E a M') : ∃ d', d = d' + 1 ∧ me_W G z d' pc L st M (sx_qV K E) := ⟨d - 1, by omega, h.mono fun o M' g q => by
  rcases o with a | _ | x | ⟨p, q⟩ | j
  · exact e a M' g q
  · exact k M' g q
  · exact q.elim
  · exact q.elim
  · exact q.elim⟩
theorem ca_P {G : mv_G} {z d pc : Nat} {L : List (Option me_V)} {st : List me_V} {M : me_M} {P K : Option Nat → Nat × Nat → me_M → Prop} {F E : Nat → me_M → Prop} (hd : 1 ≤ d) (h : me_W G z (d - 1) pc L st M (sx_qP P F)) (k : ∀ p q M', me_ext M M' → P p q M' → K p q M') (e : ∀ a M', me_ext M M' → F a M' → E a M') : ∃ d', d = d' + 1 ∧ me_W G z d' pc L st M (sx_qP K E) := ⟨d - 1, by omega, h.mono fun o M' g q => by
  rcases o with a | _ | x | ⟨p, w⟩ | j
  · exact e a M' g q
  · exact q.elim
  · exact q.elim
  · exact k p w M' g q
  · exact q.elim⟩
/-- what ends without a throw -/
def nt_E : Nat → me_M → Prop := fun _ _ => False
theorem nt_E_no {E : Nat → me_M → Prop} {M : me_M} : ∀ a M', me_ext M M' → nt_E a M' → E a M' := fun _ _ _ h => h.elim
