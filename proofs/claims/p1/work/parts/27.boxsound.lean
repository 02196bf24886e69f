/-! boxes: the run is sound -/
abbrev ab_R : Type := ab_S ⊕ ((Nat × List ab_V × List ab_V) ⊕ (Option ab_V ⊕ Nat))
section
variable (G : mv_G) (Ls : Nat → Option Nat) (X : Nat → ab_V) (y fb lb : Nat) (A : ab_S)
def ab_callS (idx : Nat) : Option ab_R := match mv_gC G y idx with
  | some (kd, z, n) => if (kd = 0 ∨ kd = 1) ∧ n ≤ A.2.2.1.length then some (.inr (.inl (z, (A.2.2.1.take n).reverse, A.2.2.1.drop n))) else none
  | none => none
def ab_callV (idx : Nat) : Option ab_R := match mv_gC G y idx with
  | some (kd, z, n) => match A.2.2.1.drop n with
    | .inl (.ref a) :: r => match ab_at A.2.2.2.1 a with
      | some (.inr (.inr (ci, _, _))) => if (kd = 2 ∨ kd = 3) ∧ ci = mv_gW G z then some (.inr (.inl (z, .inl (.ref a) :: (A.2.2.1.take n).reverse, r))) else none
      | _ => none
    | _ => none
  | none => none
def ab_callI (idx : Nat) : Option ab_R := match mv_gC G y idx with
  | some (kd, z, n) => match A.2.2.1.drop n with
    | .inl (.ref a) :: r => if kd = 4 ∨ kd = 5 then some (.inr (.inl (z, .inl (.ref a) :: (A.2.2.1.take n).reverse, r))) else none
    | _ => none
  | none => none
def ab_iret : Option ab_R := match A.2.2.1 with
  | [v] => match mv_gR G y with
    | some ty => bif ab_int v && (match v with | .inl w => decide (narrow ty w = w) | .inr _ => decide (ty = .int)) then some (.inr (.inr (.inl (some v)))) else none
    | none => none
  | _ => none
def ab_aret : Option ab_R := match A.2.2.1 with
  | [v] => match mv_gR G y with
    | some ty => if ty.isReference = true ∧ ab_rfv v = true then some (.inr (.inr (.inl (some v)))) else none
    | none => none
  | _ => none
def ab_vret : Option ab_R := match A.2.2.1 with
  | [] => match mv_gR G y with
    | none => some (.inr (.inr (.inl none)))
    | some _ => none
  | _ => none
def ab_throw : Option ab_R := match A.2.2.1 with
  | .inl (.ref a) :: _ => some (.inr (.inr (.inr a)))
  | _ => none
def ab_go (o : Option ab_S) : Option ab_R := match o with
  | some S => some (.inl S)
  | none => none
/-- whose kind is this call -/
def ab_kd (idx : Nat) : Nat := match mv_gC G y idx with
  | some (kd, _, _) => kd
  | none => 99
def ab_scr : Option Nat := match A.2.2.1 with
  | .inl (.ref a) :: _ => some a
  | _ => none
def ab_scr2 : Option Nat := match A.2.2.1 with
  | _ :: .inl (.ref a) :: _ => some a
  | _ => none
def ab_step : Option ab_R := match mv_gI G y A.1 with
  | none => none
  | some (i, n) => match i with
    | .invokestatic idx => bif Nat.beq n 3 then (bif Nat.beq (ab_kd G y idx) 7 then ab_go (ab_copy A.1 A.2.1 A.2.2.1 A.2.2.2.1 A.2.2.2.2.1 A.2.2.2.2.2 fb lb) else ab_callS G y A idx) else none
    | .invokevirtual idx => bif Nat.beq n 3 then ab_callV G y A idx else none
    | .invokespecial idx => bif Nat.beq n 3 then (bif Nat.beq (ab_kd G y idx) 9 then ab_go (ab_oini A.1 A.2.1 A.2.2.1 A.2.2.2.1 A.2.2.2.2.1 A.2.2.2.2.2 fb lb) else ab_callI G y A idx) else none
    | .new idx => bif Nat.beq n 3 then (match mv_gN G y idx with
      | some ci => bif Nat.beq ci (mv_gX G) then ab_go (ab_made G y A.1 A.2.1 A.2.2.1 A.2.2.2.1 A.2.2.2.2.1 A.2.2.2.2.2 fb lb) else ab_go (ab_new G y A.1 A.2.1 A.2.2.1 A.2.2.2.1 A.2.2.2.2.1 A.2.2.2.2.2 idx)
      | none => none) else none
    | .iaload => bif Nat.beq n 1 then (match ab_scr2 A with
      | some a => match Ls a with
        | some _ => ab_go (ab_xald Ls X A.1 A.2.1 A.2.2.1 A.2.2.2.1 A.2.2.2.2.1 A.2.2.2.2.2)
        | none => ab_go (ab_iald A.1 A.2.1 A.2.2.1 A.2.2.2.1 A.2.2.2.2.1 A.2.2.2.2.2)
      | none => none) else none
    | .arraylength => bif Nat.beq n 1 then (match ab_scr A with
      | some a => match Ls a with
        | some _ => ab_go (ab_xlen Ls A.1 A.2.1 A.2.2.1 A.2.2.2.1 A.2.2.2.2.1 A.2.2.2.2.2)
        | none => ab_go (ab_alen G A.1 A.2.1 A.2.2.1 A.2.2.2.1 A.2.2.2.2.1 A.2.2.2.2.2)
      | none => none) else none
    | .ireturn => bif Nat.beq n 1 then ab_iret G y A else none
    | .areturn => bif Nat.beq n 1 then ab_aret G y A else none
    | .return_ => bif Nat.beq n 1 then ab_vret G y A else none
    | .athrow => bif Nat.beq n 1 then ab_throw A else none
    | i => ab_go (ab_ins G y A.1 A.2.1 A.2.2.1 A.2.2.2.1 A.2.2.2.2.1 A.2.2.2.2.2 n i)
end
abbrev ab_Q : Type := (Nat ⊕ Option ab_V) × ab_H × Nat × Nat
def ab_take (G : mv_G) (y : Nat) (k : ab_S → Option ab_Q) (a : Nat) (A : ab_S) : Option ab_Q := match mv_hand (mv_gH G y) A.1 with
  | none => some (.inl a, A.2.2.2.1, A.2.2.2.2.1, A.2.2.2.2.2)
  | some (hd, _) => match ab_at A.2.2.2.1 a with
    | some (.inr (.inr (ci, _, _))) => bif Nat.beq ci (mv_gX G) then k (hd, A.2.1, [.inl (.ref a)], A.2.2.2.1, A.2.2.2.2.1, A.2.2.2.2.2) else none
    | _ => none
def ab_run (G : mv_G) (Ls : Nat → Option Nat) (X : Nat → ab_V) : Nat → Nat → Nat → Nat → ab_S → Option ab_Q
  | 0, _, _, _, _ => none
  | n + 1, y, fb, lb, A => match ab_step G Ls X y fb lb A with
    | none => none
    | some (.inl A') => ab_run G Ls X n y fb lb A'
    | some (.inr (.inl (z, as, r))) => bif Nat.ble 1 fb && Nat.ble (r.length + (mv_gL G z + 11)) lb && Nat.ble as.length (mv_gL G z) then
        ab_fn (fb - 1) fun fb' => ab_fn (lb - (r.length + (mv_gL G z + 11))) fun lb' => match ab_run G Ls X n z fb' lb' (0, ab_args 0 as, [], A.2.2.2.1, A.2.2.2.2.1, A.2.2.2.2.2) with
        | none => none
        | some (.inr v, h, cb, sb) => ab_fn (A.1 + 3) fun pc' => ab_run G Ls X n y fb lb (pc', A.2.1, v.toList ++ r, h, cb, sb)
        | some (.inl a, h, cb, sb) => ab_take G y (ab_run G Ls X n y fb lb) a (A.1, A.2.1, [], h, cb, sb)
      else none
    | some (.inr (.inr (.inl v))) => some (.inr v, A.2.2.2.1, A.2.2.2.2.1, A.2.2.2.2.2)
    | some (.inr (.inr (.inr a))) => ab_take G y (ab_run G Ls X n y fb lb) a A
/-- what a call's box ends in -/
def ab_go_ (o : Option ab_V) (v : Option Value) : Prop := match o, v with
  | none, none => True
  | some a, some b => ab_g a b
  | _, _ => False
def ab_gQ (q : ab_Q) (E : mv_E) : Prop := (match q.1, E.1 with
  | .inl a, .inl b => a = b
  | .inr v, .inr w => ab_go_ v w
  | _, _ => False) ∧ ab_gh q.2.1 E.2.1 ∧ q.2.2.1 = E.2.2.1 ∧ q.2.2.2 = E.2.2.2
/-- an instruction that mv_nat lets pass -/
def ab_plain : Instr → Bool
  | .invokestatic _ => false
  | .invokespecial _ => false
  | .new _ => false
  | .iaload => false
  | .arraylength => false
  | _ => true
theorem ab_nat_none {G : mv_G} {y fb lb n : Nat} {S : mv_S} {i : Instr} (hI : mv_gI G y S.1 = some (i, n)) (hi : ab_plain i = true) : mv_nat G y fb lb S = none := by
  unfold mv_nat
  rw [hI]
  cases i <;> first | rfl | cases hi
/-- what a step's box leads to, the small machine's step leads to -/
def ab_okR (G : mv_G) (y fb lb : Nat) (q : ab_R) (S : mv_S) : Prop := match q with
  | .inl A' => ∃ S', (mv_nat G y fb lb S = some S' ∨ (mv_nat G y fb lb S = none ∧ mv_exec G y S = some (.inl S'))) ∧ ab_gS A' S'
  | .inr (.inl (z, as, r)) => mv_nat G y fb lb S = none ∧ ∃ (as' r' : List Value), mv_exec G y S = some (.inr (.inl (z, as', r', 3))) ∧ ab_gs as as' ∧ ab_gs r r'
  | .inr (.inr (.inl v)) => mv_nat G y fb lb S = none ∧ ∃ w, mv_exec G y S = some (.inr (.inr (.inl w))) ∧ ab_go_ v w
  | .inr (.inr (.inr a)) => mv_nat G y fb lb S = none ∧ mv_exec G y S = some (.inr (.inr (.inr a)))
theorem ab_go_eq {o : Option ab_S} {q : ab_R} (h : ab_go o = some q) : ∃ A, o = some A ∧ q = .inl A := by
  cases o with
  | none => cases h
  | some A =>
    cases h
    exact ⟨A, rfl, rfl⟩
theorem ab_bif {α : Type} {b : Bool} {o : Option α} {q : α} (h : (bif b then o else none) = some q) : b = true ∧ o = some q := by
  cases b with
  | true => exact ⟨rfl, h⟩
  | false => cases h
section ABR
variable {G : mv_G} {Ls : Nat → Option Nat} {X : Nat → ab_V} {y fb lb : Nat} {A : ab_S} {S : mv_S}
theorem ab_callS_ok {n idx : Nat} (hn : n = 3) (hI : mv_gI G y S.1 = some (.invokestatic idx, n)) (hk : ¬ ab_kd G y idx = 7) (hs : ab_gS A S) {q : ab_R} (h : ab_callS G y A idx = some q) : ab_okR G y fb lb q S := by
  subst hn
  obtain ⟨-, -, hs3, -⟩ := hs
  unfold ab_callS at h
  split at h
  · rename_i kd z na hc
    split at h
    · rename_i hq
      cases h
      have hnat : mv_nat G y fb lb S = none := by
        unfold ab_kd at hk
        simp only [hc] at hk
        unfold mv_nat
        simp only [hI, hc]
        rw [if_neg hk]
      obtain ⟨t1, t2⟩ := ab_gs_take na hs3
      refine ⟨hnat, (S.2.2.1.take na).reverse, S.2.2.1.drop na, ?_, ab_gs_rev t1, t2⟩
      unfold mv_exec
      rw [hI]
      show mv_g 3 3 (mv_callS G y S.2.2.1 idx) = _
      unfold mv_g mv_callS
      rw [if_pos rfl, hc]
      dsimp only
      rw [if_pos ⟨hq.1, by rw [ab_gs_len hs3]; exact hq.2⟩]
    · cases h
  · cases h
theorem ab_callV_ok {n idx : Nat} (hn : n = 3) (hI : mv_gI G y S.1 = some (.invokevirtual idx, n)) (hs : ab_gS A S) {q : ab_R} (h : ab_callV G y A idx = some q) : ab_okR G y fb lb q S := by
  subst hn
  obtain ⟨-, -, hs3, hs4, -⟩ := hs
  unfold ab_callV at h
  split at h
  · rename_i kd z na hc
    obtain ⟨t1, t2⟩ := ab_gs_take na hs3
    split at h
    · rename_i a r hd
      rw [hd] at t2
      obtain ⟨w1, r1, hd2, g1, g2⟩ := ab_gs_cons t2
      have g3 := g1.1
      subst g3
      split at h
      · rename_i ci N F ha
        obtain ⟨e, he, fs, rfl, -⟩ := ab_at_ok hs4 ha
        split at h
        · rename_i hq
          cases h
          refine ⟨ab_nat_none hI rfl, .ref a :: (S.2.2.1.take na).reverse, r1, ?_, ⟨g1, ab_gs_rev t1⟩, g2⟩
          unfold mv_exec
          rw [hI]
          show mv_g 3 3 (mv_callV G y S.2.2.1 S.2.2.2.1 idx) = _
          unfold mv_g mv_callV
          rw [if_pos rfl, hc]
          dsimp only
          rw [hd2]
          dsimp only
          rw [he]
          dsimp only
          rw [if_pos hq]
        · cases h
      · cases h
    · cases h
  · cases h
theorem ab_callI_ok {n idx : Nat} (hn : n = 3) (hI : mv_gI G y S.1 = some (.invokespecial idx, n)) (hk : ¬ ab_kd G y idx = 9) (hs : ab_gS A S) {q : ab_R} (h : ab_callI G y A idx = some q) : ab_okR G y fb lb q S := by
  subst hn
  obtain ⟨-, -, hs3, -⟩ := hs
  unfold ab_callI at h
  split at h
  · rename_i kd z na hc
    obtain ⟨t1, t2⟩ := ab_gs_take na hs3
    split at h
    · rename_i a r hd
      rw [hd] at t2
      obtain ⟨w1, r1, hd2, g1, g2⟩ := ab_gs_cons t2
      have g3 := g1.1
      subst g3
      split at h
      · rename_i hq
        cases h
        have hnat : mv_nat G y fb lb S = none := by
          unfold ab_kd at hk
          simp only [hc] at hk
          unfold mv_nat
          simp only [hI, hc]
          rw [if_neg hk]
        refine ⟨hnat, .ref a :: (S.2.2.1.take na).reverse, r1, ?_, ⟨g1, ab_gs_rev t1⟩, g2⟩
        unfold mv_exec
        rw [hI]
        show mv_g 3 3 (mv_callI G y S.2.2.1 idx) = _
        unfold mv_g mv_callI
        rw [if_pos rfl, hc]
        dsimp only
        rw [hd2]
        dsimp only
        rw [if_pos hq]
      · cases h
    · cases h
  · cases h
theorem ab_ins_step {n : Nat} {i : Instr} (hI : mv_gI G y S.1 = some (i, n)) (hnat : mv_nat G y fb lb S = none) (hex : mv_exec G y S = mv_og (mv_ins G y S.1 S.2.1 S.2.2.1 S.2.2.2.1 S.2.2.2.2.1 S.2.2.2.2.2 n i)) (hs : ab_gS A S) {q : ab_R} (h : ab_go (ab_ins G y A.1 A.2.1 A.2.2.1 A.2.2.2.1 A.2.2.2.2.1 A.2.2.2.2.2 n i) = some q) : ab_okR G y fb lb q S := by
  obtain ⟨s1, s2, s3, s4, s5, s6⟩ := hs
  obtain ⟨A', h1, rfl⟩ := ab_go_eq h
  rw [s1, s5, s6] at h1
  obtain ⟨S', h2, h3⟩ := ab_ins_ok s2 s3 s4 i A' h1
  refine ⟨S', Or.inr ⟨hnat, ?_⟩, h3⟩
  rw [hex, h2]
  rfl
theorem ab_iret_ok {n : Nat} (hn : n = 1) (hI : mv_gI G y S.1 = some (.ireturn, n)) (hs : ab_gS A S) {q : ab_R} (h : ab_iret G y A = some q) : ab_okR G y fb lb q S := by
  subst hn
  obtain ⟨-, -, hs3, -⟩ := hs
  unfold ab_iret at h
  split at h
  · rename_i v hv
    rw [hv] at hs3
    obtain ⟨w, t, e1, g1, g2⟩ := ab_gs_cons hs3
    have e2 := ab_gs_nil g2
    subst e2
    split at h
    · rename_i ty hty
      obtain ⟨b1, b2⟩ := ab_bif h
      cases b2
      rw [Bool.and_eq_true] at b1
      obtain ⟨x, rfl⟩ := ab_int_at g1 b1.1
      have b3 : narrow ty (.int x) = .int x := by
        have b4 := b1.2
        split at b4
        · rename_i w'
          rw [g1.1]
          exact of_decide_eq_true b4
        · rw [of_decide_eq_true b4]
          rfl
      refine ⟨ab_nat_none hI rfl, some (.int x), ?_, g1⟩
      unfold mv_exec
      rw [hI]
      show mv_g 1 1 (mv_iret G y S.2.2.1) = _
      unfold mv_g mv_iret
      rw [if_pos rfl, e1]
      dsimp only
      rw [hty]
      dsimp only
      rw [if_pos b3]
    · cases h
  · cases h
theorem ab_aret_ok {n : Nat} (hn : n = 1) (hI : mv_gI G y S.1 = some (.areturn, n)) (hs : ab_gS A S) {q : ab_R} (h : ab_aret G y A = some q) : ab_okR G y fb lb q S := by
  subst hn
  obtain ⟨-, -, hs3, -⟩ := hs
  unfold ab_aret at h
  split at h
  · rename_i v hv
    rw [hv] at hs3
    obtain ⟨w, t, e1, g1, g2⟩ := ab_gs_cons hs3
    have e2 := ab_gs_nil g2
    subst e2
    split at h
    · rename_i ty hty
      split at h
      · rename_i hc
        cases h
        refine ⟨ab_nat_none hI rfl, some w, ?_, g1⟩
        unfold mv_exec
        rw [hI]
        show mv_g 1 1 (mv_aret G y S.2.2.1) = _
        unfold mv_g mv_aret
        rw [if_pos rfl, e1]
        dsimp only
        rw [hty]
        dsimp only
        rw [if_pos ⟨hc.1, ab_rfv_ok v w g1 hc.2⟩]
      · cases h
    · cases h
  · cases h
theorem ab_vret_ok {n : Nat} (hn : n = 1) (hI : mv_gI G y S.1 = some (.return_, n)) (hs : ab_gS A S) {q : ab_R} (h : ab_vret G y A = some q) : ab_okR G y fb lb q S := by
  subst hn
  obtain ⟨-, -, hs3, -⟩ := hs
  unfold ab_vret at h
  split at h
  · rename_i hv
    rw [hv] at hs3
    have e1 := ab_gs_nil hs3
    split at h
    · rename_i hty
      cases h
      refine ⟨ab_nat_none hI rfl, none, ?_, trivial⟩
      unfold mv_exec
      rw [hI]
      show mv_g 1 1 (mv_vret G y S.2.2.1) = _
      unfold mv_g mv_vret
      rw [if_pos rfl, e1]
      dsimp only
      rw [hty]
    · cases h
  · cases h
theorem ab_throw_ok {n : Nat} (hn : n = 1) (hI : mv_gI G y S.1 = some (.athrow, n)) (hs : ab_gS A S) {q : ab_R} (h : ab_throw A = some q) : ab_okR G y fb lb q S := by
  subst hn
  obtain ⟨-, -, hs3, -⟩ := hs
  unfold ab_throw at h
  split at h
  · rename_i a r hv
    rw [hv] at hs3
    obtain ⟨w, t, e1, g1, g2⟩ := ab_gs_cons hs3
    cases h
    refine ⟨ab_nat_none hI rfl, ?_⟩
    unfold mv_exec
    rw [hI]
    show mv_g 1 1 (mv_throw S.2.2.1) = _
    unfold mv_g mv_throw
    rw [if_pos rfl, e1, g1.1]
  · cases h
/-- what has no bytecode, where it goes on -/
theorem ab_nat_step {o : Option ab_S} {r : Option mv_S} (hok : ab_okN o r) (hnat : mv_nat G y fb lb S = r) {q : ab_R} (h : ab_go o = some q) : ab_okR G y fb lb q S := by
  obtain ⟨A', h1, rfl⟩ := ab_go_eq h
  obtain ⟨S', h2, h3⟩ := hok A' h1
  exact ⟨S', Or.inl (hnat.trans h2), h3⟩
end ABR
