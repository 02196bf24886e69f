/-! what a place leads to, as a tree of words (sx): printed by evaluation, held by sx_ok -/
def sx_g (len m : Nat) (P : Prop) : Prop := match Nat.beq len m with
  | true => P
  | false => False
theorem sx_g_eq {len m : Nat} {P : Prop} (h : sx_g len m P) : len = m ∧ P := by
  unfold sx_g at h
  split at h
  · rename_i e
    exact ⟨Nat.eq_of_beq_eq_true e, h⟩
  · exact h.elim
def sx_b (b : Bool) (P : Prop) : Prop := match b with
  | true => P
  | false => False
theorem sx_b_eq {b : Bool} {P : Prop} (h : sx_b b P) : b = true ∧ P := by
  unfold sx_b at h
  split at h
  · exact ⟨rfl, h⟩
  · exact h.elim
def sx_ld (L : List (Option me_V)) (q : Nat) (int : Bool) (K : me_V → Prop) : Prop := match L[q]? with
  | some (some (.inl x)) => sx_b int (K (.inl x))
  | some (some (.inr p)) => sx_b (!int) (K (.inr p))
  | _ => False
def me_dr (p : Option Nat) (K : Nat → Prop) : Prop := match p with
  | some a => K a
  | none => False
def sx_cd (c : Jvm.ClassFile.Cond) (x y : Int) (A B : Prop) : Prop := match c with
  | .eq => (x = y → A) ∧ (¬ x = y → B)
  | .ne => (¬ x = y → A) ∧ (x = y → B)
  | .lt => (x < y → A) ∧ (y ≤ x → B)
  | .ge => (y ≤ x → A) ∧ (x < y → B)
  | .gt => (y < x → A) ∧ (x ≤ y → B)
  | .le => (x ≤ y → A) ∧ (y < x → B)
theorem sx_cd_eq {c : Jvm.ClassFile.Cond} {x y : Int} {A B : Prop} (h : sx_cd c x y A B) : (me_cond c x y → A) ∧ (¬ me_cond c x y → B) := by
  cases c <;> unfold sx_cd at h <;> unfold me_cond <;> refine ⟨h.1, fun q => h.2 ?_⟩ <;> first | exact q | omega
def sx_t (pc : Nat) (off : Int) (K : Nat → Prop) : Prop := match mv_tgt pc off with
  | some t => K t
  | none => False
theorem sx_t_eq {pc : Nat} {off : Int} {K : Nat → Prop} (h : sx_t pc off K) : ∃ t, mv_tgt pc off = some t ∧ K t := by
  unfold sx_t at h
  split at h
  · rename_i t e
    exact ⟨t, e, h⟩
  · exact h.elim
/-- each case of a switch -/
def sx_all : List Int → Int → (Int → Int → Prop) → Prop
  | [], _, _ => True
  | off :: r, v, K => K v off ∧ sx_all r (v + 1) K
def sx_lk : List (Int × Int) → Int → (Int → Prop) → Prop → Prop
  | [], _, _, D => D
  | (v, off) :: r, x, K, D => (x = v → K off) ∧ (¬ x = v → sx_lk r x K D)
def me_cp (M : me_M) (a0 a1 sp dp n : Nat) : me_M := (M.1, M.2.1, fun b j => if b = a1 then va_cpy (M.2.2.1 a0) (M.2.2.1 a1) sp dp n j else M.2.2.1 b j, M.2.2.2)
/-- a text -/
def sx_tx (G : mv_G) (a : Nat) (K : List Int32 → Prop) : Prop := match mv_gX2 G a with
  | some tx => K tx
  | none => False
/-- the ends of a call: none, an int, a pointer or null; or a thrown object -/
def sx_qV (P : me_M → Prop) (E : Nat → me_M → Prop) : me_Q := fun o M => match o with
  | .inr none => P M
  | .inl a => E a M
  | _ => False
def sx_qI (P : Int → me_M → Prop) (E : Nat → me_M → Prop) : me_Q := fun o M => match o with
  | .inr (some (.inl x)) => P x M
  | .inl a => E a M
  | _ => False
def sx_qP (P : Option Nat → Nat × Nat → me_M → Prop) (E : Nat → me_M → Prop) : me_Q := fun o M => match o with
  | .inr (some (.inr (.inl (p, q)))) => P p q M
  | .inl a => E a M
  | _ => False
section SXC
variable (G : mv_G) (Q : me_Q) (k : Nat → Nat → List (Option me_V) → List me_V → me_M → Prop)
/-- what follows a call's end; the kind of what method z returns: sx_rk z -/
def sx_back (y d pc len z : Nat) (L : List (Option me_V)) (r : List me_V) : me_Q := fun o M => match o with
  | .inr (some (.inl x)) => k d (pc + len) L (.inl x :: r) M
  | .inr (some (.inr (.inl (p, q)))) => q.1 = sx_rk z ∧ match Nat.beq (sx_rk z % 2) 1 with
    | true => q.2 = 0 ∧ k d (pc + len) L (.inr (.inl (p, sx_rk z, 0)) :: r) M
    | false => k d (pc + len) L (.inr (.inl (p, sx_rk z, q.2)) :: r) M
  | .inr (some (.inr (.inr _))) => False
  | .inr none => k d (pc + len) L r M
  | .inl a => match mv_hand (mv_gH G y) pc with
    | none => Q (.inl a) M
    | some (h, _) => k d h L [.inr (.inl (some a, 2 * mv_gX G + 1, 0))] M
def sx_call (y d pc len z : Nat) (as : List me_V) (L : List (Option me_V)) (r : List me_V) (M : me_M) : Prop := sx_b (Nat.ble as.length (mv_gL G z) && Nat.ble (r.length + (mv_gL G z + 11)) 60) (∃ d', d = d' + 1 ∧ me_W G z d' 0 (as.map some ++ List.replicate (mv_gL G z - as.length) none) [] M (sx_back G Q k y d pc len z L r))
/-- what follows a thrown end -/
def sx_E (y d pc : Nat) (L : List (Option me_V)) : Nat → me_M → Prop := fun a M => match mv_hand (mv_gH G y) pc with
  | none => Q (.inl a) M
  | some (h, _) => k d h L [.inr (.inl (some a, 2 * mv_gX G + 1, 0))] M
def sx_bk (y d pc len z : Nat) (L : List (Option me_V)) (r : List me_V) : me_Q := match sx_rt z with
  | 0 => sx_qV (fun M => k d (pc + len) L r M) (sx_E G Q k y d pc L)
  | 1 => sx_qI (fun x M => k d (pc + len) L (.inl x :: r) M) (sx_E G Q k y d pc L)
  | _ => match Nat.beq (sx_rk z % 2) 1 with
    | true => sx_qP (fun p q M => q = (sx_rk z, 0) ∧ k d (pc + len) L (.inr (.inl (p, sx_rk z, 0)) :: r) M) (sx_E G Q k y d pc L)
    | false => sx_qP (fun p q M => q.1 = sx_rk z ∧ k d (pc + len) L (.inr (.inl (p, sx_rk z, q.2)) :: r) M) (sx_E G Q k y d pc L)
def sx_cl (y d pc len z : Nat) (as : List me_V) (L : List (Option me_V)) (r : List me_V) (M : me_M) : Prop := sx_b (Nat.ble as.length (mv_gL G z) && Nat.ble (r.length + (mv_gL G z + 11)) 60) (∃ d', d = d' + 1 ∧ me_W G z d' 0 (as.map some ++ List.replicate (mv_gL G z - as.length) none) [] M (sx_bk G Q k y d pc len z L r))
theorem sx_bk_ok {y d pc len z : Nat} {L : List (Option me_V)} {r : List me_V} {o : me_O} {M : me_M} (h : sx_bk G Q k y d pc len z L r o M) : sx_back G Q k y d pc len z L r o M := by
  unfold sx_bk at h
  rcases hz : sx_rt z with _ | _ | n
  · rw [hz] at h
    rcases o with a | _ | x | ⟨p, q⟩ | j <;> first | exact h | exact h.elim
  · rw [hz] at h
    rcases o with a | _ | x | ⟨p, q⟩ | j <;> first | exact h | exact h.elim
  · rw [hz] at h
    rcases e : Nat.beq (sx_rk z % 2) 1 with _ | _
    · simp only [e] at h
      rcases o with a | _ | x | ⟨p, q⟩ | j <;> first | exact h.elim | exact h | skip
      obtain ⟨h1, h2⟩ := h
      unfold sx_back
      dsimp only
      rw [e]
      exact ⟨h1, h2⟩
    · simp only [e] at h
      rcases o with a | _ | x | ⟨p, q⟩ | j <;> first | exact h.elim | exact h | skip
      obtain ⟨h1, h2⟩ := h
      unfold sx_back
      dsimp only
      rw [e, h1]
      exact ⟨rfl, rfl, h2⟩
theorem sx_cl_ok {y d pc len z : Nat} {as : List me_V} {L : List (Option me_V)} {r : List me_V} {M : me_M} (h : sx_cl G Q k y d pc len z as L r M) : sx_call G Q k y d pc len z as L r M := by
  obtain ⟨h1, d', h2, h3⟩ := sx_b_eq h
  unfold sx_call
  rw [h1]
  exact ⟨d', h2, h3.mono fun o M' _ h => sx_bk_ok G Q k h⟩
end SXC
section SX
variable (G : mv_G) (kn : Nat → Nat → Option Int) (pv : Nat) (y : Nat) (Q : me_Q) (k : Nat → Nat → List (Option me_V) → List me_V → me_M → Prop)
/-- one instruction; k: what follows -/
def sx_i (d pc len : Nat) (L : List (Option me_V)) (st : List me_V) (M : me_M) : Instr → Prop
  | .aconst_null => sx_g len 1 (k d (pc + 1) L (.inr (.inl (none, 0, 0)) :: st) M)
  | .iconst v => sx_g len 1 (k d (pc + 1) L (.inl v :: st) M)
  | .bipush v => sx_g len 2 (sx_b (decide (-128 ≤ v) && decide (v ≤ 127)) (k d (pc + 2) L (.inl v :: st) M))
  | .sipush v => sx_g len 3 (sx_b (decide (-32768 ≤ v) && decide (v ≤ 32767)) (k d (pc + 3) L (.inl v :: st) M))
  | .iload i => sx_g len 2 (sx_ld L i true fun v => k d (pc + 2) L (v :: st) M)
  | .iload_n i => sx_g len 1 (sx_ld L i.val true fun v => k d (pc + 1) L (v :: st) M)
  | .aload i => sx_g len 2 (sx_ld L i false fun v => k d (pc + 2) L (v :: st) M)
  | .aload_n i => sx_g len 1 (sx_ld L i.val false fun v => k d (pc + 1) L (v :: st) M)
  | .istore i => sx_g len 2 (match st with
    | .inl x :: r => sx_b (Nat.blt i (mv_gL G y)) (k d (pc + 2) (L.set i (some (.inl x))) r M)
    | _ => False)
  | .istore_n i => sx_g len 1 (match st with
    | .inl x :: r => sx_b (Nat.blt i.val (mv_gL G y)) (k d (pc + 1) (L.set i.val (some (.inl x))) r M)
    | _ => False)
  | .astore i => sx_g len 2 (match st with
    | .inr x :: r => sx_b (Nat.blt i (mv_gL G y)) (k d (pc + 2) (L.set i (some (.inr x))) r M)
    | _ => False)
  | .astore_n i => sx_g len 1 (match st with
    | .inr x :: r => sx_b (Nat.blt i.val (mv_gL G y)) (k d (pc + 1) (L.set i.val (some (.inr x))) r M)
    | _ => False)
  | .iinc i v => sx_g len 3 (sx_b (Nat.blt i (mv_gL G y)) (sx_ld L i true fun w => match w with
    | .inl x => k d (pc + 3) (L.set i (some (.inl (x + v)))) st M
    | _ => False))
  | .iadd => sx_g len 1 (match st with
    | .inl b :: .inl a :: r => k d (pc + 1) L (.inl (a + b) :: r) M
    | _ => False)
  | .isub => sx_g len 1 (match st with
    | .inl b :: .inl a :: r => k d (pc + 1) L (.inl (a - b) :: r) M
    | _ => False)
  | .imul => sx_g len 1 (match st with
    | .inl b :: .inl a :: r => k d (pc + 1) L (.inl (a * b) :: r) M
    | _ => False)
  | .ineg => sx_g len 1 (match st with
    | .inl a :: r => k d (pc + 1) L (.inl (-a) :: r) M
    | _ => False)
  | .idiv => sx_g len 1 (match st with
    | .inl b :: .inl a :: r => me_r a ∧ me_r b ∧ ¬ b = 0 ∧ k d (pc + 1) L (.inl (a.tdiv b) :: r) M
    | _ => False)
  | .irem => sx_g len 1 (match st with
    | .inl b :: .inl a :: r => me_r a ∧ me_r b ∧ ¬ b = 0 ∧ k d (pc + 1) L (.inl (a - a.tdiv b * b) :: r) M
    | _ => False)
  | .iand => sx_g len 1 (match st with
    | .inl b :: .inl a :: r => k d (pc + 1) L (.inl (Int32.ofInt a &&& Int32.ofInt b).toInt :: r) M
    | _ => False)
  | .ior => sx_g len 1 (match st with
    | .inl b :: .inl a :: r => k d (pc + 1) L (.inl (Int32.ofInt a ||| Int32.ofInt b).toInt :: r) M
    | _ => False)
  | .ixor => sx_g len 1 (match st with
    | .inl b :: .inl a :: r => k d (pc + 1) L (.inl (Int32.ofInt a ^^^ Int32.ofInt b).toInt :: r) M
    | _ => False)
  | .ishl => sx_g len 1 (match st with
    | .inl b :: .inl a :: r => k d (pc + 1) L (.inl (mv_f_ishl (Int32.ofInt a) (Int32.ofInt b)).toInt :: r) M
    | _ => False)
  | .ishr => sx_g len 1 (match st with
    | .inl b :: .inl a :: r => k d (pc + 1) L (.inl (mv_f_ishr (Int32.ofInt a) (Int32.ofInt b)).toInt :: r) M
    | _ => False)
  | .iushr => sx_g len 1 (match st with
    | .inl b :: .inl a :: r => k d (pc + 1) L (.inl (mv_f_iushr (Int32.ofInt a) (Int32.ofInt b)).toInt :: r) M
    | _ => False)
  | .i2b => sx_g len 1 (match st with
    | .inl a :: r => k d (pc + 1) L (.inl (mv_f_i2b (Int32.ofInt a)).toInt :: r) M
    | _ => False)
  | .dup => sx_g len 1 (match st with
    | v :: r => k d (pc + 1) L (v :: v :: r) M
    | _ => False)
  | .pop => sx_g len 1 (match st with
    | _ :: r => k d (pc + 1) L r M
    | _ => False)
  | .dup_x1 => sx_g len 1 (match st with
    | v :: w :: r => k d (pc + 1) L (v :: w :: v :: r) M
    | _ => False)
  | .dup2 => sx_g len 1 (match st with
    | v :: w :: r => k d (pc + 1) L (v :: w :: v :: w :: r) M
    | _ => False)
  | .goto off => sx_g len 3 (sx_t pc off fun t => k d t L st M)
  | .ifCond c off => sx_g len 3 (match st with
    | .inl x :: r => sx_t pc off fun t => me_r x ∧ sx_cd c x 0 (k d t L r M) (k d (pc + 3) L r M)
    | _ => False)
  | .if_icmp c off => sx_g len 3 (match st with
    | .inl b :: .inl a :: r => sx_t pc off fun t => me_r a ∧ me_r b ∧ sx_cd c a b (k d t L r M) (k d (pc + 3) L r M)
    | _ => False)
  | .if_acmp c off => sx_g len 3 (match st with
    | .inr (.inl (p, _)) :: .inr (.inl (q, _)) :: r => sx_t pc off fun t => match c with
      | .eq => (q = p → k d t L r M) ∧ (¬ q = p → k d (pc + 3) L r M)
      | .ne => (¬ q = p → k d t L r M) ∧ (q = p → k d (pc + 3) L r M)
    | _ => False)
  | .ifnull off => sx_g len 3 (match st with
    | .inr (.inl (p, _)) :: r => sx_t pc off fun t => (p = none → k d t L r M) ∧ (¬ p = none → k d (pc + 3) L r M)
    | _ => False)
  | .ifnonnull off => sx_g len 3 (match st with
    | .inr (.inl (p, _)) :: r => sx_t pc off fun t => (¬ p = none → k d t L r M) ∧ (p = none → k d (pc + 3) L r M)
    | _ => False)
  | .tableswitch df lo hi offs => match st with
    | .inl x :: r => sx_b (Nat.beq offs.toList.length (hi - lo + 1).toNat) (me_r x ∧ ((x < lo ∨ hi < x) → sx_t pc df fun t => k d t L r M) ∧ sx_all offs.toList lo fun v off => x = v → sx_t pc off fun t => k d t L r M)
    | _ => False
  | .lookupswitch df ps => match st with
    | .inl x :: r => me_r x ∧ sx_b ((ps.toList.zip (ps.toList.drop 1)).all (fun (a, next) => decide (a.1 < next.1))) (sx_lk ps.toList x (fun off => sx_t pc off fun t => k d t L r M) (sx_t pc df fun t => k d t L r M))
    | _ => False
  | .getfield idx => sx_g len 3 (match st with
    | .inr (.inl (p, q1, q2)) :: r => match mv_gF G y idx with
      | some (ci, j) => sx_b (Nat.beq q1 (2 * ci + 1) && Nat.blt j (mv_gD G ci).length) (me_dr p fun a => match me_ik G ci j with
        | true => k d (pc + 3) L (.inl (me_i M a j) :: r) M
        | false => match sx_fin ci q2 j with
          | some (sg, off, q') => k d (pc + 3) L (.inr (.inl (some (sx_tg a sg off), q')) :: r) M
          | none => match Nat.beq (sx_fk ci j) 15, Nat.beq (sx_fk ci j % 2) 1 with
            | true, _ => (∀ b, me_p M a j = some b → M.2.1 b = (sx_fk ci j, pv)) ∧ k d (pc + 3) L (.inr (.inl (me_p M a j, sx_fk ci j, pv)) :: r) M
            | false, true => k d (pc + 3) L (.inr (.inl (me_p M a j, sx_fk ci j, 0)) :: r) M
            | false, false => ∀ n, (∀ b, me_p M a j = some b → M.2.1 b = (sx_fk ci j, n)) → k d (pc + 3) L (.inr (.inl (me_p M a j, sx_fk ci j, n)) :: r) M)
      | none => False
    | _ => False)
  | .putfield idx => sx_g len 3 (match st with
    | .inl x :: .inr (.inl (p, q1, q2)) :: r => match mv_gF G y idx with
      | some (ci, j) => sx_b (Nat.beq q1 (2 * ci + 1) && Nat.blt j (mv_gD G ci).length && !mv_gP G ci j) (me_dr p fun a => match mv_gT G ci j with
        | some .int => k d (pc + 3) L r (me_sI M a j (Int32.ofInt x))
        | some .boolean => (x = 0 ∨ x = 1) ∧ k d (pc + 3) L r (me_sI M a j (Int32.ofInt x))
        | _ => False)
      | none => False
    | .inr (.inl (v, w1, w2)) :: .inr (.inl (p, q1, q2)) :: r => match mv_gF G y idx with
      | some (ci, j) => sx_b (Nat.beq q1 (2 * ci + 1) && Nat.blt j (mv_gD G ci).length && !mv_gP G ci j && !me_ik G ci j && (match mv_gT G ci j with | some ty => ty.isReference | none => false) && (sx_fin ci q2 j).isNone) (me_dr p fun a => match Nat.beq w1 (sx_fk ci j) with
        | true => k d (pc + 3) L r (me_sP M a j v)
        | false => v = none ∧ k d (pc + 3) L r (me_sP M a j v))
      | none => False
    | _ => False)
  | .iaload => sx_g len 1 (match st with
    | .inl i :: .inr (.inl (p, q1, q2)) :: r => sx_b (Nat.beq q1 0) (me_dr p fun a => 0 ≤ i ∧ i < q2 ∧ k d (pc + 1) L (.inl (me_i M a i.toNat) :: r) M)
    | _ => False)
  | .baload => sx_g len 1 (match st with
    | .inl i :: .inr (.inl (p, q1, q2)) :: r => sx_b (Nat.beq q1 2 || Nat.beq q1 4) (me_dr p fun a => 0 ≤ i ∧ i < q2 ∧ ((if q1 = 2 then -128 ≤ me_i M a i.toNat ∧ me_i M a i.toNat ≤ 127 else me_i M a i.toNat = 0 ∨ me_i M a i.toNat = 1) → k d (pc + 1) L (.inl (me_i M a i.toNat) :: r) M))
    | _ => False)
  | .aaload => sx_g len 1 (match st with
    | .inl i :: .inr (.inl (p, q1, q2)) :: r => sx_b (Nat.beq (q1 % 2) 0 && !Nat.blt (q1 / 2) 3 && (match mv_gY G (q1 / 2) with | some ty => ty.isReference | none => false)) (me_dr p fun a => 0 ≤ i ∧ i < q2 ∧ match Nat.beq (sx_ek (q1 / 2) % 2) 1 && !Nat.beq (sx_ek (q1 / 2)) 15 with
      | true => k d (pc + 1) L (.inr (.inl (me_p M a i.toNat, sx_ek (q1 / 2), 0)) :: r) M
      | false => ∀ n, (∀ b, me_p M a i.toNat = some b → M.2.1 b = (sx_ek (q1 / 2), n)) → k d (pc + 1) L (.inr (.inl (me_p M a i.toNat, sx_ek (q1 / 2), n)) :: r) M)
    | _ => False)
  | .iastore => sx_g len 1 (match st with
    | .inl x :: .inl i :: .inr (.inl (p, q1, q2)) :: r => sx_b (Nat.beq q1 0) (me_dr p fun a => 0 ≤ i ∧ i < q2 ∧ k d (pc + 1) L r (me_sI M a i.toNat (Int32.ofInt x)))
    | _ => False)
  | .bastore => sx_g len 1 (match st with
    | .inl x :: .inl i :: .inr (.inl (p, q1, q2)) :: r => sx_b (Nat.beq q1 2 || Nat.beq q1 4) (me_dr p fun a => 0 ≤ i ∧ i < q2 ∧ k d (pc + 1) L r (me_sI M a i.toNat (me_nar (q1 / 2) x)))
    | _ => False)
  | .arraylength => sx_g len 1 (match st with
    | .inr (.inl (p, q1, q2)) :: r => sx_b (Nat.beq (q1 % 2) 0 && (mv_gY G (q1 / 2)).isSome) (me_dr p fun _ => k d (pc + 1) L (.inl (q2 : Int) :: r) M)
    | _ => False)
  | .ldc idx => sx_g len 2 (match kn y idx with
    | some v => k d (pc + 2) L (.inl v :: st) M
    | none => match mv_gK G y idx with
      | some (.ref a) => sx_b (Nat.blt mv_big a) (k d (pc + 2) L (.inr (.inr (a - (mv_big + 1))) :: st) M)
      | _ => False)
  | .ldc_w idx => sx_g len 3 (match kn y idx with
    | some v => k d (pc + 3) L (.inl v :: st) M
    | none => match mv_gK G y idx with
      | some (.ref a) => sx_b (Nat.blt mv_big a) (k d (pc + 3) L (.inr (.inr (a - (mv_big + 1))) :: st) M)
      | _ => False)
  | .ireturn => sx_g len 1 (match st with
    | [.inl x] => match mv_gR G y with
      | some .int => Q (.inr (some (.inl x))) M
      | some .boolean => (x = 0 ∨ x = 1) ∧ Q (.inr (some (.inl x))) M
      | some .byte => (-128 ≤ x ∧ x ≤ 127) ∧ Q (.inr (some (.inl x))) M
      | _ => False
    | _ => False)
  | .areturn => sx_g len 1 (match st with
    | [.inr (.inl q)] => sx_b (match mv_gR G y with | some ty => ty.isReference | none => false) (Q (.inr (some (.inr (.inl q)))) M)
    | _ => False)
  | .return_ => sx_g len 1 (match st with
    | [] => sx_b (mv_gR G y).isNone (Q (.inr none) M)
    | _ => False)
  | .athrow => sx_g len 1 (match st with
    | .inr (.inl (p, q1, q2)) :: _ => sx_b (Nat.beq q1 (2 * mv_gX G + 1) && Nat.beq q2 0) (me_dr p fun a => match mv_hand (mv_gH G y) pc with
      | none => Q (.inl a) M
      | some (h, _) => k d h L [.inr (.inl (some a, 2 * mv_gX G + 1, 0))] M)
    | _ => False)
  | .invokestatic idx => sx_g len 3 (match mv_gC G y idx with
    | some (kd, z, n) => match Nat.beq kd 7 with
      | true => match st with
        | .inl n :: .inl dp :: .inr (.inl (p1, q11, q12)) :: .inl sp :: .inr (.inl (p0, q01, q02)) :: r => sx_b (Nat.beq q01 q11 && Nat.beq (q01 % 2) 0 && Nat.blt (q01 / 2) 3 && Nat.ble (r.length + 40) 60) (me_dr p0 fun a0 => me_dr p1 fun a1 => 1 ≤ d ∧ 0 ≤ sp ∧ 0 ≤ dp ∧ 0 ≤ n ∧ sp + n ≤ q02 ∧ dp + n ≤ q12 ∧ k d (pc + 3) L r (me_cp M a0 a1 sp.toNat dp.toNat n.toNat))
        | _ => False
      | false => sx_b (Nat.ble kd 1) (sx_b (Nat.ble n st.length) (sx_cl G Q k y d pc 3 z (st.take n).reverse L (st.drop n) M))
    | none => False)
  | .invokevirtual idx => sx_g len 3 (match mv_gC G y idx with
    | some (kd, z, n) => match Nat.beq kd 10, Nat.beq kd 11 with
      | true, _ => match st with
        | .inr (.inr j) :: r => sx_tx G (mv_big + 1 + j) fun tx => sx_b (Nat.ble r.length 8) (4 ≤ d ∧ k d (pc + 3) L (.inl (tx.length : Int) :: r) M)
        | _ => False
      | false, true => match st with
        | .inl i :: .inr (.inr j) :: r => sx_tx G (mv_big + 1 + j) fun tx => sx_b (Nat.ble r.length 8) (4 ≤ d ∧ 0 ≤ i ∧ i < (tx.length : Int) ∧ k d (pc + 3) L (.inl (st_ch (tx.getD i.toNat 0)).toInt :: r) M)
        | _ => False
      | false, false => match st.drop n with
        | .inr (.inl (p, q1, q2)) :: r => sx_b (Nat.ble n st.length && Nat.beq q1 (2 * mv_gW G z + 1) && (Nat.beq kd 2 || Nat.beq kd 3)) (me_dr p fun a => sx_cl G Q k y d pc 3 z (.inr (.inl (some a, q1, q2)) :: (st.take n).reverse) L r M)
        | _ => False
    | none => False)
  | .invokespecial idx => sx_g len 3 (match mv_gC G y idx with
    | some (kd, z, n) => match Nat.beq kd 9 with
      | true => match st with
        | .inr (.inl (p, q1, q2)) :: r => sx_b (Nat.ble (r.length + 12) 60) (me_dr p fun _ => 1 ≤ d ∧ k d (pc + 3) L r M)
        | _ => False
      | false => match st.drop n with
        | .inr (.inl (p, q1, q2)) :: r => sx_b (Nat.ble n st.length && (Nat.beq kd 4 || Nat.beq kd 5)) (me_dr p fun a => sx_cl G Q k y d pc 3 z (.inr (.inl (some a, q1, q2)) :: (st.take n).reverse) L r M)
        | _ => False
    | none => False)
  | .new idx => sx_g len 3 (match mv_gN G y idx with
    | some ci => sx_b (!Nat.beq ci (mv_gX G) && ((sx_finT.getD ci []).all fun l => l.isEmpty) && Nat.blt ci sx_fkT.length) (1 ≤ M.2.2.2.2.1 ∧ mv_gZ G ci ≤ M.2.2.2.2.2 ∧ k d (pc + 3) L (.inr (.inl (some M.1, 2 * ci + 1, 0)) :: st) (me_nw M (2 * ci + 1, 0) (mv_gZ G ci)))
    | none => False)
  | .newarray at_ => sx_g len 2 (match st with
    | .inl n :: r => match mv_prim at_ with
      | some t => 0 ≤ n ∧ n ≤ 134217728 ∧ 1 ≤ M.2.2.2.2.1 ∧ n.toNat ≤ M.2.2.2.2.2 ∧ k d (pc + 2) L (.inr (.inl (some M.1, 2 * t, n.toNat)) :: r) (me_nw M (2 * t, n.toNat) n.toNat)
      | none => False
    | _ => False)
  | .aastore => sx_g len 1 (match st with
    | .inr (.inl (v, w1, w2)) :: .inl i :: .inr (.inl (p, q1, q2)) :: r => sx_b (Nat.beq (q1 % 2) 0 && !Nat.blt (q1 / 2) 3) (me_dr p fun a => 0 ≤ i ∧ i < q2 ∧ match mv_gE G (q1 / 2) with
      | some ce => sx_b (Nat.beq (sx_ek (q1 / 2)) (2 * ce + 1)) (match Nat.beq w1 (2 * ce + 1) with
        | true => k d (pc + 1) L r (me_sP M a i.toNat v)
        | false => v = none ∧ k d (pc + 1) L r (me_sP M a i.toNat v))
      | none => match mv_gB G (q1 / 2) with
        | some t2 => sx_b (Nat.beq (sx_ek (q1 / 2)) (2 * t2) && Nat.beq w1 (2 * t2)) (me_dr v fun b => k d (pc + 1) L r (me_sP M a i.toNat (some b)))
        | none => False)
    | _ => False)
  | _ => False
end SX
