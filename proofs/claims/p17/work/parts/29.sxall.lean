/-! sx holds: all instructions -/
section SXA
variable {G : mv_G} {kn : Nat → Nat → Option Int} {pv y d pc len : Nat} {Q : me_Q} {k : Nat → Nat → List (Option me_V) → List me_V → me_M → Prop} {L : List (Option me_V)} {st : List me_V} {M : me_M}
theorem me_len {i : me_V} {a n : Nat} {t : Nat} {r : List me_V} (h : n ≤ 134217728 → me_W G y d pc L (i :: .inr (.inl (some a, t, n)) :: r) M Q) : me_W G y d pc L (i :: .inr (.inl (some a, t, n)) :: r) M Q := by
  intro fb lb lo hp g1 g2 g3 g4 g5
  obtain ⟨ha, ht⟩ := me_hd (me_al_pop g4)
  have := g5.2.2.2.2.2.1 a ha
  rw [ht] at this
  exact h this fb lb lo hp g1 g2 g3 g4 g5
theorem me_len2 {i j : me_V} {a n : Nat} {t : Nat} {r : List me_V} (h : n ≤ 134217728 → me_W G y d pc L (i :: j :: .inr (.inl (some a, t, n)) :: r) M Q) : me_W G y d pc L (i :: j :: .inr (.inl (some a, t, n)) :: r) M Q := by
  intro fb lb lo hp g1 g2 g3 g4 g5
  obtain ⟨ha, ht⟩ := me_hd (me_al_pop (me_al_pop g4))
  have := g5.2.2.2.2.2.1 a ha
  rw [ht] at this
  exact h this fb lb lo hp g1 g2 g3 g4 g5
theorem sx_all_eq (K : Int → Int → Prop) : ∀ (l : List Int) (lo : Int), sx_all l lo K → ∀ (n : Nat) (off : Int), l[n]? = some off → K (lo + n) off
  | [], _, _, n, off, h => by simp at h
  | o :: r, lo, h, 0, off, h1 => by
    simp at h1
    subst h1
    have h2 := h.1
    rwa [show lo + ((0 : Nat) : Int) = lo by omega]
  | o :: r, lo, h, n + 1, off, h1 => by
    have h2 := sx_all_eq K r (lo + 1) h.2 n off (by simpa using h1)
    rwa [show lo + ((n + 1 : Nat) : Int) = lo + 1 + (n : Int) by omega]
theorem sx_lk_eq {x df : Int} {K : Int → Prop} : ∀ {l : List (Int × Int)}, sx_lk l x K (K df) → K (Op.lookupswitch.offset l df x)
  | [], h => h
  | (v, off) :: r, h => by
    rw [Op.lookupswitch.offset_cons]
    by_cases e : v = x
    · rw [if_pos e]
      exact h.1 e.symm
    · rw [if_neg e]
      exact sx_lk_eq (h.2 fun z => e z.symm)
set_option maxHeartbeats 4000000 in
theorem sx_i_ok (hG : me_hG G) (hT : ∀ a tx, mv_gX2 G a = some tx → tx.length ≤ 2147483647) (hkn : ∀ y idx v, kn y idx = some v → mv_gK G y idx = some (.int (Int32.ofInt v))) (hk : ∀ d pc L st M, k d pc L st M → me_W G y d pc L st M Q) {i : Instr}
    (hI : mv_gI G y pc = some (i, len)) (h : sx_i G kn pv y Q k d pc len L st M i) : me_W G y d pc L st M Q := by
  cases i
  case aconst_null =>
    obtain ⟨e9, h9⟩ := sx_g_eq h
    clear h
    subst e9
    have h := h9
    clear h9
    exact so_psh (v := .inr (.inl (none, 0, 0))) hI rfl trivial (fun lo hp cb sb => rfl) (hk _ _ _ _ _ h)
  case iconst v =>
    obtain ⟨e9, h9⟩ := sx_g_eq h
    clear h
    subst e9
    have h := h9
    clear h9
    exact so_psh (v := .inl v) hI rfl trivial (fun lo hp cb sb => rfl) (hk _ _ _ _ _ h)
  case bipush v =>
    obtain ⟨e9, h9⟩ := sx_g_eq h
    clear h
    subst e9
    have h := h9
    clear h9
    obtain ⟨h1, h⟩ := sx_b_eq h
    rw [Bool.and_eq_true] at h1
    exact so_psh (v := .inl v) hI rfl trivial (fun lo hp cb sb => by
      show mv_g 2 2 (mv_push pc lo _ hp cb sb 2 (.int (Int8.ofInt v).toInt32)) = _
      rw [sx_8 (of_decide_eq_true h1.1) (of_decide_eq_true h1.2)]
      rfl) (hk _ _ _ _ _ h)
  case sipush v =>
    obtain ⟨e9, h9⟩ := sx_g_eq h
    clear h
    subst e9
    have h := h9
    clear h9
    obtain ⟨h1, h⟩ := sx_b_eq h
    rw [Bool.and_eq_true] at h1
    exact so_psh (v := .inl v) hI rfl trivial (fun lo hp cb sb => by
      show mv_g 3 3 (mv_push pc lo _ hp cb sb 3 (.int (Int16.ofInt v).toInt32)) = _
      rw [sx_16 (of_decide_eq_true h1.1) (of_decide_eq_true h1.2)]
      rfl) (hk _ _ _ _ _ h)
  case iload q =>
    obtain ⟨e9, h9⟩ := sx_g_eq h
    clear h
    subst e9
    have h := h9
    clear h9
    obtain ⟨v, h1, h2, h3, -⟩ := sx_ld_eq h
    exact so_ld (q := q) (b := mv_int) hI rfl h1 (h3 rfl) (fun lo hp cb sb => rfl) (hk _ _ _ _ _ h2)
  case iload_n q =>
    obtain ⟨e9, h9⟩ := sx_g_eq h
    clear h
    subst e9
    have h := h9
    clear h9
    obtain ⟨v, h1, h2, h3, -⟩ := sx_ld_eq h
    exact so_ld (q := q.val) (b := mv_int) hI rfl h1 (h3 rfl) (fun lo hp cb sb => rfl) (hk _ _ _ _ _ h2)
  case aload q =>
    obtain ⟨e9, h9⟩ := sx_g_eq h
    clear h
    subst e9
    have h := h9
    clear h9
    obtain ⟨v, h1, h2, -, h3⟩ := sx_ld_eq h
    exact so_ld (q := q) (b := mv_rfv) hI rfl h1 (h3 rfl) (fun lo hp cb sb => rfl) (hk _ _ _ _ _ h2)
  case aload_n q =>
    obtain ⟨e9, h9⟩ := sx_g_eq h
    clear h
    subst e9
    have h := h9
    clear h9
    obtain ⟨v, h1, h2, -, h3⟩ := sx_ld_eq h
    exact so_ld (q := q.val) (b := mv_rfv) hI rfl h1 (h3 rfl) (fun lo hp cb sb => rfl) (hk _ _ _ _ _ h2)
  case istore q =>
    obtain ⟨e9, h9⟩ := sx_g_eq h
    clear h
    subst e9
    have h := h9
    clear h9
    rcases st with _ | ⟨x | x, r⟩
    · exact h.elim
    · obtain ⟨h1, h⟩ := sx_b_eq h
      exact so_sto (q := q) (b := mv_int) hI rfl h1 rfl (fun lo hp cb sb => rfl) (hk _ _ _ _ _ h)
    · exact h.elim
  case istore_n q =>
    obtain ⟨e9, h9⟩ := sx_g_eq h
    clear h
    subst e9
    have h := h9
    clear h9
    rcases st with _ | ⟨x | x, r⟩
    · exact h.elim
    · obtain ⟨h1, h⟩ := sx_b_eq h
      exact so_sto (q := q.val) (b := mv_int) hI rfl h1 rfl (fun lo hp cb sb => rfl) (hk _ _ _ _ _ h)
    · exact h.elim
  case astore q =>
    obtain ⟨e9, h9⟩ := sx_g_eq h
    clear h
    subst e9
    have h := h9
    clear h9
    rcases st with _ | ⟨x | x, r⟩
    · exact h.elim
    · exact h.elim
    · obtain ⟨h1, h⟩ := sx_b_eq h
      exact so_sto (q := q) (b := mv_rfv) hI rfl h1 (by rcases x with ⟨_ | a, w⟩ | j <;> rfl) (fun lo hp cb sb => rfl) (hk _ _ _ _ _ h)
  case astore_n q =>
    obtain ⟨e9, h9⟩ := sx_g_eq h
    clear h
    subst e9
    have h := h9
    clear h9
    rcases st with _ | ⟨x | x, r⟩
    · exact h.elim
    · exact h.elim
    · obtain ⟨h1, h⟩ := sx_b_eq h
      exact so_sto (q := q.val) (b := mv_rfv) hI rfl h1 (by rcases x with ⟨_ | a, w⟩ | j <;> rfl) (fun lo hp cb sb => rfl) (hk _ _ _ _ _ h)
  case iinc q v =>
    obtain ⟨e9, h9⟩ := sx_g_eq h
    clear h
    subst e9
    have h := h9
    clear h9
    obtain ⟨h0, h⟩ := sx_b_eq h
    obtain ⟨w, h1, h2, h3, -⟩ := sx_ld_eq h
    rcases w with x | w
    · refine me_st (L' := L.set q (some (.inl (x + v)))) (st' := st) hI rfl (fun _ h => me_al_set (me_al_psh (v := .inl (x + v)) h trivial)) (fun lo hp g3 _ _ => ⟨(q, me_v (.inl (x + v))) :: mv_keep q lo, ?_, me_lo_set g3⟩) (hk _ _ _ _ _ h2)
      obtain ⟨j, hj⟩ := g3 q _ h1
      show mv_inc G y pc lo (st.map me_v) hp _ _ q v 3 = _
      unfold mv_inc
      rw [hj]
      show (if q < mv_gL G y then some (Sum.inl (pc + 3, (q, .int (Int32.ofInt x + Int32.ofInt v)) :: mv_keep q lo, st.map me_v, hp, _, _)) else none) = _
      rw [if_pos (show q < mv_gL G y from Nat.le_of_ble_eq_true h0), ← Int32.ofInt_add]
      rfl
    · exact h2.elim
  case iadd =>
    obtain ⟨e9, h9⟩ := sx_g_eq h
    clear h
    subst e9
    have h := h9
    clear h9
    rcases st with _ | ⟨b | b, _ | ⟨a | a, r⟩⟩ <;> first | exact h.elim | exact so_bin (f := mv_f_iadd) hI rfl (Int32.ofInt_add ..).symm (fun lo st hp cb sb => rfl) (hk _ _ _ _ _ h)
  case isub =>
    obtain ⟨e9, h9⟩ := sx_g_eq h
    clear h
    subst e9
    have h := h9
    clear h9
    rcases st with _ | ⟨b | b, _ | ⟨a | a, r⟩⟩ <;> first | exact h.elim | exact so_bin (f := mv_f_isub) hI rfl (Int32.ofInt_sub ..).symm (fun lo st hp cb sb => rfl) (hk _ _ _ _ _ h)
  case imul =>
    obtain ⟨e9, h9⟩ := sx_g_eq h
    clear h
    subst e9
    have h := h9
    clear h9
    rcases st with _ | ⟨b | b, _ | ⟨a | a, r⟩⟩ <;> first | exact h.elim | exact so_bin (f := mv_f_imul) hI rfl (Int32.ofInt_mul ..).symm (fun lo st hp cb sb => rfl) (hk _ _ _ _ _ h)
  case ineg =>
    obtain ⟨e9, h9⟩ := sx_g_eq h
    clear h
    subst e9
    have h := h9
    clear h9
    rcases st with _ | ⟨a | a, r⟩ <;> first | exact h.elim | exact so_un (f := mv_f_ineg) hI rfl (Int32.ofInt_neg ..).symm (fun lo st hp cb sb => rfl) (hk _ _ _ _ _ h)
  case iand =>
    obtain ⟨e9, h9⟩ := sx_g_eq h
    clear h
    subst e9
    have h := h9
    clear h9
    rcases st with _ | ⟨b | b, _ | ⟨a | a, r⟩⟩ <;> first | exact h.elim | exact so_bin (f := mv_f_iand) hI rfl (me_of _).symm (fun lo st hp cb sb => rfl) (hk _ _ _ _ _ h)
  case ior =>
    obtain ⟨e9, h9⟩ := sx_g_eq h
    clear h
    subst e9
    have h := h9
    clear h9
    rcases st with _ | ⟨b | b, _ | ⟨a | a, r⟩⟩ <;> first | exact h.elim | exact so_bin (f := mv_f_ior) hI rfl (me_of _).symm (fun lo st hp cb sb => rfl) (hk _ _ _ _ _ h)
  case ixor =>
    obtain ⟨e9, h9⟩ := sx_g_eq h
    clear h
    subst e9
    have h := h9
    clear h9
    rcases st with _ | ⟨b | b, _ | ⟨a | a, r⟩⟩ <;> first | exact h.elim | exact so_bin (f := mv_f_ixor) hI rfl (me_of _).symm (fun lo st hp cb sb => rfl) (hk _ _ _ _ _ h)
  case ishl =>
    obtain ⟨e9, h9⟩ := sx_g_eq h
    clear h
    subst e9
    have h := h9
    clear h9
    rcases st with _ | ⟨b | b, _ | ⟨a | a, r⟩⟩ <;> first | exact h.elim | exact so_bin (f := mv_f_ishl) hI rfl (me_of _).symm (fun lo st hp cb sb => rfl) (hk _ _ _ _ _ h)
  case ishr =>
    obtain ⟨e9, h9⟩ := sx_g_eq h
    clear h
    subst e9
    have h := h9
    clear h9
    rcases st with _ | ⟨b | b, _ | ⟨a | a, r⟩⟩ <;> first | exact h.elim | exact so_bin (f := mv_f_ishr) hI rfl (me_of _).symm (fun lo st hp cb sb => rfl) (hk _ _ _ _ _ h)
  case iushr =>
    obtain ⟨e9, h9⟩ := sx_g_eq h
    clear h
    subst e9
    have h := h9
    clear h9
    rcases st with _ | ⟨b | b, _ | ⟨a | a, r⟩⟩ <;> first | exact h.elim | exact so_bin (f := mv_f_iushr) hI rfl (me_of _).symm (fun lo st hp cb sb => rfl) (hk _ _ _ _ _ h)
  case i2b =>
    obtain ⟨e9, h9⟩ := sx_g_eq h
    clear h
    subst e9
    have h := h9
    clear h9
    rcases st with _ | ⟨a | a, r⟩ <;> first | exact h.elim | exact so_un (f := mv_f_i2b) hI rfl (me_of _).symm (fun lo st hp cb sb => rfl) (hk _ _ _ _ _ h)
  case idiv =>
    obtain ⟨e9, h9⟩ := sx_g_eq h
    clear h
    subst e9
    have h := h9
    clear h9
    rcases st with _ | ⟨b | b, _ | ⟨a | a, r⟩⟩ <;> try exact h.elim
    obtain ⟨h1, h2, h3, h⟩ := h
    refine me_st hI rfl (fun _ h => me_al_psh (v := .inl (a.tdiv b)) (me_al_pop (me_al_pop h)) trivial) (fun lo hp g3 _ _ => ⟨lo, ?_, g3⟩) (hk _ _ _ _ _ h)
    show mv_g 1 1 (mv_dvd pc lo (.int (Int32.ofInt b) :: .int (Int32.ofInt a) :: r.map me_v) hp _ _ mv_f_idiv) = _
    unfold mv_g mv_dvd
    rw [if_pos rfl]
    dsimp only
    rw [if_neg (fun z : Int32.ofInt b = 0 => h3 ((me_eq h2 ⟨by decide, by decide⟩).mp (show Int32.ofInt b = Int32.ofInt 0 from z)))]
    show some (Sum.inl (pc + 1, lo, Value.int (Int32.ofInt a / Int32.ofInt b) :: r.map me_v, hp, _, _)) = _
    rw [← sx_div h1 h2]
    rfl
  case irem =>
    obtain ⟨e9, h9⟩ := sx_g_eq h
    clear h
    subst e9
    have h := h9
    clear h9
    rcases st with _ | ⟨b | b, _ | ⟨a | a, r⟩⟩ <;> try exact h.elim
    obtain ⟨h1, h2, h3, h⟩ := h
    refine me_st hI rfl (fun _ h => me_al_psh (v := .inl (a - a.tdiv b * b)) (me_al_pop (me_al_pop h)) trivial) (fun lo hp g3 _ _ => ⟨lo, ?_, g3⟩) (hk _ _ _ _ _ h)
    show mv_g 1 1 (mv_dvd pc lo (.int (Int32.ofInt b) :: .int (Int32.ofInt a) :: r.map me_v) hp _ _ mv_f_irem) = _
    unfold mv_g mv_dvd
    rw [if_pos rfl]
    dsimp only
    rw [if_neg (fun z : Int32.ofInt b = 0 => h3 ((me_eq h2 ⟨by decide, by decide⟩).mp (show Int32.ofInt b = Int32.ofInt 0 from z)))]
    show some (Sum.inl (pc + 1, lo, Value.int (Int32.ofInt a - Int32.ofInt a / Int32.ofInt b * Int32.ofInt b) :: r.map me_v, hp, _, _)) = _
    rw [← sx_div h1 h2, ← Int32.ofInt_mul, ← Int32.ofInt_sub]
    rfl
  case dup =>
    obtain ⟨e9, h9⟩ := sx_g_eq h
    clear h
    subst e9
    have h := h9
    clear h9
    rcases st with _ | ⟨v, r⟩
    · exact h.elim
    · refine me_st hI rfl (fun _ h => me_al_psh h (me_hd h)) (fun lo hp g3 _ _ => ⟨lo, ?_, g3⟩) (hk _ _ _ _ _ h)
      show mv_g 1 1 (mv_dup pc lo (me_v v :: r.map me_v) hp _ _) = _
      unfold mv_g mv_dup
      rw [if_pos rfl]
      dsimp only
      rw [if_pos (me_v_cat v)]
      rfl
  case pop =>
    obtain ⟨e9, h9⟩ := sx_g_eq h
    clear h
    subst e9
    have h := h9
    clear h9
    rcases st with _ | ⟨v, r⟩
    · exact h.elim
    · refine me_st hI rfl (fun _ h => me_al_pop h) (fun lo hp g3 _ _ => ⟨lo, ?_, g3⟩) (hk _ _ _ _ _ h)
      show mv_g 1 1 (mv_pop pc lo (me_v v :: r.map me_v) hp _ _) = _
      unfold mv_g mv_pop
      rw [if_pos rfl]
      dsimp only
      rw [if_pos (me_v_cat v)]
  case dup_x1 =>
    obtain ⟨e9, h9⟩ := sx_g_eq h
    clear h
    subst e9
    have h := h9
    clear h9
    rcases st with _ | ⟨v, _ | ⟨w, r⟩⟩
    · exact h.elim
    · exact h.elim
    · refine me_st hI rfl (fun _ h => me_al_psh (me_al_psh (me_al_psh (me_al_pop (me_al_pop h)) (me_hd h)) (me_hd (me_al_pop h))) (me_hd h)) (fun lo hp g3 _ _ => ⟨lo, ?_, g3⟩) (hk _ _ _ _ _ h)
      show mv_g 1 1 (mv_dupx pc lo (me_v v :: me_v w :: r.map me_v) hp _ _) = _
      unfold mv_g mv_dupx
      rw [if_pos rfl]
      dsimp only
      rw [if_pos ⟨me_v_cat v, me_v_cat w⟩]
      rfl
  case dup2 =>
    obtain ⟨e9, h9⟩ := sx_g_eq h
    clear h
    subst e9
    have h := h9
    clear h9
    rcases st with _ | ⟨v, _ | ⟨w, r⟩⟩
    · exact h.elim
    · exact h.elim
    · refine me_st hI rfl (fun _ h => me_al_psh (me_al_psh h (me_hd (me_al_pop h))) (me_hd h)) (fun lo hp g3 _ _ => ⟨lo, ?_, g3⟩) (hk _ _ _ _ _ h)
      show mv_g 1 1 (mv_dup2 pc lo (me_v v :: me_v w :: r.map me_v) hp _ _) = _
      unfold mv_g mv_dup2
      rw [if_pos rfl]
      dsimp only
      rw [if_pos ⟨me_v_cat v, me_v_cat w⟩]
      rfl
  case goto off =>
    obtain ⟨e9, h9⟩ := sx_g_eq h
    clear h
    subst e9
    have h := h9
    clear h9
    obtain ⟨t, ht, h⟩ := sx_t_eq h
    refine so_jmp (t := t) (st' := st) hI rfl (fun v hv => hv) (fun lo hp cb sb _ _ => ?_) (hk _ _ _ _ _ h)
    show mv_g 3 3 (mv_jump pc lo hp cb sb off true (st.map me_v)) = _
    unfold mv_g mv_jump
    rw [if_pos rfl, ht]
    rfl
  case ifCond c off =>
    obtain ⟨e9, h9⟩ := sx_g_eq h
    clear h
    subst e9
    have h := h9
    clear h9
    rcases st with _ | ⟨x | x, r⟩ <;> try exact h.elim
    obtain ⟨t, ht, hx, h⟩ := sx_t_eq h
    obtain ⟨h1, h2⟩ := sx_cd_eq h
    exact so_cond hI ht hx (fun z => hk _ _ _ _ _ (h1 z)) (fun z => hk _ _ _ _ _ (h2 z))
  case if_icmp c off =>
    obtain ⟨e9, h9⟩ := sx_g_eq h
    clear h
    subst e9
    have h := h9
    clear h9
    rcases st with _ | ⟨b | b, _ | ⟨a | a, r⟩⟩ <;> try exact h.elim
    obtain ⟨t, ht, ha, hb, h⟩ := sx_t_eq h
    obtain ⟨h1, h2⟩ := sx_cd_eq h
    exact so_icmp hI ht ha hb (fun z => hk _ _ _ _ _ (h1 z)) (fun z => hk _ _ _ _ _ (h2 z))
  case if_acmp c off =>
    obtain ⟨e9, h9⟩ := sx_g_eq h
    clear h
    subst e9
    have h := h9
    clear h9
    rcases st with _ | ⟨b | ⟨p1, w1⟩ | b, _ | ⟨a | ⟨p2, w2⟩ | a, r⟩⟩ <;> try exact h.elim
    obtain ⟨t, ht, h⟩ := sx_t_eq h
    cases c
    · exact so_acmp hI ht (fun z => hk _ _ _ _ _ (h.1 z)) (fun z => hk _ _ _ _ _ (h.2 z))
    · exact so_acmp hI ht (fun z => hk _ _ _ _ _ (h.1 z)) (fun z => hk _ _ _ _ _ (h.2 (Classical.not_not.mp z)))
  case ifnull off =>
    obtain ⟨e9, h9⟩ := sx_g_eq h
    clear h
    subst e9
    have h := h9
    clear h9
    rcases st with _ | ⟨x | ⟨p, w⟩ | x, r⟩ <;> try exact h.elim
    obtain ⟨t, ht, h⟩ := sx_t_eq h
    exact so_null (b := true) hI rfl (fun lo s hp cb sb => rfl) ht (fun z => hk _ _ _ _ _ (h.1 (z.mp rfl))) (fun z => hk _ _ _ _ _ (h.2 fun e => z ⟨fun _ => e, fun _ => rfl⟩))
  case ifnonnull off =>
    obtain ⟨e9, h9⟩ := sx_g_eq h
    clear h
    subst e9
    have h := h9
    clear h9
    rcases st with _ | ⟨x | ⟨p, w⟩ | x, r⟩ <;> try exact h.elim
    obtain ⟨t, ht, h⟩ := sx_t_eq h
    exact so_null (b := false) hI rfl (fun lo s hp cb sb => rfl) ht (fun z => hk _ _ _ _ _ (h.1 fun e => by have := z.mpr e; cases this)) (fun z => hk _ _ _ _ _ (h.2 (Classical.byContradiction fun e => z ⟨(fun q => by cases q), fun q => absurd q e⟩)))
  case tableswitch df lo hi offs =>
    rcases st with _ | ⟨x | x, r⟩ <;> try exact h.elim
    obtain ⟨hs, hx, h1, h2⟩ := sx_b_eq h
    have ex : (Int32.ofInt x).toInt = x := me_w_eq hx
    by_cases hc : x < lo ∨ hi < x
    · obtain ⟨t, ht, h3⟩ := sx_t_eq (h1 hc)
      refine so_jmp (t := t) (st' := r) hI rfl (fun v hv => List.mem_cons_of_mem _ hv) (fun l9 hp cb sb _ _ => ?_) (hk _ _ _ _ _ h3)
      show mv_tsw pc l9 (.int (Int32.ofInt x) :: r.map me_v) hp cb sb df lo hi offs = _
      unfold mv_tsw
      dsimp only
      rw [ex, if_pos hc, ht]
    · have hs := Nat.eq_of_beq_eq_true hs
      have hlt : (x - lo).toNat < offs.toList.length := by omega
      have hg := List.getElem?_eq_getElem hlt
      have h3 := sx_all_eq (fun v off => x = v → sx_t pc off fun t => k d t L r M) offs.toList lo h2 (x - lo).toNat _ hg (by omega)
      obtain ⟨t, ht, h3⟩ := sx_t_eq h3
      refine so_jmp (t := t) (st' := r) hI rfl (fun v hv => List.mem_cons_of_mem _ hv) (fun l9 hp cb sb _ _ => ?_) (hk _ _ _ _ _ h3)
      show mv_tsw pc l9 (.int (Int32.ofInt x) :: r.map me_v) hp cb sb df lo hi offs = _
      unfold mv_tsw
      dsimp only
      rw [ex, if_neg hc, ← Array.getElem?_toList, hg]
      dsimp only
      rw [ht]
  case lookupswitch df ps =>
    rcases st with _ | ⟨x | x, r⟩ <;> try exact h.elim
    obtain ⟨hx, h⟩ := h
    obtain ⟨hs, h⟩ := sx_b_eq h
    have ex : (Int32.ofInt x).toInt = x := me_w_eq hx
    obtain ⟨t, ht, h3⟩ := sx_t_eq (sx_lk_eq (K := fun off => sx_t pc off fun t => k d t L r M) h)
    refine so_jmp (t := t) (st' := r) hI rfl (fun v hv => List.mem_cons_of_mem _ hv) (fun l9 hp cb sb _ _ => ?_) (hk _ _ _ _ _ h3)
    show mv_lsw pc l9 (.int (Int32.ofInt x) :: r.map me_v) hp cb sb df ps = _
    unfold mv_lsw
    dsimp only
    rw [if_pos hs, ex, ht]
  case getfield idx =>
    obtain ⟨e9, h9⟩ := sx_g_eq h
    clear h
    subst e9
    rcases st with _ | ⟨x | ⟨p, q1, q2⟩ | x, r⟩ <;> try exact h9.elim
    dsimp only at h9
    split at h9
    · rename_i ci j hF
      obtain ⟨hb, h9⟩ := sx_b_eq h9
      simp only [Bool.and_eq_true] at hb
      have hq : q1 = 2 * ci + 1 := Nat.eq_of_beq_eq_true hb.1
      have hj : j < (mv_gD G ci).length := Nat.le_of_ble_eq_true hb.2
      obtain ⟨a, rfl, h9⟩ := me_dr_eq h9
      split at h9
      · rename_i hi
        exact me_geti hI hF hj hi hq (hk _ _ _ _ _ h9)
      · rename_i hi
        split at h9
        · rename_i sg off q' hf
          exact me_getf hI hF hj hi hq hf (hk _ _ _ _ _ h9)
        · split at h9
          · exact me_getpv hI hF hj hi hq h9.1 (hk _ _ _ _ _ h9.2)
          · rename_i e1 e2
            exact me_getp0 hI hF hj hi hq (Nat.eq_of_beq_eq_true e2) (fun z => by rw [z] at e1; cases e1) (hk _ _ _ _ _ h9)
          · exact me_getp hI hF hj hi hq fun n hn => hk _ _ _ _ _ (h9 n hn)
    · exact h9.elim
  case putfield idx =>
    obtain ⟨e9, h9⟩ := sx_g_eq h
    clear h
    subst e9
    rcases st with _ | ⟨x | ⟨v, w⟩ | x, _ | ⟨z | ⟨p, q1, q2⟩ | z, r⟩⟩ <;> try exact h9.elim
    · dsimp only at h9
      split at h9
      · rename_i ci j hF
        obtain ⟨hb, h9⟩ := sx_b_eq h9
        simp only [Bool.and_eq_true, Bool.not_eq_true'] at hb
        have hq : q1 = 2 * ci + 1 := Nat.eq_of_beq_eq_true hb.1.1
        have hj : j < (mv_gD G ci).length := Nat.le_of_ble_eq_true hb.1.2
        obtain ⟨a, rfl, h9⟩ := me_dr_eq h9
        split at h9
        · rename_i hT
          exact me_puti hI hF hj (by unfold me_ik; rw [hT]) hq hT hb.2 (Or.inl rfl) (hk _ _ _ _ _ h9)
        · rename_i hT
          exact me_puti hI hF hj (by unfold me_ik; rw [hT]) hq hT hb.2 (Or.inr ⟨rfl, h9.1⟩) (hk _ _ _ _ _ h9.2)
        · exact h9.elim
      · exact h9.elim
    · dsimp only at h9
      split at h9
      · rename_i ci j hF
        obtain ⟨hb, h9⟩ := sx_b_eq h9
        simp only [Bool.and_eq_true, Bool.not_eq_true', Option.isNone_iff_eq_none] at hb
        obtain ⟨⟨⟨⟨⟨b1, b2⟩, b3⟩, b4⟩, b5⟩, b6⟩ := hb
        have hq : q1 = 2 * ci + 1 := Nat.eq_of_beq_eq_true b1
        have hj : j < (mv_gD G ci).length := Nat.le_of_ble_eq_true b2
        split at b5
        · rename_i ty hT
          obtain ⟨a, rfl, h9⟩ := me_dr_eq h9
          split at h9
          · rename_i e1
            exact me_putp hI hF hj b4 hq hT b5 b3 (Or.inr (Nat.eq_of_beq_eq_true e1)) b6 (hk _ _ _ _ _ h9)
          · exact me_putp hI hF hj b4 hq hT b5 b3 (Or.inl h9.1) b6 (hk _ _ _ _ _ h9.2)
        · cases b5
      · exact h9.elim
  case iaload =>
    obtain ⟨e9, h9⟩ := sx_g_eq h
    clear h
    subst e9
    rcases st with _ | ⟨i | ⟨v, w⟩ | i, _ | ⟨z | ⟨p, q1, q2⟩ | z, r⟩⟩ <;> try exact h9.elim
    obtain ⟨hb, h9⟩ := sx_b_eq h9
    have hq : q1 = 0 := Nat.eq_of_beq_eq_true hb
    subst hq
    obtain ⟨a, rfl, h0, h1, h9⟩ := me_dr_eq h9
    exact me_len fun hl => me_iald hI hG h0 h1 ⟨by omega, by have h1 : i < (q2 : Int) := h1; omega⟩ (hk _ _ _ _ _ h9)
  case baload =>
    obtain ⟨e9, h9⟩ := sx_g_eq h
    clear h
    subst e9
    rcases st with _ | ⟨i | ⟨v, w⟩ | i, _ | ⟨z | ⟨p, q1, q2⟩ | z, r⟩⟩ <;> try exact h9.elim
    obtain ⟨hb, h9⟩ := sx_b_eq h9
    obtain ⟨a, rfl, h0, h1, h9⟩ := me_dr_eq h9
    rw [Bool.or_eq_true] at hb
    have h1 : i < (q2 : Int) := h1
    obtain ⟨t, h3, rfl⟩ : ∃ t, (t = 1 ∨ t = 2) ∧ q1 = 2 * t := by
      rcases hb with hb | hb
      · exact ⟨1, Or.inl rfl, Nat.eq_of_beq_eq_true hb⟩
      · exact ⟨2, Or.inr rfl, Nat.eq_of_beq_eq_true hb⟩
    intro fb lb lo hp g1 g2 g3 g4 g5
    obtain ⟨ha, ht⟩ := me_hd (me_al_pop g4)
    have hl := g5.2.2.2.2.2.1 a ha
    rw [ht] at hl
    have hby := g5.2.2.2.2.2.2 a ha i.toNat
    rw [ht] at hby
    refine me_bald hI h3 h0 h1 ⟨by omega, by have : q2 ≤ 134217728 := hl; omega⟩ (hk _ _ _ _ _ (h9 ?_)) fb lb lo hp g1 g2 g3 g4 g5
    rcases h3 with rfl | rfl
    · rw [if_pos rfl]
      have z := hby.1 rfl
      have z : (decide ((-128 : Int32) ≤ M.2.2.1 a i.toNat) && decide (M.2.2.1 a i.toNat ≤ 127)) = true := z
      rw [Bool.and_eq_true, decide_eq_true_iff, decide_eq_true_iff, Int32.le_iff_toInt_le, Int32.le_iff_toInt_le] at z
      exact z
    · rw [if_neg (by show ¬ 2 * 2 = 2; omega)]
      have z := hby.2 rfl
      have z : (M.2.2.1 a i.toNat == 0 || M.2.2.1 a i.toNat == 1) = true := z
      rw [Bool.or_eq_true, beq_iff_eq, beq_iff_eq] at z
      rcases z with z | z
      · exact Or.inl (by unfold me_i; rw [z]; rfl)
      · exact Or.inr (by unfold me_i; rw [z]; rfl)
  case aaload =>
    obtain ⟨e9, h9⟩ := sx_g_eq h
    clear h
    subst e9
    rcases st with _ | ⟨i | ⟨v, w⟩ | i, _ | ⟨z | ⟨p, q1, q2⟩ | z, r⟩⟩ <;> try exact h9.elim
    obtain ⟨hb, h8⟩ := sx_b_eq h9
    clear h9
    obtain ⟨a, rfl, h0, h1, h9⟩ := me_dr_eq h8
    clear h8
    simp only [Bool.and_eq_true, Bool.not_eq_true'] at hb
    obtain ⟨⟨b1, b2⟩, b3⟩ := hb
    have h1 : i < (q2 : Int) := h1
    have b1 : q1 % 2 = 0 := Nat.eq_of_beq_eq_true b1
    obtain ⟨t, rfl⟩ : ∃ t, q1 = 2 * t := ⟨q1 / 2, by omega⟩
    have et : 2 * t / 2 = t := by omega
    rw [et] at b2 b3 h9
    have b2 : ¬ t < 3 := fun z => by
      have z2 : Nat.blt t 3 = true := Nat.ble_eq_true_of_le (show t + 1 ≤ 3 from z)
      rw [z2] at b2
      cases b2
    split at b3
    · rename_i ty hY
      refine me_len fun hl => ?_
      split at h9
      · rename_i e
        rw [Bool.and_eq_true, Bool.not_eq_true'] at e
        exact me_aald0 hI b2 hY b3 h0 h1 ⟨by omega, by omega⟩ (Nat.eq_of_beq_eq_true e.1) (fun z => by rw [z] at e; cases e.2) (hk _ _ _ _ _ h9)
      · exact me_aald hI b2 hY b3 h0 h1 ⟨by omega, by omega⟩ fun m hm => hk _ _ _ _ _ (h9 m hm)
    · cases b3
  case iastore =>
    obtain ⟨e9, h9⟩ := sx_g_eq h
    clear h
    subst e9
    rcases st with _ | ⟨x | ⟨v, w⟩ | x, _ | ⟨i | ⟨v, w⟩ | i, _ | ⟨z | ⟨p, q1, q2⟩ | z, r⟩⟩⟩ <;> try exact h9.elim
    obtain ⟨hb, h9⟩ := sx_b_eq h9
    have hq : q1 = 0 := Nat.eq_of_beq_eq_true hb
    subst hq
    obtain ⟨a, rfl, h0, h1, h9⟩ := me_dr_eq h9
    have h1 : i < (q2 : Int) := h1
    exact me_len2 fun hl => me_iast hI h0 h1 ⟨by omega, by omega⟩ (hk _ _ _ _ _ h9)
  case bastore =>
    obtain ⟨e9, h9⟩ := sx_g_eq h
    clear h
    subst e9
    rcases st with _ | ⟨x | ⟨v, w⟩ | x, _ | ⟨i | ⟨v, w⟩ | i, _ | ⟨z | ⟨p, q1, q2⟩ | z, r⟩⟩⟩ <;> try exact h9.elim
    obtain ⟨hb, h9⟩ := sx_b_eq h9
    obtain ⟨a, rfl, h0, h1, h9⟩ := me_dr_eq h9
    rw [Bool.or_eq_true] at hb
    have h1 : i < (q2 : Int) := h1
    obtain ⟨t, h3, rfl⟩ : ∃ t, (t = 1 ∨ t = 2) ∧ q1 = 2 * t := by
      rcases hb with hb | hb
      · exact ⟨1, Or.inl rfl, Nat.eq_of_beq_eq_true hb⟩
      · exact ⟨2, Or.inr rfl, Nat.eq_of_beq_eq_true hb⟩
    have h9 : k d (pc + 1) L r (me_sI M a i.toNat (me_nar (2 * t / 2) x)) := h9
    rw [show 2 * t / 2 = t by omega] at h9
    exact me_len2 fun hl => me_bast hI h3 h0 h1 ⟨by omega, by omega⟩ (hk _ _ _ _ _ h9)
  case arraylength =>
    obtain ⟨e9, h9⟩ := sx_g_eq h
    clear h
    subst e9
    rcases st with _ | ⟨i | ⟨p, q1, q2⟩ | i, r⟩ <;> try exact h9.elim
    obtain ⟨hb, h8⟩ := sx_b_eq h9
    clear h9
    obtain ⟨a, rfl, h7⟩ := me_dr_eq h8
    clear h8
    rw [Bool.and_eq_true] at hb
    have b1 : q1 % 2 = 0 := Nat.eq_of_beq_eq_true hb.1
    obtain ⟨t, rfl⟩ : ∃ t, q1 = 2 * t := ⟨q1 / 2, by omega⟩
    obtain ⟨ty, hY⟩ := Option.isSome_iff_exists.mp hb.2
    have hY : mv_gY G (2 * t / 2) = some ty := hY
    rw [show 2 * t / 2 = t by omega] at hY
    exact me_alen hI hG hY (hk _ _ _ _ _ h7)
  case ireturn =>
    obtain ⟨e9, h9⟩ := sx_g_eq h
    clear h
    subst e9
    rcases st with _ | ⟨x | x, _ | ⟨w, r⟩⟩ <;> try exact h9.elim
    dsimp only at h9
    split at h9
    · rename_i hR
      exact so_iret hI hR rfl h9
    · rename_i hR
      refine so_iret hI hR ?_ h9.2
      rcases h9.1 with rfl | rfl <;> rfl
    · rename_i hR
      refine so_iret hI hR ?_ h9.2
      show Value.int ((Int32.ofInt x).toInt8.toInt32) = _
      congr 1
      apply Int32.toInt_inj.mp
      have ex : (Int32.ofInt x).toInt = x := me_w_eq ⟨by omega, by omega⟩
      rw [Int8.toInt_toInt32, Int32.toInt_toInt8, ex]
      exact Int.bmod_eq_of_le (by omega) (by omega)
    · exact h9.elim
  case areturn =>
    obtain ⟨e9, h9⟩ := sx_g_eq h
    clear h
    subst e9
    rcases st with _ | ⟨x | q | x, _ | ⟨w, r⟩⟩ <;> try exact h9.elim
    obtain ⟨hb, h9⟩ := sx_b_eq h9
    split at hb
    · rename_i ty hR
      exact so_aret hI hR hb h9
    · cases hb
  case return_ =>
    obtain ⟨e9, h9⟩ := sx_g_eq h
    clear h
    subst e9
    rcases st with _ | ⟨w, r⟩ <;> try exact h9.elim
    obtain ⟨hb, h9⟩ := sx_b_eq h9
    exact so_vret hI (Option.isNone_iff_eq_none.mp hb) h9
  case athrow =>
    obtain ⟨e9, h9⟩ := sx_g_eq h
    clear h
    subst e9
    rcases st with _ | ⟨x | ⟨p, q1, q2⟩ | x, r⟩ <;> try exact h9.elim
    obtain ⟨hb, h10⟩ := sx_b_eq h9
    clear h9
    rw [Bool.and_eq_true] at hb
    have e1 : q1 = 2 * mv_gX G + 1 := Nat.eq_of_beq_eq_true hb.1
    have e2 : q2 = 0 := Nat.eq_of_beq_eq_true hb.2
    subst e1
    subst e2
    obtain ⟨a, rfl, h9⟩ := me_dr_eq h10
    refine so_throw hI ?_
    unfold me_thr
    split at h9
    · rename_i e
      rw [e]
      exact h9
    · rename_i h8 ct e
      rw [e]
      exact hk _ _ _ _ _ h9
  case ldc idx =>
    obtain ⟨e9, h9⟩ := sx_g_eq h
    clear h
    subst e9
    split at h9
    · rename_i v hv
      refine so_psh (v := .inl v) hI rfl trivial (fun lo hp cb sb => ?_) (hk _ _ _ _ _ h9)
      show mv_g 2 2 (mv_ldc G y pc lo _ hp cb sb idx 2) = _
      unfold mv_g mv_ldc
      rw [if_pos rfl, hkn _ _ _ hv]
      rfl
    · split at h9
      · rename_i a ha
        obtain ⟨hb, h9⟩ := sx_b_eq h9
        have hb : mv_big < a := Nat.le_of_ble_eq_true hb
        refine so_psh (v := .inr (.inr (a - (mv_big + 1)))) hI rfl trivial (fun lo hp cb sb => ?_) (hk _ _ _ _ _ h9)
        show mv_g 2 2 (mv_ldc G y pc lo _ hp cb sb idx 2) = some (.inl (pc + 2, lo, .ref (mv_big + 1 + (a - (mv_big + 1))) :: _, hp, cb, sb))
        unfold mv_g mv_ldc
        rw [if_pos rfl, ha, show mv_big + 1 + (a - (mv_big + 1)) = a by omega]
      · exact h9.elim
  case ldc_w idx =>
    obtain ⟨e9, h9⟩ := sx_g_eq h
    clear h
    subst e9
    split at h9
    · rename_i v hv
      refine so_psh (v := .inl v) hI rfl trivial (fun lo hp cb sb => ?_) (hk _ _ _ _ _ h9)
      show mv_g 3 3 (mv_ldc G y pc lo _ hp cb sb idx 3) = _
      unfold mv_g mv_ldc
      rw [if_pos rfl, hkn _ _ _ hv]
      rfl
    · split at h9
      · rename_i a ha
        obtain ⟨hb, h9⟩ := sx_b_eq h9
        have hb : mv_big < a := Nat.le_of_ble_eq_true hb
        refine so_psh (v := .inr (.inr (a - (mv_big + 1)))) hI rfl trivial (fun lo hp cb sb => ?_) (hk _ _ _ _ _ h9)
        show mv_g 3 3 (mv_ldc G y pc lo _ hp cb sb idx 3) = some (.inl (pc + 3, lo, .ref (mv_big + 1 + (a - (mv_big + 1))) :: _, hp, cb, sb))
        unfold mv_g mv_ldc
        rw [if_pos rfl, ha, show mv_big + 1 + (a - (mv_big + 1)) = a by omega]
      · exact h9.elim
  case invokestatic idx =>
    obtain ⟨e9, h9⟩ := sx_g_eq h
    clear h
    subst e9
    split at h9
    · rename_i kd z n hC
      have stat : ∀ (hkd : kd = 0 ∨ kd = 1), sx_b (Nat.ble n st.length) (sx_cl G Q k y d pc 3 z (st.take n).reverse L (st.drop n) M) → me_W G y d pc L st M Q := by
        intro hkd h9
        obtain ⟨hb, h9⟩ := sx_b_eq h9
        have hb : n ≤ st.length := Nat.le_of_ble_eq_true hb
        refine so_call (st9 := st.map me_v) hk (fun fb lb lo hp cb sb => ?_) (fun lo hp cb sb _ _ => ?_) rfl (fun h => ⟨⟨h.1, fun v hv => h.2 v (List.mem_of_mem_drop hv)⟩, fun v hv => h.2 v (List.mem_of_mem_take (List.mem_reverse.mp hv))⟩) (sx_cl_ok _ _ _ h9)
        · unfold mv_nat
          simp only [hI, hC]
          rw [if_neg (by omega)]
        · unfold mv_exec
          simp only [hI]
          show mv_g 3 3 (mv_callS G y (st.map me_v) idx) = _
          unfold mv_g mv_callS
          rw [if_pos rfl, hC]
          dsimp only
          rw [if_pos ⟨hkd, by rw [List.length_map]; exact hb⟩, List.map_reverse, List.map_take, List.map_drop]
      rcases e7 : Nat.beq kd 7 with _ | _
      · rw [e7] at h9
        obtain ⟨k1, h9⟩ := sx_b_eq h9
        have k1 : kd ≤ 1 := Nat.le_of_ble_eq_true k1
        exact stat (by omega) h9
      · rw [e7] at h9
        have e7 : kd = 7 := Nat.eq_of_beq_eq_true e7
        subst e7
        rcases st with _ | ⟨n1 | w | w, _ | ⟨dp | w | w, _ | ⟨w | ⟨p1, q11, q12⟩ | w, _ | ⟨sp | w | w, _ | ⟨w | ⟨p0, q01, q02⟩ | w, r⟩⟩⟩⟩⟩ <;> try exact h9.elim
        obtain ⟨hb, h8⟩ := sx_b_eq h9
        clear h9
        simp only [Bool.and_eq_true] at hb
        obtain ⟨⟨⟨b1, b2⟩, b3⟩, b4⟩ := hb
        have b1 : q01 = q11 := Nat.eq_of_beq_eq_true b1
        have b2 : q01 % 2 = 0 := Nat.eq_of_beq_eq_true b2
        have b3 : q01 / 2 < 3 := Nat.le_of_ble_eq_true b3
        subst b1
        obtain ⟨t, rfl⟩ : ∃ t, q01 = 2 * t := ⟨q01 / 2, by omega⟩
        obtain ⟨a0, rfl, h7⟩ := me_dr_eq h8
        clear h8
        obtain ⟨a1, rfl, c1, c2, c3, c4, c5, c6, h6⟩ := me_dr_eq h7
        exact so_copy hI hC (by omega) (Nat.le_of_ble_eq_true b4) c1 c2 c3 c4 c5 c6 (hk _ _ _ _ _ h6)
    · exact h9.elim
  case invokevirtual idx =>
    obtain ⟨e9, h9⟩ := sx_g_eq h
    clear h
    subst e9
    split at h9
    · rename_i kd z n hC
      rcases e10 : Nat.beq kd 10 with _ | _
      · rcases e11 : Nat.beq kd 11 with _ | _
        · rw [e10, e11] at h9
          have n10 : kd ≠ 10 := fun e => by
            rw [e] at e10
            exact absurd e10 (by decide)
          have n11 : kd ≠ 11 := fun e => by
            rw [e] at e11
            exact absurd e11 (by decide)
          dsimp only at h9
          split at h9
          · rename_i p q1 q2 r hd
            obtain ⟨hb, h9⟩ := sx_b_eq h9
            simp only [Bool.and_eq_true, Bool.or_eq_true] at hb
            obtain ⟨⟨b1, b2⟩, b3⟩ := hb
            have b2 : q1 = 2 * mv_gW G z + 1 := Nat.eq_of_beq_eq_true b2
            have b3 : kd = 2 ∨ kd = 3 := by
              rcases b3 with b3 | b3
              · exact Or.inl (Nat.eq_of_beq_eq_true b3)
              · exact Or.inr (Nat.eq_of_beq_eq_true b3)
            obtain ⟨a, rfl, h9⟩ := me_dr_eq h9
            have hin : ∀ v, v ∈ (.inr (.inl (some a, q1, q2)) :: r : List me_V) → v ∈ st := fun v hv => List.mem_of_mem_drop (by rw [hd]; exact hv)
            refine so_call (st9 := st.map me_v) hk (fun fb lb lo hp cb sb => ?_) (fun lo hp cb sb g4 g5 => ?_) rfl (fun h => ⟨⟨h.1, fun v hv => h.2 v (hin v (List.mem_cons_of_mem _ hv))⟩, fun v hv => by
              rcases List.mem_cons.mp hv with rfl | hv
              · exact h.2 _ (hin _ List.mem_cons_self)
              · exact h.2 v (List.mem_of_mem_take (List.mem_reverse.mp hv))⟩) (sx_cl_ok _ _ _ h9)
            · unfold mv_nat
              simp only [hI, hC]
              rw [if_neg (by omega), if_neg (by omega)]
            · obtain ⟨ha, ht⟩ : me_an M (.inr (.inl (some a, q1, q2))) := g4.2 _ (hin _ List.mem_cons_self)
              unfold mv_exec
              simp only [hI]
              show mv_g 3 3 (mv_callV G y (st.map me_v) hp idx) = _
              unfold mv_g mv_callV
              rw [if_pos rfl, hC]
              dsimp only
              rw [← List.map_drop, hd]
              show (match hp[a]? with
                | some (.inr (ci, _)) => if (kd = 2 ∨ kd = 3) ∧ ci = mv_gW G z then _ else none
                | _ => none) = _
              rw [me_cell_ob g5 ha ht b2]
              dsimp only
              rw [if_pos ⟨b3, rfl⟩, List.map_cons, List.map_reverse, List.map_take]
              rfl
          · exact h9.elim
        · rw [e10, e11] at h9
          have e11 : kd = 11 := Nat.eq_of_beq_eq_true e11
          subst e11
          rcases st with _ | ⟨i | w | w, _ | ⟨w | w | j, r⟩⟩ <;> try exact h9.elim
          dsimp only at h9
          unfold sx_tx at h9
          split at h9
          · rename_i tx hx
            obtain ⟨hb, c1, c2, c3, h9⟩ := sx_b_eq h9
            exact so_schr hI hC hx (Nat.le_of_ble_eq_true hb) c1 c2 c3 (hT _ _ hx) (hk _ _ _ _ _ h9)
          · exact h9.elim
      · rw [e10] at h9
        have e10 : kd = 10 := Nat.eq_of_beq_eq_true e10
        subst e10
        rcases st with _ | ⟨w | w | j, r⟩ <;> try exact h9.elim
        dsimp only at h9
        unfold sx_tx at h9
        split at h9
        · rename_i tx hx
          obtain ⟨hb, c1, h9⟩ := sx_b_eq h9
          exact so_slen hI hC hx (Nat.le_of_ble_eq_true hb) c1 (hk _ _ _ _ _ h9)
        · exact h9.elim
    · exact h9.elim
  case invokespecial idx =>
    obtain ⟨e9, h9⟩ := sx_g_eq h
    clear h
    subst e9
    split at h9
    · rename_i kd z n hC
      rcases e9 : Nat.beq kd 9 with _ | _
      · rw [e9] at h9
        have n9 : kd ≠ 9 := fun e => by
          rw [e] at e9
          exact absurd e9 (by decide)
        dsimp only at h9
        split at h9
        · rename_i p q1 q2 r hd
          obtain ⟨hb, h9⟩ := sx_b_eq h9
          simp only [Bool.and_eq_true, Bool.or_eq_true] at hb
          obtain ⟨b1, b3⟩ := hb
          have b3 : kd = 4 ∨ kd = 5 := by
            rcases b3 with b3 | b3
            · exact Or.inl (Nat.eq_of_beq_eq_true b3)
            · exact Or.inr (Nat.eq_of_beq_eq_true b3)
          obtain ⟨a, rfl, h9⟩ := me_dr_eq h9
          have hin : ∀ v, v ∈ (.inr (.inl (some a, q1, q2)) :: r : List me_V) → v ∈ st := fun v hv => List.mem_of_mem_drop (by rw [hd]; exact hv)
          refine so_call (st9 := st.map me_v) hk (fun fb lb lo hp cb sb => ?_) (fun lo hp cb sb g4 g5 => ?_) rfl (fun h => ⟨⟨h.1, fun v hv => h.2 v (hin v (List.mem_cons_of_mem _ hv))⟩, fun v hv => by
            rcases List.mem_cons.mp hv with rfl | hv
            · exact h.2 _ (hin _ List.mem_cons_self)
            · exact h.2 v (List.mem_of_mem_take (List.mem_reverse.mp hv))⟩) (sx_cl_ok _ _ _ h9)
          · unfold mv_nat
            simp only [hI, hC]
            rw [if_neg (by omega)]
          · unfold mv_exec
            simp only [hI]
            show mv_g 3 3 (mv_callI G y (st.map me_v) idx) = _
            unfold mv_g mv_callI
            rw [if_pos rfl, hC]
            dsimp only
            rw [← List.map_drop, hd]
            show (if kd = 4 ∨ kd = 5 then _ else none) = _
            rw [if_pos b3, List.map_cons, List.map_reverse, List.map_take]
            rfl
        · exact h9.elim
      · rw [e9] at h9
        have e9 : kd = 9 := Nat.eq_of_beq_eq_true e9
        subst e9
        rcases st with _ | ⟨w | ⟨p, q1, q2⟩ | w, r⟩ <;> try exact h9.elim
        obtain ⟨hb, h9⟩ := sx_b_eq h9
        obtain ⟨a, rfl, c1, h9⟩ := me_dr_eq h9
        exact so_oini hI hC (Nat.le_of_ble_eq_true hb) c1 (hk _ _ _ _ _ h9)
    · exact h9.elim
  case new idx =>
    obtain ⟨e9, h9⟩ := sx_g_eq h
    clear h
    subst e9
    split at h9
    · rename_i ci hN
      obtain ⟨hb, c1, c2, h9⟩ := sx_b_eq h9
      simp only [Bool.and_eq_true, Bool.not_eq_true'] at hb
      obtain ⟨⟨b1, b2⟩, b3⟩ := hb
      refine me_new hI hN (fun z => by rw [z, Nat.beq_refl] at b1; cases b1) (hG.2.1 ci (Nat.le_of_ble_eq_true b3)) (fun j => ?_) c1 c2 (hk _ _ _ _ _ h9)
      unfold sx_fin
      have e : (sx_finT.getD ci []).getD 0 [] = [] := by
        cases hz : (sx_finT.getD ci [])[0]? with
        | none => rw [List.getD_eq_getElem?_getD, hz]; rfl
        | some l =>
          have := List.all_eq_true.mp b2 l (List.mem_of_getElem? hz)
          rw [List.getD_eq_getElem?_getD, hz]
          exact List.isEmpty_iff.mp this
      rw [e]
      rfl
    · exact h9.elim
  case newarray at_ =>
    obtain ⟨e9, h9⟩ := sx_g_eq h
    clear h
    subst e9
    rcases st with _ | ⟨n | w | w, r⟩ <;> try exact h9.elim
    dsimp only at h9
    split at h9
    · rename_i t ht
      obtain ⟨c1, c2, c3, c4, h9⟩ := h9
      refine me_newa hI ht ?_ c1 c2 c3 c4 (hk _ _ _ _ _ h9)
      unfold mv_prim at ht
      split at ht <;> first | (cases ht; decide) | cases ht
    · exact h9.elim
  case aastore =>
    obtain ⟨e9, h9⟩ := sx_g_eq h
    clear h
    subst e9
    rcases st with _ | ⟨w | ⟨v, w⟩ | w, _ | ⟨i | w9 | w9, _ | ⟨z | ⟨p, q1, q2⟩ | z, r⟩⟩⟩ <;> try exact h9.elim
    obtain ⟨hb, h8⟩ := sx_b_eq h9
    clear h9
    obtain ⟨a, rfl, h0, h1, h9⟩ := me_dr_eq h8
    clear h8
    simp only [Bool.and_eq_true, Bool.not_eq_true'] at hb
    obtain ⟨b1, b2⟩ := hb
    have h1 : i < (q2 : Int) := h1
    have b1 : q1 % 2 = 0 := Nat.eq_of_beq_eq_true b1
    obtain ⟨t, rfl⟩ : ∃ t, q1 = 2 * t := ⟨q1 / 2, by omega⟩
    have et : 2 * t / 2 = t := by omega
    rw [et] at b2 h9
    have b2 : ¬ t < 3 := fun z => by
      have z2 : Nat.blt t 3 = true := Nat.ble_eq_true_of_le (show t + 1 ≤ 3 from z)
      rw [z2] at b2
      cases b2
    refine me_len2 fun hl => ?_
    have hr : me_r i := ⟨by omega, by omega⟩
    split at h9
    · rename_i ce hE
      obtain ⟨hb, h9⟩ := sx_b_eq h9
      have hb : sx_ek t = 2 * ce + 1 := Nat.eq_of_beq_eq_true hb
      split at h9
      · rename_i e
        exact me_aast hI b2 hE hb (Or.inr (by rw [hb]; exact Nat.eq_of_beq_eq_true e)) h0 h1 hr (hk _ _ _ _ _ h9)
      · exact me_aast hI b2 hE hb (Or.inl h9.1) h0 h1 hr (hk _ _ _ _ _ h9.2)
    · split at h9
      · rename_i t2 hB
        obtain ⟨hb, h8⟩ := sx_b_eq h9
        clear h9
        rw [Bool.and_eq_true] at hb
        obtain ⟨b, rfl, h7⟩ := me_dr_eq h8
        clear h8
        obtain ⟨w1, w2⟩ := w
        have e : w1 = 2 * t2 := Nat.eq_of_beq_eq_true hb.2
        subst e
        exact me_aasA hI b2 hB (Nat.eq_of_beq_eq_true hb.1) h0 h1 hr (hk _ _ _ _ _ h7)
      · exact h9.elim
  all_goals exact h.elim
end SXA
