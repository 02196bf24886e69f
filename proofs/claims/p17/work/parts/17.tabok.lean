/-! the tables are right, as the machine asks -/
def mt_Tg : List Jvm.Cond := mt_Ts.filter mt_stayb
theorem mt_g {w : Jvm.Cond} (h : w ∈ mt_Ts) (hs : mt_stayb w = true) : w ∈ mt_Tg := List.mem_filter.mpr ⟨h, hs⟩
theorem mt_stay_ac (t : FieldType) : mv_stay (.arrayClass t) := fun args a' s U hW h => by
  have h1 : (Cond.arrayClass t).before args (s.setVm U.vm) = true := Cond.before_shiftedFace (State.Shifted.of_warmed hW) _ rfl h
  exact h1
theorem mt_stay_de (t : MethodName) : mv_stay (.declares t) := fun args a' s U hW h => by
  have h1 : (Cond.declares t).before args (s.setVm U.vm) = true := Cond.before_shiftedFace (State.Shifted.of_warmed hW) _ rfl h
  exact h1
theorem mt_stay_ca (t u : String) : mv_stay (.castable t u) := fun args a' s U hW h => by
  have h1 : (Cond.castable t u).before args (s.setVm U.vm) = true := Cond.before_shiftedFace (State.Shifted.of_warmed hW) _ rfl h
  exact h1
theorem mt_stay_oa (t : FieldType) : mv_stay (.arrayOver (.array t)) := fun args a' s U hW h => over_moved hW.alike h
theorem mt_stay_oo (n : String) : mv_stay (.arrayOver (.object n)) := fun args a' s U hW h => by
  have hal := hW.alike
  obtain ⟨comp, c, k, hc, hi, hk, hkind, hn⟩ := Cond.arrayOver_spec h
  have e1 : U.vm.findClass n = some comp := by first | (rw [← hal.findClass]; exact hc) | (rw [hal.findClass]; exact hc)
  have e3 : U.vm.findClass ("[" ++ (FieldType.object n).toString) = some c := by first | (rw [← hal.findClass]; exact hn) | (rw [hal.findClass]; exact hn)
  have e2 : (U.vm.classes.findIdx? fun x => match x.kind with | .array component _ => component == comp | _ => false) = some c := by
    rw [hal.findIdx?_eq _ (fun _ => rfl)]; exact hi
  obtain ⟨k', hk', he⟩ := hal.2.2 _ _ hk
  have hkind' : k'.kind = .array comp (.object n) := by rw [he]; exact hkind
  simp only [Cond.before, Cond.holds, Cond.value, beq_iff_eq, e1, e2, hk', Option.bind_some, Option.map_some, hkind']
  simp [e3]
  refine Option.bind_eq_some_iff.mpr ⟨c, e2, ?_⟩
  simp [hk', hkind']
theorem mt_stay_H {w : Jvm.Cond} (h : (w.onTables && w.keepsH) = true) : mv_stay w := fun args a' s U hW hb => by
  simp only [Bool.and_eq_true] at h
  have h1 := Cond.onTables_warmH (T := U) (args' := a') hW h.1 h.2 hb
  rwa [State.setVm_self] at h1
theorem mt_stay_of {w : Jvm.Cond} (h : mt_stayb w = true) : mv_stay w := by
  unfold mt_stayb at h
  split at h
  · exact mt_stay_ac _
  · exact mt_stay_oo _
  · exact mt_stay_oa _
  · exact mt_stay_de _
  · exact mt_stay_ca _ _
  · exact mt_stay_H h
theorem mt_good : ∀ w ∈ mt_Tg, mv_stay w := fun w hw => mt_stay_of (List.mem_filter.mp hw).2
theorem mt_is_at {t : Nat} {ty : FieldType} (h : mt_is t ty = true) : mt_L[t]? = some ty := of_decide_eq_true h
theorem mt_gL_ok (n : Nat) (f : Nat → Int32) : mv_okL mt_L mt_Tg (mt_G n f) := by
  have h := mt_okac
  simp only [Bool.and_eq_true] at h
  obtain ⟨⟨⟨⟨⟨h1, h2⟩, h3⟩, h4⟩, h5⟩, h6⟩ := h
  exact ⟨mt_is_at h4, mt_is_at h5, mt_is_at h6, mt_g (mt_in_mem h1) rfl, mt_g (mt_in_mem h2) rfl, mt_g (mt_in_mem h3) rfl, fun t ty h => h, fun t t2 h => by
    have h : (mt_B.find? (fun e => Nat.beq e.1 t)).map (fun e => e.2) = some t2 := h
    rw [Option.map_eq_some_iff] at h
    obtain ⟨e, g1, g2⟩ := h
    have g3 := List.all_eq_true.mp mt_okB_all e (List.mem_of_find?_eq_some g1)
    have g4 : e.1 = t := Nat.eq_of_beq_eq_true (List.find?_some (p := fun e : Nat × Nat => Nat.beq e.1 t) g1)
    simp only [Bool.and_eq_true, Bool.or_eq_true] at g3
    obtain ⟨⟨⟨k1, k2⟩, k3⟩, k4⟩ := g3
    subst g2
    subst g4
    refine ⟨mt_L.getD e.2 .int, ?_, mt_is_at k1, ?_, mt_g (mt_mem_mem k4) rfl⟩
    · rcases k3 with k3 | k3
      · exact Or.inl (of_decide_eq_true k3)
      · exact Or.inr (of_decide_eq_true k3)
    · have k5 : e.2 < mt_L.length := Nat.le_of_ble_eq_true k2
      rw [List.getD_eq_getElem?_getD, List.getElem?_eq_getElem k5]
      rfl⟩
theorem mt_lt {a b : Nat} (h : Nat.blt a b = true) : a < b := Nat.le_of_ble_eq_true h
theorem mt_gE_ok (n : Nat) (f : Nat → Int32) : mv_okE mt_cl mt_L (mt_G n f) := by
  intro t ci h
  have h : (mt_E.find? (fun e => Nat.beq e.1 t)).map (fun e => e.2) = some ci := h
  rw [Option.map_eq_some_iff] at h
  obtain ⟨e, h1, h2⟩ := h
  have h3 := List.all_eq_true.mp mt_okE_all e (List.mem_of_find?_eq_some h1)
  have h4 : e.1 = t := Nat.eq_of_beq_eq_true (List.find?_some (p := fun e : Nat × Nat => Nat.beq e.1 t) h1)
  rw [Bool.and_eq_true] at h3
  subst h2
  subst h4
  exact ⟨_, _, _, mt_cl_at (mt_lt h3.1), mt_is_at h3.2⟩
/-- a class's own rows -/
theorem mt_k_at {ci : Nat} (h : ci < mt_k.length) : ∃ q, mt_k[ci]? = some q ∧ mt_fl ci = q.2.2.1 ∧ mt_cn ci = mt_own q.1 := by
  obtain ⟨q, hq⟩ : ∃ q, mt_k[ci]? = some q := ⟨_, List.getElem?_eq_getElem h⟩
  refine ⟨q, hq, ?_, ?_⟩
  · unfold mt_fl
    rw [hq]
  · unfold mt_cn
    rw [hq]
theorem mt_T_at {ci k : Nat} {f : Nat × String × String × Bool × (Nat × Nat)} (h : (mt_fl ci)[k]? = some f) : mt_T ci k = (mt_own f.1, f.2.1, f.2.2.1, f.2.2.2.1) := by
  unfold mt_T
  rw [h]
theorem mt_kk {ci : Nat} (h : ci < mt_k.length) : mt_okk ci = true := List.all_eq_true.mp mt_okk_all ci (List.mem_range.mpr h)
theorem mt_okk_in {ci k : Nat} (h : ci < mt_k.length) {f : Nat × String × String × Bool × (Nat × Nat)} (hf : (mt_fl ci)[k]? = some f) : (∃ q, mt_k[ci]? = some q ∧ f.1 = q.1) ∧ mt_in f.2.2.2.2 (u_lay (mt_cn ci) (mt_T ci) k) = true ∧ (parseFieldDescriptor f.2.2.1).isSome = true := by
  obtain ⟨q, hq, hl, -⟩ := mt_k_at h
  have h1 := mt_kk h
  unfold mt_okk at h1
  rw [hq] at h1
  simp only [Bool.and_eq_true] at h1
  obtain ⟨⟨⟨⟨h1, -⟩, -⟩, -⟩, -⟩ := h1
  rw [hl] at hf
  have h2 := List.all_eq_true.mp h1 k (List.mem_range.mpr (List.getElem?_eq_some_iff.mp hf).1)
  rw [hf] at h2
  simp only [Bool.and_eq_true] at h2
  exact ⟨⟨q, hq, Nat.eq_of_beq_eq_true h2.1.1⟩, h2.1.2, h2.2⟩
theorem mt_lay_stay (C : String) (T : u_T) (k : Nat) : mt_stayb (u_lay C T k) = true := by
  unfold u_lay
  split <;> rfl
theorem mt_ws_in {ci : Nat} (h : ci < mt_k.length) : ∀ w ∈ u_ws (mt_cn ci) (mt_T ci) (mt_fl ci).length, w ∈ mt_Tg := by
  intro w hw
  obtain ⟨k, hk, rfl⟩ := List.mem_map.mp hw
  obtain ⟨f, hf⟩ : ∃ f, (mt_fl ci)[k]? = some f := ⟨_, List.getElem?_eq_getElem (List.mem_range.mp hk)⟩
  exact mt_g (mt_in_mem (mt_okk_in h hf).2.1) (mt_lay_stay _ _ _)
theorem mt_gC_ok (n : Nat) (f : Nat → Int32) {ci : Nat} (h : ci < mt_k.length) : mv_okC mt_cl mt_Tg (mt_G n f) ci := by
  have at_ : ∀ k, k < (mt_fl ci).length → ∃ g ty, (mt_fl ci)[k]? = some g ∧ parseFieldDescriptor g.2.2.1 = some ty ∧ mt_gT ci k = some ty := by
    intro k hk
    obtain ⟨g, hg⟩ : ∃ g, (mt_fl ci)[k]? = some g := ⟨_, List.getElem?_eq_getElem hk⟩
    obtain ⟨ty, hty⟩ := Option.isSome_iff_exists.mp (mt_okk_in h hg).2.2
    refine ⟨g, ty, hg, hty, ?_⟩
    unfold mt_gT
    rw [hg]
    exact hty
  refine ⟨_, _, _, fun k => (mt_gT ci k).getD .int, mt_cl_at h, mt_ws_in h, fun k hk => ?_, fun a ha b hb hab => ?_, fun k hk => ?_, fun k hk => ?_, fun j hj => ?_, fun ad => ?_⟩
  · obtain ⟨g, ty, h1, h2, h3⟩ := at_ k hk
    rw [mt_T_at h1]
    show parseFieldDescriptor g.2.2.1 = some ((mt_gT ci k).getD .int)
    rw [h3]
    exact h2
  · obtain ⟨q, hq, hl, -⟩ := mt_k_at h
    have h1 := mt_kk h
    unfold mt_okk at h1
    rw [hq] at h1
    simp only [Bool.and_eq_true] at h1
    obtain ⟨⟨⟨⟨-, h1⟩, -⟩, -⟩, -⟩ := h1
    have h1 := of_decide_eq_true h1
    obtain ⟨ga, tya, ha1, -⟩ := at_ a ha
    obtain ⟨gb, tyb, hb1, -⟩ := at_ b hb
    rw [mt_T_at ha1, mt_T_at hb1]
    intro e
    rw [hl] at ha1 hb1
    refine hab ((List.getElem_inj h1 (h₀ := by rw [List.length_map]; rw [hl] at ha; exact ha) (h₁ := by rw [List.length_map]; rw [hl] at hb; exact hb)).mp ?_)
    rw [List.getElem_map, List.getElem_map, (List.getElem?_eq_some_iff.mp ha1).2, (List.getElem?_eq_some_iff.mp hb1).2]
    exact e
  · obtain ⟨g, ty, h1, h2, h3⟩ := at_ k hk
    show mt_gT ci k = some ((mt_gT ci k).getD .int)
    rw [h3]
    rfl
  · obtain ⟨g, ty, h1, h2, h3⟩ := at_ k hk
    rw [mt_T_at h1]
    show (match (mt_fl ci)[k]? with | some f => f.2.2.2.1 | none => false) = _
    rw [h1]
  · obtain ⟨g, ty, h1, h2, h3⟩ := at_ j hj
    show defaultValue ((mt_gT ci j).getD .int) = (mt_gD ci).getD j .null
    rw [h3]
    unfold mt_gD
    rw [List.getD_eq_getElem?_getD, List.getElem?_map, h1]
    show _ = (match parseFieldDescriptor g.2.2.1 with | some ty => defaultValue ty | none => .null)
    rw [h2]
    rfl
  · obtain ⟨q, hq, hl, -⟩ := mt_k_at h
    have h1 := mt_kk h
    unfold mt_okk at h1
    rw [hq] at h1
    simp only [Bool.and_eq_true] at h1
    obtain ⟨-, h1⟩ := h1
    show (mt_gD ci).map (mv_v ad) = mt_gD ci
    conv => rhs; rw [← List.map_id (mt_gD ci)]
    apply List.map_congr_left
    intro v hv
    have h2 := List.all_eq_true.mp h1 v hv
    cases v <;> first | rfl | cases h2
