/-! a text that was read is read again -/
section SH2
variable {C C' E L K t : Nat} {s c s' c' : Nat → Int}
theorem sh_ty (H : SH C C' E s c s' c') (h : t ≤ E) : g_ty s c (C + t) ↔ g_ty s' c' (C' + t) := by
  obtain ⟨h1, h2⟩ := H.1 t h
  unfold g_ty
  rw [h1, h2]
theorem sh_par (H : SH C C' E s c s' c') : ∀ (k pc t : Nat), t ≤ E → G2 C C' E (g_par s c (C + L) k pc (C + t)) (g_par s' c' (C' + L) k pc (C' + t))
  | 0, _, _, _ => Or.inl ⟨by rw [g_par], by rw [g_par]⟩
  | k + 1, pc, t, h => by
    rw [g_par, g_par]
    by_cases e : s (C + t) = 0
    · obtain ⟨h1, h2⟩ := H.1 t h
      have n1 : ¬ g_ty s c (C + t) := by unfold g_ty; omega
      have n2 : ¬ g_ty s' c' (C' + t) := by unfold g_ty; omega
      rw [if_neg fun z => n1 z.1, if_neg fun z => n2 z.1]
      exact G2.no
    have ht := H.lt h e
    obtain ⟨j1, j2⟩ := H.1 (t + 1) ht
    have j1 : s' (C' + t + 1) = s (C + t + 1) := j1
    refine G2.ite (and_congr (sh_ty H h) (by omega)) (fun z => ?_) fun _ => G2.no
    have ht2 := H.lt ht (show ¬ s (C + t + 1) = 0 by omega)
    obtain ⟨k1, k2⟩ := H.1 (t + 2) ht2
    have k1 : s' (C' + t + 2) = s (C + t + 2) := k1
    have k2 : c' (C' + t + 2) = c (C + t + 2) := k2
    refine G2.ite (by omega) (fun _ => G2.no) fun _ => G2.ite (by omega) (fun z2 => G2.ite (by omega) (fun _ => ?_) fun _ => G2.no) fun _ => sh_need H 41 ht2
    have ht3 := H.lt ht2 (show ¬ s (C + t + 2) = 0 by omega)
    exact sh_par H k (pc + 1) (t + 3) ht3
theorem sh_blk (H : SH C C' E s c s' c') (h : t ≤ E) : G2 C C' E (g_blk s c (C + L) gd0 K (C + t)) (g_blk s' c' (C' + L) gd0 K (C' + t)) := by
  obtain ⟨h1, h2⟩ := H.1 t h
  unfold g_blk
  exact G2.ite (by omega) (fun _ => G2.no) fun _ => G2.ite (by omega) (fun _ => sh_g H K 8 0 t 0 h) fun _ => G2.no
theorem sh_fld (H : SH C C' E s c s' c') (h : t ≤ E) : G2 C C' E (g_fld s c (C + L) gd0 K (C + t)) (g_fld s' c' (C' + L) gd0 K (C' + t)) := by
  obtain ⟨h1, h2⟩ := H.1 t h
  unfold g_fld
  refine G2.ite (by omega) (fun _ => G2.no) fun _ => G2.ite (by omega) (fun z => G2.ite (by omega) (fun _ => ?_) fun _ => G2.no) fun _ => sh_need H 59 h
  have ht := H.lt h (by omega)
  exact (sh_g H K 0 1 (t + 1) 0 ht).bind fun t1 h1 => sh_need H 59 h1
theorem sh_mth (H : SH C C' E s c s' c') (h : t ≤ E) : G2 C C' E (g_mth s c (C + L) gd0 K (C + t)) (g_mth s' c' (C' + L) gd0 K (C' + t)) := by
  unfold g_mth
  refine (sh_need H 40 h).bind fun t1 h1 => ?_
  obtain ⟨k1, k2⟩ := H.1 t1 h1
  refine G2.ite (by omega) (fun _ => G2.no) fun _ => G2.ite (by omega) (fun z => G2.ite (by omega) (fun _ => ?_) fun _ => G2.no) fun _ => (sh_par H K 0 t1 h1).bind fun t2 h2 => sh_blk H h2
  have ht := H.lt h1 (by omega)
  exact sh_blk H (t := t1 + 1) ht
theorem sh_nam (H : SH C C' E s c s' c') (mb : Nat) (v : Bool) (h : t ≤ E) : G2 C C' E (g_nam s c (C + L) gd0 K mb v (C + t)) (g_nam s' c' (C' + L) gd0 K mb v (C' + t)) := by
  obtain ⟨h1, h2⟩ := H.1 t h
  unfold g_nam
  refine G2.ite (by omega) (fun z => ?_) fun _ => G2.no
  have ht := H.lt h (by omega)
  obtain ⟨j1, j2⟩ := H.1 (t + 1) ht
  have j1 : s' (C' + t + 1) = s (C + t + 1) := j1
  have j2 : c' (C' + t + 1) = c (C + t + 1) := j2
  exact G2.ite Iff.rfl (fun _ => sh_mth H (t := t + 1) ht) fun _ => G2.ite (by omega) (fun _ => G2.no) fun _ => G2.ite (by omega) (fun _ => sh_mth H (t := t + 1) ht) fun _ => sh_fld H (t := t + 1) ht
theorem sh_typ (H : SH C C' E s c s' c') (mb : Nat) (h : t ≤ E) : G2 C C' E (g_typ s c (C + L) gd0 K mb (C + t)) (g_typ s' c' (C' + L) gd0 K mb (C' + t)) := by
  obtain ⟨h1, h2⟩ := H.1 t h
  unfold g_typ
  refine G2.ite (by omega) (fun _ => G2.no) fun _ => G2.ite (by omega) (fun z => G2.ite (by omega) (fun _ => ?_) fun _ => G2.no) fun _ => G2.ite (and_congr (sh_ty H h) (by omega)) (fun z => ?_) fun _ => G2.no
  · have ht := H.lt h (by omega)
    exact sh_nam H mb true (t := t + 1) ht
  · have z1 := z.1
    unfold g_ty at z1
    have ht := H.lt h (by omega)
    exact sh_nam H mb false (t := t + 1) ht
theorem sh_mem (H : SH C C' E s c s' c') (mb : Nat) (h : t ≤ E) : G2 C C' E (g_mem s c (C + L) gd0 K mb (C + t)) (g_mem s' c' (C' + L) gd0 K mb (C' + t)) := by
  obtain ⟨h1, h2⟩ := H.1 t h
  unfold g_mem
  refine G2.ite (by omega) (fun _ => G2.no) fun _ => G2.ite (by omega) (fun z => G2.ite (by omega) (fun _ => ?_) fun _ => G2.no) fun _ => sh_typ H mb h
  have ht := H.lt h (by omega)
  exact sh_typ H mb (t := t + 1) ht
theorem sh_mbs (H : SH C C' E s c s' c') : ∀ (k mb t : Nat), t ≤ E → G2 C C' E (g_mbs s c (C + L) gd0 K k mb (C + t)) (g_mbs s' c' (C' + L) gd0 K k mb (C' + t))
  | 0, _, _, _ => Or.inl ⟨by rw [g_mbs], by rw [g_mbs]⟩
  | k + 1, mb, t, h => by
    obtain ⟨h1, h2⟩ := H.1 t h
    rw [g_mbs, g_mbs]
    refine G2.ite (by omega) (fun _ => G2.no) fun _ => G2.ite (by omega) (fun z => G2.ite (by omega) (fun _ => ?_) fun _ => G2.no) fun _ => (sh_mem H mb h).bind fun t1 h1 => sh_mbs H k (mb + 1) t1 h1
    have ht := H.lt h (by omega)
    exact G2.yes (t := t + 1) ht
theorem sh_cls (H : SH C C' E s c s' c') (o o' : Nat) (ho : o < 8 ↔ o' < 8) (h : t ≤ E) (hs : ¬ s (C + t) = 0) : G2 C C' E (g_cls s c (C + L) gd0 K o (C + t)) (g_cls s' c' (C' + L) gd0 K o' (C' + t)) := by
  have h1 := H.lt h hs
  obtain ⟨j1, j2⟩ := H.1 (t + 1) h1
  have j1 : s' (C' + t + 1) = s (C + t + 1) := j1
  unfold g_cls
  refine G2.ite (by omega) (fun z => ?_) fun _ => G2.no
  have h2 := H.lt h1 (show ¬ s (C + t + 1) = 0 by omega)
  obtain ⟨k1, k2⟩ := H.1 (t + 2) h2
  have k1 : s' (C' + t + 2) = s (C + t + 2) := k1
  have k2 : c' (C' + t + 2) = c (C + t + 2) := k2
  refine G2.ite (by omega) (fun _ => G2.no) fun _ => G2.ite (by omega) (fun z2 => ?_) fun _ => (sh_need H 123 (t := t + 2) h2).bind fun t1 y1 => sh_mbs H K 0 t1 y1
  have h3 := H.lt h2 (show ¬ s (C + t + 2) = 0 by omega)
  obtain ⟨m1, m2⟩ := H.1 (t + 3) h3
  have m1 : s' (C' + t + 3) = s (C + t + 3) := m1
  refine G2.ite (by omega) (fun z3 => ?_) fun _ => G2.no
  have h4 := H.lt h3 (show ¬ s (C + t + 3) = 0 by omega)
  exact (sh_need H 123 (t := t + 4) h4).bind fun t1 y1 => sh_mbs H K 0 t1 y1
theorem sh_fil (H : SH C C' E s c s' c') : ∀ (k o o' t x : Nat), t ≤ E → g_fil s c (C + L) gd0 K k o (C + t) = some x → o ≤ x ∧ ((x = o ∨ o' + (x - o) ≤ 8) → g_fil s' c' (C' + L) gd0 K k o' (C' + t) = some (o' + (x - o)))
  | 0, _, _, _, _, _, h => by
    rw [g_fil] at h
    cases h
  | k + 1, o, o', t, x, ht, h => by
    obtain ⟨h1, h2⟩ := H.1 t ht
    rw [g_fil] at h ⊢
    by_cases a : s (C + t) = -1
    · rw [if_pos a] at h
      cases h
    rw [if_neg a] at h
    rw [if_neg (by omega)]
    by_cases b : s (C + t) = 0
    · rw [if_pos b] at h
      have : o = x := Option.some.inj h
      subst this
      rw [if_pos (by omega)]
      exact ⟨Nat.le_refl _, fun _ => by rw [Nat.sub_self, Nat.add_zero]⟩
    rw [if_neg b] at h
    rw [if_neg (by omega)]
    by_cases w : s (C + t) = 3 ∧ c (C + t) = 0
    rotate_left
    · rw [if_neg w] at h
      cases h
    rw [if_pos w] at h
    rw [if_pos (by omega)]
    have ho : o < 8 := by
      by_cases z : o < 8
      · exact z
      · rw [g_cls, if_neg (by omega)] at h
        cases h
    -- the first class, with o again, tells where it ends
    rcases sh_cls (L := L) (K := K) H o o Iff.rfl ht b with ⟨g1, _⟩ | ⟨t1, l1, g1, _⟩
    · rw [g1] at h
      cases h
    rw [g1, Option.bind_some] at h
    have ih := sh_fil H k (o + 1) (o' + 1) t1 x l1 h
    refine ⟨by omega, fun hx => ?_⟩
    have ho' : o' < 8 := by omega
    rcases sh_cls (L := L) (K := K) H o o' (by omega) ht b with ⟨g2, _⟩ | ⟨t2, l2, g2, g3⟩
    · rw [g1] at g2
      cases g2
    · have : t1 = t2 := by
        rw [g1] at g2
        have := Option.some.inj g2
        omega
      subst this
      rw [g3, Option.bind_some, ih.2 (by omega)]
      congr 1
      omega
end SH2
/-- what was read is read again, behind o' classes -/
theorem RD.again {K G : Nat} {T : Int → Int} {e : Int} {C o C' o' x : Nat} {go : Option Nat} (h : RD K G T e C o (some x)) (h' : RD K G T e C' o' go) : o ≤ x ∧ ((x = o ∨ o' + (x - o) ≤ 8) → go = some (o' + (x - o))) := by
  obtain ⟨l, pp, s, c, a1, a2, a3, a4, a5, a6, a7⟩ := h
  obtain ⟨l', pp', s', c', b1, b2, b3, b4, b5, b6, b7⟩ := h'
  have el : l = l' := rl_toks_det l l' 0 pp pp' 601 a1 b1 a2 b2 a3 b3
  subst el
  have H : SH C C' l.length s c s' c' := ⟨fun t ht => by
    by_cases e : t = l.length
    · rw [e, a5, a6, b5, b6]
      exact ⟨rfl, rfl⟩
    · have hi : l[t]? = some (l[t]'(by omega)) := List.getElem?_eq_getElem (by omega)
      obtain ⟨x1, x2⟩ := a4 t _ hi
      obtain ⟨y1, y2⟩ := b4 t _ hi
      rw [x1, x2, y1, y2]
      exact ⟨rfl, rfl⟩, a5⟩
  have := sh_fil (L := 600) (K := K) H G o o' 0 x (Nat.zero_le _) a7.symm
  rw [b7]
  exact this
