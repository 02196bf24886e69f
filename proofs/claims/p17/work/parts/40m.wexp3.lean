/-! writeExp -/
section WE3
variable {N : Nat} {X : Nat → Int32} {d p C n m cl h hc dh lo e t : Nat} {A B : Nat → Nat → Int} {b s nx cn mn T : Nat → Int} {hh : Nat → Int × Nat} {D : Nat → Prop} {M : me_M} {st : List Int}
theorem c_401 (F : STF A B b s nx cn mn T hh n dh C m cl h hc) (hd : 7 ≤ d) (S : seg A lo e) (he : e < n) (ho : 1 ≤ A 0 e ∧ A 0 e ≤ 16) (h10 : ∀ k, lo ≤ k → k ≤ e → A 10 k = h) (hv : ∀ k q, lo ≤ k → k ≤ e → SC A B h k k q → D q) (H : CEV p C A B cn mn M) (h30 : me_i M 164 30 = (t : Int)) (lw : LW M) (hb : t + 2 * (e + 1 - lo) ≤ 59990) (hl : me_i M 181 e = (lo : Int)) (nl : ¬ left A e) : me_W (mt_G N X) 401 d 0 [some (.inr (.inl (some 164, 25, 0))), some (.inl (e : Int)), none, none] [] M (sx_qV (fun M' => ∃ t', t' + 1 ≤ t + 2 * (e + 1 - lo) ∧ XN p C mn B nx cn m cl h hc A lo (e + 1) t M t' M' (st, D) (pt T e st, D)) nt_E) := by
  have n1 := F.2.1.1
  have hl : me_i M (164 + 17) e = (lo : Int) := hl
  refine b401_0 ⟨by omega, by omega, ?_⟩
  rw [Int.toNat_natCast, hl]
  refine we_all F hd (by omega) (e + 1) lo e (by omega) S he ho h10 hv (Int.le_refl _) M t st H h30 lw hb fun M' t' E => ?_
  obtain ⟨u0, u⟩ := E
  rcases u with ⟨_, u⟩ | ⟨u, _⟩
  · exact b401_7 ⟨⟨by omega, by omega⟩, ⟨by omega, by omega⟩, fun _ => ⟨t', u0, u⟩, fun z => by omega⟩
  · exact absurd u nl
/-- what is known within an expression is known before it -/
theorem SC.ex {w k q : Nat} (G : ∀ k, k < n → cl_ A b s 0 n dh C (hh k) k) (hw : w < n) (S : seg A lo w) (hx : e ≤ w) (ho : ∀ k, lo ≤ k → k < e + 1 → A 0 k ≤ 16) (k1 : lo ≤ k) (k2 : k ≤ e) (H : SC A B h k k q) : SC A B h lo w q := by
  obtain ⟨a, c⟩ := H
  refine ⟨a, c.imp id fun ⟨c1, l, l1, l2, l3, l4⟩ => ⟨c1, l, ?_, ?_, l3, l4⟩⟩
  · rcases Nat.lt_or_ge l lo with v | v
    · exact v
    · have := ho l v (by omega)
      omega
  · rcases Nat.lt_or_ge l lo with v | v
    · have := S.2.2 l v
      omega
    · have := ho l v (by omega)
      omega
/-- acts of a piece, one behind another -/
theorem XN.seq {t1 t2 mid hi : Nat} {M1 M2 : me_M} {x y z : cx} (H : XN p C mn B nx cn m cl h hc A lo mid t M t1 M1 x y) (K : XN p C mn B nx cn m cl h hc A mid hi t1 M1 t2 M2 y z) (h1 : lo ≤ mid) (h2 : mid ≤ hi) : XN p C mn B nx cn m cl h hc A lo hi t M t2 M2 x z := by
  obtain ⟨a1, a2, a3, a4⟩ := H
  obtain ⟨b1, b2, b3, b4⟩ := K
  unfold LW at a2
  exact ⟨a1.seq ⟨by omega, by omega, by omega⟩ b1 h1 h2, b2, b3, b4⟩
/-- one act more, behind node hi -/
theorem XN.one {t1 hi : Nat} {M1 M2 : me_M} {x y z : cx} {s f e' : Int} (H : XN p C mn B nx cn m cl h hc A lo hi t M t1 M1 x y) (w : W1 M1 M2 t1 s f e') (hs : SA B nx cn m cl h hc s f e' y z) (h1 : lo ≤ hi) (hb : t1 < t + 2 * (hi - lo)) : XN p C mn B nx cn m cl h hc A lo hi t M (t1 + 1) M2 x z := by
  obtain ⟨q0, l1, l2, l3⟩ := H
  unfold LW at l1
  have lw := w.lw
  have ce := w.ce l3
  obtain ⟨w1, w2, w3, w4, w5, _⟩ := w
  have g1 : gx (xP A lo hi) (xR t1) M1 M2 := w1.mo (fun b j z => Or.inl z) fun j i z => ⟨z.1, by have := z.2; omega⟩
  have k := q0.2.2.keep g1 ⟨by omega, by omega, by omega⟩
  have q2 := q0.2.1
  refine ⟨⟨q0.1.tr (g1.mo (fun _ _ z => z) (xR_mo q2.1)), by omega, k.seq (ACD.one ?_)⟩, lw, by omega, ce⟩
  rw [w3, w4, w5]
  exact hs
end WE3
