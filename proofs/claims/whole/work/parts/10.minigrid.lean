/-! the small machine: arrays of arrays -/
/-- n rows of k numbers, behind the pointers below q -/
def mv_rows (t1 k : Nat) (n : Nat) : List va_E := List.replicate n (.inl (t1, k, .inl (fun _ => 0)))
def mv_outer (t n q w : Nat) : va_E := .inl (t, n, .inr (.inr (.inr (.inr (fun i => if i < n then some (q + i * w) else none)))))
def mv_grid2 (t t1 n k q : Nat) : List va_E := mv_outer t n (q + 1) 1 :: mv_rows t1 k n
def mv_blocks (t1 t2 k j q : Nat) : Nat → List va_E
  | 0 => []
  | i + 1 => mv_blocks t1 t2 k j q i ++ mv_grid2 t1 t2 k j (q + i * (k + 1))
def mv_grid3 (t t1 t2 n k j q : Nat) : List va_E := mv_outer t n (q + 1) (k + 1) :: mv_blocks t1 t2 k j (q + 1) n
def mv_multi (G : mv_G) (y pc : Nat) (l : List (Nat × Value)) (st : List Value) (hp : List va_E) (cb sb idx d : Nat) : Option mv_R := match mv_gM G y idx with
  | some (t, t1, t2) => match st with
    | .int k :: .int n :: r => if d = 2 then
        if t2 = 0 ∧ ¬ n < 0 ∧ ¬ k < 0 ∧ n.toNatClampNeg ≤ 65536 ∧ k.toNatClampNeg ≤ 65536 ∧ 1 + n.toNatClampNeg ≤ cb ∧ n.toNatClampNeg + n.toNatClampNeg * k.toNatClampNeg ≤ sb then
          some (.inl (pc + 4, l, .ref hp.length :: r, hp ++ mv_grid2 t t1 n.toNatClampNeg k.toNatClampNeg hp.length, cb - (1 + n.toNatClampNeg), sb - (n.toNatClampNeg + n.toNatClampNeg * k.toNatClampNeg)))
        else none
      else match r with
        | .int z :: r => if d = 3 ∧ 0 < t2 ∧ ¬ z < 0 ∧ ¬ n < 0 ∧ ¬ k < 0 ∧ z.toNatClampNeg ≤ 65536 ∧ n.toNatClampNeg ≤ 65536 ∧ k.toNatClampNeg ≤ 65536 ∧ 1 + z.toNatClampNeg * (n.toNatClampNeg + 1) ≤ cb ∧ z.toNatClampNeg + z.toNatClampNeg * (n.toNatClampNeg + n.toNatClampNeg * k.toNatClampNeg) ≤ sb then
            some (.inl (pc + 4, l, .ref hp.length :: r, hp ++ mv_grid3 t t1 t2 z.toNatClampNeg n.toNatClampNeg k.toNatClampNeg hp.length, cb - (1 + z.toNatClampNeg * (n.toNatClampNeg + 1)), sb - (z.toNatClampNeg + z.toNatClampNeg * (n.toNatClampNeg + n.toNatClampNeg * k.toNatClampNeg))))
          else none
        | _ => none
    | _ => none
  | none => none
section MVM
variable {base : Nat} {kt dA : Nat → Nat} {D : va_G} {cl : List vw_C} {nL : Nat} {p : Program} {l : Launch} {e : Env} {R : Room} {s : State} {m : MethodId} {args : Array Value} {below : List Frame} {meth : Method} {c : Code} {Q : State → Prop} {cc : ByteArray} {G : mv_G} {y pc : Nat} {lo : List (Nat × Value)} {st : List Value} {hp : List va_E} {cb sb : Nat} {S : mv_S} {Nm : Nat → MethodName} {Ts : List Cond} {L : List FieldType}
theorem mr_multi (hx : p.tables.exec = Jvm.exec) (hb : c.code = cc) (hts : ∀ w ∈ Ts, w.before args s = true) {own : String} (hown : s.vm.findClass own = some m.cls) (hK : va_K D cl (mv_tys dA L) s) {idx d : Nat} (hdg : decode cc pc = .ok (.multianewarray idx d, 4)) (hok : ∀ t t1 t2, mv_gM G y idx = some (t, t1, t2) → mv_okGr L Ts own idx t t1 t2)
    (h : mv_multi G y pc lo st hp cb sb idx d = some (.inl S)) (k : mv_K base (mv_ad base kt) dA D cl nL p l e R s m args below meth c Q S) : mv_K base (mv_ad base kt) dA D cl nL p l e R s m args below meth c Q (pc, lo, st, hp, cb, sb) := by
  sorry
end MVM
