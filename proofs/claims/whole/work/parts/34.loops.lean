/-! loops: one plain step of the small machine -/
theorem mv_go1 {G : mv_G} {y fb lb m n pc : Nat} {lo : List (Nat × Value)} {st : List Value} {hp : List va_E} {cb sb : Nat} {S' : mv_S} {i : Instr} (hI : mv_gI G y pc = some (i, n)) (hp1 : ab_plain i = true) (hex : mv_exec G y (pc, lo, st, hp, cb, sb) = mv_og (mv_ins G y pc lo st hp cb sb n i)) (h : mv_ins G y pc lo st hp cb sb n i = some (.inl S')) : mv_run G (m + 1) y fb lb (pc, lo, st, hp, cb, sb) = mv_run G m y fb lb S' := by
  rw [mv_run, ab_nat_none (S := (pc, lo, st, hp, cb, sb)) hI hp1]
  dsimp only
  rw [hex, h]
  rfl
/-- a script as boxes: the first int by its last five bits, the next ones by bounds, in order -/
def ab_X (m : Int32) (bs : List (Int × Int)) : Nat → ab_V := fun k => match k with
  | 0 => .inr (.inr m)
  | j + 1 => .inr (.inl (bs.getD j (-2147483648, 2147483647)))
