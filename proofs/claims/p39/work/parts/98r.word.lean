/-! ===== the class's side (out of whole, by program) ===== -/
def y_wd (T : Nat → Nat) (q : Nat) : Nat → Nat
  | 0 => 0
  | d + 1 => if 10 ≤ d then y_wd T q d else 27 * y_wd T q d + T (q + d) - 96
