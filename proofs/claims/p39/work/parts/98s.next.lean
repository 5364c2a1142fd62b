/-! ===== the class's side (out of whole, by program) ===== -/
/-- the scanner stands behind the token that starts at q, or at the end -/
def y_at (N : z_Mem) (m n : Nat) (T : Nat → Nat) (q : Nat) : Prop := N.1 m 26 = Int32.ofNat q ∧ (q < n → N.1 m 27 = Int32.ofNat (x_kd (T q)) ∧ N.1 m 25 = Int32.ofNat (x_en T n q) ∧ (x_kd (T q) = 2 → N.1 m 28 = Int32.ofNat (y_nm T q (x_en T n q - q))) ∧ (x_kd (T q) = 1 → N.2 m 29 = Int64.ofNat (y_wd T q (x_en T n q - q)))) ∧ (¬ q < n → N.1 m 27 = 0 ∧ N.1 m 25 = Int32.ofNat q)
