/-! ===== the class's side (out of whole, by program) ===== -/
def y_rd (N : z_Mem) (m n : Nat) (T : Nat → Nat) : Prop := N.1 m 24 = Int32.ofNat n ∧ n ≤ 800 ∧ ∀ k, k < n → N.1 (m + 12) k = Int32.ofNat (T k)
theorem x_kd_1 {t : Nat} : x_kd t = 1 ↔ 97 ≤ t ∧ t ≤ 122 := by
  constructor
  · intro h
    by_cases hh : 97 ≤ t ∧ t ≤ 122
    · exact hh
    · unfold x_kd at h
      rw [if_neg hh] at h
      by_cases h1 : t = 32 ∨ t = 10
      · rw [if_pos h1] at h
        cases h
      · rw [if_neg h1] at h
        by_cases h2 : 48 ≤ t ∧ t ≤ 57
        · rw [if_pos h2] at h
          cases h
        · rw [if_neg h2] at h
          cases h
  · intro h
    unfold x_kd
    rw [if_neg (by omega), if_pos h]
/-- what the reference makes of a number's figures -/
def y_nm (T : Nat → Nat) (q : Nat) : Nat → Nat
  | 0 => 0
  | d + 1 => if y_nm T q d ≤ 9999999 then 10 * y_nm T q d + T (q + d) - 48 else y_nm T q d
