/-! ===== the class's side (out of whole, by program) ===== -/
def q_rowI (c A : q_R) : Prop := A 1 = Int32.ofNat (q_N A) ∧ q_N A ≤ 24
def q_conI (c : q_R) : Prop := (∃ Z, 2 ≤ Z ∧ Z ≤ 8 ∧ c 64 = Int32.ofNat Z) ∧ c 66 = Int32.ofNat (q_T c) ∧ q_T c ≤ 4
def q_I (s : q_S) : Prop := q_conI s.1 ∧ q_rowI s.1 s.2.1 ∧ (∀ B ∈ s.2.2.1, q_rowI s.1 B) ∧ ∀ B, s.2.2.2.1 = some B → q_rowI s.1 B
theorem q_I.zones {s : q_S} (h : q_I s) : ∃ Z, 2 ≤ Z ∧ Z ≤ 8 ∧ s.1 64 = Int32.ofNat Z := h.1.1
theorem q_I.taxis {s : q_S} (h : q_I s) : s.1 66 = Int32.ofNat (q_T s.1) := h.1.2.1
theorem q_I.taxis4 {s : q_S} (h : q_I s) : q_T s.1 ≤ 4 := h.1.2.2
theorem q_I.rides {s : q_S} (h : q_I s) : s.2.1 1 = Int32.ofNat (q_N s.2.1) := h.2.1.1
theorem q_I.rides24 {s : q_S} (h : q_I s) : q_N s.2.1 ≤ 24 := h.2.1.2
/-- p names none of n things -/
def q_bad (n : Nat) (p : Int32) : Prop := p < 0 ∨ ¬ p < Int32.ofNat n
theorem q_split (n : Nat) (hn : n < 2 ^ 31) (p : Int32) : (∃ t, t < n ∧ p = Int32.ofNat t) ∨ q_bad n p := by
  by_cases h0 : p < 0
  · exact Or.inr (Or.inl h0)
  · by_cases h1 : p < Int32.ofNat n
    · exact Or.inl (i_ex2 h0 h1 hn)
    · exact Or.inr (Or.inr h1)
theorem q_good {n t : Nat} (hn : n < 2 ^ 31) (ht : t < n) : ¬ q_bad n (Int32.ofNat t) := by
  rintro (h | h)
  · exact i_nn (by omega) h
  · exact h ((i_lt (by omega) hn).mpr ht)
theorem m_zones {m : Nat} {N : z_Mem} {s : q_S} (hm : m_all m N s) {Z : Nat} (hZ : s.1 64 = Int32.ofNat Z) : N.1 m 15 = Int32.ofNat Z := hm.1.1.trans hZ
theorem m_taxis {m : Nat} {N : z_Mem} {s : q_S} (hI : q_I s) (hm : m_all m N s) : N.1 m 17 = Int32.ofNat (q_T s.1) := hm.1.2.2.1.trans hI.taxis
theorem m_rides {m : Nat} {N : z_Mem} {s : q_S} (hI : q_I s) (hm : m_all m N s) : N.1 (m + 1) 1 = Int32.ofNat (q_N s.2.1) := by
  have h := hm.2.1 1 (by omega)
  exact h.trans hI.rides
theorem m_at {m : Nat} {N : z_Mem} {s : q_S} (hm : m_all m N s) {k : Nat} (hk : k < 581) : N.1 (m + 1) k = s.2.1 k := by
  have h := hm.2.1 k hk
  rw [Nat.zero_add] at h
  exact h
