/-! ===== the class's side (out of whole, by program) ===== -/
def q_absI (A : q_R) : Prop := ∀ r, r < q_N A → A (184 + 17 * r) = 0 ∨ A (184 + 17 * r) = 1
