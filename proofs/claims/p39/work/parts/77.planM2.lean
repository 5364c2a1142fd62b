/-! ===== the class's side (out of whole, by program) ===== -/
theorem q_b.of {x : Int32} {P Q : Prop} (h : q_b x P) (hPQ : P ↔ Q) : q_b x Q := by
  rcases h with h | h
  · exact Or.inl ⟨h.1, hPQ.mp h.2⟩
  · exact Or.inr ⟨h.1, fun q => h.2 (hPQ.mpr q)⟩
section PLM
variable {m t i r : Nat} {s : q_S} {l : Nat → Nat} {N : z_Mem} {rec : Int32 → Int32 → Int32 → Int32 → Int32 → Int32 → Int32 → z_Mem → Option (Int32 × z_Mem)} {st p b fr : Int32}
end PLM
