/-! ===== the class's side (out of whole, by program) ===== -/
theorem i_cmp2 (x y : Int64) : 0 < lg_cmp x y ↔ y < x := by
  unfold lg_cmp
  by_cases h : y < x
  · simp [h]
  · by_cases he : x = y
    · subst he
      simp
    · simp [h, he]
