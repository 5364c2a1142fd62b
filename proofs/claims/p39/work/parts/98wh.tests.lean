/-! ===== the class's side (out of whole, by program) ===== -/
theorem h_bad.ks {o : Nat} {M M' N : z_Mem} {R : Option z_Mem} (h : h_bad o M N R) (hk : c_ks o M M') : h_bad o M' N R := by
  obtain ⟨N', e, hb, k⟩ := h
  exact ⟨N', e, hb.c hk, k⟩
