/-! ===== the class's side (out of whole, by program) ===== -/
section PLS
variable {m t i n : Nat} {s : q_S} {l : Nat → Nat} {N : z_Mem} {rec : Int32 → Int32 → Int32 → Int32 → Int32 → Int32 → Int32 → z_Mem → Option (Int32 × z_Mem)} {p b : Int32}
end PLS
theorem q_taxiL.I {c A : q_R} {t n : Nat} {rt pt : List Nat} (h : q_taxiL c A t n rt pt) : q_taxiI A t := by
  obtain ⟨⟨a1, a2, a3, a4⟩, ⟨b1, b2, b3, b4⟩, -⟩ := h
  exact ⟨⟨rt.length, a2, a1.1, fun k hk => ⟨g_l rt k, a3 _ (g_l_mem hk), a1.2 k _ (g_l_get hk)⟩⟩, ⟨pt.length, b2, b1.1, fun k hk => ⟨g_l pt k, ((b4 _).mp (g_l_mem hk)).1, b1.2 k _ (g_l_get hk)⟩⟩⟩
theorem q_In.T {s : q_S} (hI : q_In s) {t : Nat} (ht : t < q_T s.1) : q_taxiI s.2.1 t := by
  obtain ⟨-, n, -, -, rt, pt, h⟩ := hI.2.1.2.2.2 t ht
  exact h.I
