/-! ===== the class's side (out of whole, by program) ===== -/
theorem q_tail {A : q_R} {P rt : List Nat} (h : f_inv A P rt) (h0 : 0 < rt.length) : rt.filter (g_no (g_l rt 0)) = rt.drop 1 := by
  have hd := f_drop h0
  rw [List.drop_zero] at hd
  generalize hx : g_l rt 0 = x at hd
  have hd' : rt = x :: rt.drop 1 := hd
  rw [hd'] at h
  have hnot : x ∉ rt.drop 1 := fun q => by
    have hm := q_ofr_mem q
    rcases h.first with ⟨-, -, e⟩ | ⟨ho, -, ⟨-, e⟩ | ⟨-, e⟩⟩
    · rw [e] at hm
      cases hm
    · rw [e] at hm
      cases hm
    · rw [e, List.mem_singleton] at hm
      omega
  have e1 : (x :: rt.drop 1).filter (g_no x) = rt.drop 1 := by
    rw [List.filter_cons_of_neg (fun q => g_no_t.mp q rfl)]
    refine List.filter_eq_self.mpr fun y hy => g_no_t.mpr fun q => hnot (q ▸ hy)
  rw [← hd'] at e1
  exact e1
