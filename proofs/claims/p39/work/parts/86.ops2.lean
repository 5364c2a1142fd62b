/-! ===== the class's side (out of whole, by program) ===== -/
/-- a ride that no taxi has gets another state that no taxi has -/
theorem q_Inv.close {s : q_S} {r : Nat} {v : Int32} (h : q_Inv s) (hr : r < q_N s.2.1) (h0 : ¬ (s.2.1 (173 + 17 * r) = 1 ∨ s.2.1 (173 + 17 * r) = 2)) (h1 : v ≠ 0 ∧ v ≠ 1 ∧ v ≠ 2) : q_Inv (q_up s (173 + 17 * r) v) := by
  have hN := h.1.I.rides24
  have hT4 := h.1.I.taxis4
  have eN : q_N (q_w s.2.1 (173 + 17 * r) v) = q_N s.2.1 := q_N_w (by omega)
  have hsR : ∀ r', r' ≠ r → r' < q_N s.2.1 → q_sameR s.2.1 (q_w s.2.1 (173 + 17 * r) v) r' := fun r' hrr hr' => ⟨fun j q1 q2 => q_w_ne (by omega), q_w_ne (by omega), q_w_ne (by omega)⟩
  refine h.row (h.1.2.1.quiet ⟨?_, by rw [eN]; exact hN⟩ (h.1.2.1.2.1.w (by omega) (by omega)) (by rw [eN]; exact Nat.le_refl _) (fun t ht => ?_) (fun r' hr' => ?_)) (fun r' hr' h0' => ?_)
  · rw [eN, q_w_ne (by omega)]
    exact h.1.I.rides
  · exact ⟨q_w_ne (by omega), q_w_ne (by omega), fun j q1 q2 => q_w_ne (by omega)⟩
  · rw [eN] at hr'
    by_cases hrr : r' = r
    · subst hrr
      refine Or.inr ⟨?_, ?_, fun _ => h0⟩
      · have hJ := h.1.2.1.2.2.1 r' hr'
        unfold q_rideJ at hJ ⊢
        rw [q_w_ne (show 174 + 17 * r' ≠ 173 + 17 * r' by omega), q_w_ne (show 175 + 17 * r' ≠ 173 + 17 * r' by omega), q_w_ne (show 184 + 17 * r' ≠ 173 + 17 * r' by omega), q_w_ne (show 176 + 17 * r' ≠ 173 + 17 * r' by omega), q_w_same]
        refine ⟨hJ.1, hJ.2.1, fun q => ?_⟩
        rcases q with q | q
        · exact absurd q h1.2.1
        · exact absurd q h1.2.2
      · rw [q_w_same]
        rintro (q | q)
        · exact h1.2.1 q
        · exact h1.2.2 q
    · exact Or.inl ⟨hr', hsR r' hrr hr'⟩
  · rw [eN] at hr'
    by_cases hrr : r' = r
    · subst hrr
      rw [q_w_same] at h0'
      exact absurd h0' h1.1
    · rw [q_w_ne (by omega)] at h0'
      rw [q_w_ne (show 185 + 17 * r' ≠ 173 + 17 * r by omega), q_w_ne (show 184 + 17 * r' ≠ 173 + 17 * r by omega)]
      exact h.2.1 r' hr' h0'
