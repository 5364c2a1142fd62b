/-! ===== the class's side (out of whole, by program) ===== -/
theorem c_all.spare {o r : Nat} {M M' : z_Mem} {s : q_S} (h : c_all o M s) (hr : q_N s.2.1 ≤ r) (hr24 : r < 24) (hx : ∀ x, x ≠ o + 5 + 16 + r → M'.1 x = M.1 x) : c_all o M' s := by
  obtain ⟨hs, h0, h1, h2, h3, h4, h5, h6, h7⟩ := h.2.1
  have hT := hs.1
  have h' := h.row (M' := M') (A' := s.2.1) (fun x hx' => hx x (by omega)) ⟨hs, by rw [hx _ (by omega)]; exact h0, by rw [hx _ (by omega)]; exact h1, by rw [hx _ (by omega)]; exact h2, by rw [hx _ (by omega)]; exact h3, by rw [hx _ (by omega)]; exact h4, fun k hk => by rw [hx _ (by omega)]; exact h5 k hk, fun t ht => (h6 t ht).keep (hx _ (by omega)) (hx _ (by omega)) (hx _ (by omega)), fun u hu => (h7 u hu).keep (hx _ (by omega))⟩
  exact h'
theorem c_all.more {o : Nat} {M M' : z_Mem} {s : q_S} {v : Nat → Int32} (h : c_all o M s) (hr : q_N s.2.1 < 24) (hx : ∀ x, x ≠ o + 5 → x ≠ o + 5 + 16 + q_N s.2.1 → M'.1 x = M.1 x) (h4 : M'.1 (o + 5) 4 = Int32.ofNat (q_N s.2.1 + 1)) (hs : ∀ k, k ≠ 4 → M'.1 (o + 5) k = M.1 (o + 5) k) (hR : c_ride M' (o + 5 + 16 + q_N s.2.1) s.1 (q_new s.2.1 (q_N s.2.1) v) (q_N s.2.1)) : c_all o M' (q_row s (q_new s.2.1 (q_N s.2.1) v)) := by
  obtain ⟨hh, h0, h1, h2, h3, -, h5, h6, h7⟩ := h.2.1
  have hT := hh.1
  have eN := q_new_N (A := s.2.1) (v := v) hr
  refine h.row (fun x hx' => hx x (by omega) (by omega)) ⟨⟨hh.1, by rw [eN]; omega⟩, by rw [hs _ (by decide), q_new_out (by omega) (by omega)]; exact h0, by rw [hs _ (by decide)]; exact h1, by rw [hs _ (by decide), q_new_out (by omega) (by omega)]; exact h2, by rw [hs _ (by decide)]; exact h3, ?_, fun k hk => by rw [hx _ (by omega) (by omega), q_new_out (by omega) (by omega)]; exact h5 k hk, fun t ht => ((h6 t ht).keep (hx _ (by omega) (by omega)) (hx _ (by omega) (by omega)) (hx _ (by omega) (by omega))).row (fun k q1 q2 => q_new_out (by omega) (by omega)), fun u hu => ?_⟩
  · rw [h4]
    unfold q_new
    rw [if_pos rfl]
  · rw [eN] at hu
    by_cases hur : u = q_N s.2.1
    · subst hur
      exact hR
    · exact ((h7 u (by omega)).keep (hx _ (by omega) (by omega))).row (fun k q1 q2 => q_new_out (by omega) (by omega))
theorem q_up_ne {s : q_S} {k j : Nat} {v : Int32} (h : j ≠ k) : (q_up s k v).2.1 j = s.2.1 j := q_w_ne h
def q_zr (A : q_R) (r i : Nat) : q_R := fun k => if 173 + 17 * r ≤ k ∧ k < 173 + 17 * r + i then 0 else A k
theorem q_zr_step {A : q_R} {r i : Nat} : q_w (q_zr A r i) (173 + 17 * r + i) 0 = q_zr A r (i + 1) := funext fun k => by
  by_cases hk : k = 173 + 17 * r + i
  · subst hk
    rw [q_w_same]
    unfold q_zr
    rw [if_pos ⟨by omega, by omega⟩]
  · rw [q_w_ne hk]
    unfold q_zr
    by_cases h : 173 + 17 * r ≤ k ∧ k < 173 + 17 * r + i
    · rw [if_pos h, if_pos (by omega)]
    · rw [if_neg h, if_neg (by omega)]
theorem q_zr_out {A : q_R} {r i k : Nat} (h : k < 173 + 17 * r ∨ 173 + 17 * r + i ≤ k) : q_zr A r i k = A k := if_neg (by omega)
theorem q_zr_in {A : q_R} {r j : Nat} (h : j < 17) : q_zr A r 17 (173 + 17 * r + j) = 0 := if_pos (by omega)
/-- what the reference writes of a new ride -/
theorem q_ask_row {A : q_R} {r : Nat} {f t p rd la de : Int32} (hr : r < 24) : q_w (q_w (q_w (q_w (q_w (q_w (q_w (q_w (q_w (q_w (q_w (q_zr A r 17) (173 + 17 * r + 1) f) (173 + 17 * r + 2) t) (173 + 17 * r + 3) p) (173 + 17 * r + 4) rd) (173 + 17 * r + 5) la) (173 + 17 * r + 6) de) (173 + 17 * r + 7) (-1)) (173 + 17 * r + 8) (-1)) (173 + 17 * r + 9) (-1)) 1 (Int32.ofNat (r + 1))) (173 + 17 * r + 0) 4 = q_new A r (q_v f t p rd la de 4 0 0 0 0 0) := funext fun k => by
  by_cases h1 : k = 1
  · subst h1
    rw [q_w_ne (by omega), q_w_same]
    unfold q_new
    rw [if_pos rfl]
  by_cases h2 : 173 + 17 * r ≤ k ∧ k < 190 + 17 * r
  · obtain ⟨j, hj, rfl⟩ : ∃ j, j < 17 ∧ k = 173 + 17 * r + j := ⟨k - (173 + 17 * r), by omega, by omega⟩
    rw [q_new_in hj]
    rcases i_17 hj with rfl | rfl | rfl | rfl | rfl | rfl | rfl | rfl | rfl | rfl | rfl | rfl | rfl | rfl | rfl | rfl | rfl
    all_goals simp (disch := omega) only [q_w_same, q_w_ne, q_zr_in]
    all_goals rfl
  · rw [q_new_out h1 (by omega)]
    simp (disch := omega) only [q_w_ne, q_zr_out]
