/-! ===== PURE: what stands in the row behind a stop that was done ===== -/
theorem d5_vals {c A : q_R} {t : Nat} {rt pt : List Nat} (ht : t < 4) (h12 : rt.length ≤ 12) :
    q_d5 c A t rt pt (14 + 40 * t) = s_f c A t (g_l rt) 1 ∧ q_d5 c A t rt pt (16 + 40 * t) = -1 ∧ q_d5 c A t rt pt (18 + 40 * t) = q_tk A t (s_w c A t (g_l rt) 0) pt ∧ q_d5 c A t rt pt (20 + 40 * t) = A (20 + 40 * t) + s_w c A t (g_l rt) 0 ∧
    q_d5 c A t rt pt (21 + 40 * t) = A (21 + 40 * t) + (if pt.length = 0 then 0 else s_w c A t (g_l rt) 0) ∧ q_d5 c A t rt pt (22 + 40 * t) = A (22 + 40 * t) + (if pt.length ≤ 1 then 0 else s_w c A t (g_l rt) 0) ∧
    q_d5 c A t rt pt (23 + 40 * t) = A (23 + 40 * t) + (if pt.length = 0 then 0 else f_amt A (s_w c A t (g_l rt) 0) pt.length) := by
  have l1 := g_no_len (s := g_l rt 0) (L := rt)
  unfold q_d5 q_py q_tk
  refine ⟨?_, ?_, ?_, ?_, ?_, ?_, ?_⟩ <;> (rw [q_setL_out (by omega) (by omega)]; repeat (first | rw [q_w_same] | rw [q_w_ne (by omega)]))
theorem d5_183 {c A : q_R} {t r : Nat} {rt pt : List Nat} (ht : t < 4) (h12 : rt.length ≤ 12) :
    q_d5 c A t rt pt (183 + 17 * r) = A (183 + 17 * r) + (if r ∈ pt then f_sh (f_amt A (s_w c A t (g_l rt) 0) pt.length) pt.length r pt 0 else 0) := by
  have l1 := g_no_len (s := g_l rt 0) (L := rt)
  unfold q_d5 q_py
  rw [q_setL_out (by omega) (by omega)]
  repeat rw [q_w_ne (by omega)]
  rw [q_pd_ride, List.take_length]
  by_cases h : r ∈ pt
  · rw [if_pos h, if_pos h]
  · rw [if_neg h, if_neg h, Int32.add_zero]
/-- what is charged at the stop itself -/
def d_v (c A : q_R) (x : Nat) : Int32 := if x % 2 = 1 then (if A (184 + 17 * (x / 2)) = 1 then A 7 else c 67) else 0
/-- the ride's state behind it -/
def d_st (A : q_R) (x : Nat) : Int32 := if x % 2 = 1 then (if A (184 + 17 * (x / 2)) = 1 then 5 else 2) else 3
theorem do_vals {c A : q_R} {t : Nat} {rt pt : List Nat} (ht : t < 4) (h12 : rt.length ≤ 12) (hp6 : pt.length ≤ 6) (h6 : (f_next A pt (g_l rt 0)).length ≤ 6) :
    q_do c A t rt pt (14 + 40 * t) = s_f c A t (g_l rt) 1 ∧ q_do c A t rt pt (16 + 40 * t) = -1 ∧ q_do c A t rt pt (18 + 40 * t) = q_tk A t (s_w c A t (g_l rt) 0) pt + d_v c A (g_l rt 0) ∧ q_do c A t rt pt (20 + 40 * t) = A (20 + 40 * t) + s_w c A t (g_l rt) 0 ∧
    q_do c A t rt pt (21 + 40 * t) = A (21 + 40 * t) + (if pt.length = 0 then 0 else s_w c A t (g_l rt) 0) ∧ q_do c A t rt pt (22 + 40 * t) = A (22 + 40 * t) + (if pt.length ≤ 1 then 0 else s_w c A t (g_l rt) 0) ∧
    q_do c A t rt pt (23 + 40 * t) = A (23 + 40 * t) + (if pt.length = 0 then 0 else f_amt A (s_w c A t (g_l rt) 0) pt.length) := by
  obtain ⟨a1, a2, a3, a4, a5, a6, a7⟩ := d5_vals (c := c) (A := A) (pt := pt) ht h12
  have h9 : ∀ st v, q_d9 c A t rt pt st v (14 + 40 * t) = s_f c A t (g_l rt) 1 ∧ q_d9 c A t rt pt st v (16 + 40 * t) = -1 ∧ q_d9 c A t rt pt st v (18 + 40 * t) = q_tk A t (s_w c A t (g_l rt) 0) pt + v ∧ q_d9 c A t rt pt st v (20 + 40 * t) = A (20 + 40 * t) + s_w c A t (g_l rt) 0 ∧
      q_d9 c A t rt pt st v (21 + 40 * t) = A (21 + 40 * t) + (if pt.length = 0 then 0 else s_w c A t (g_l rt) 0) ∧ q_d9 c A t rt pt st v (22 + 40 * t) = A (22 + 40 * t) + (if pt.length ≤ 1 then 0 else s_w c A t (g_l rt) 0) ∧
      q_d9 c A t rt pt st v (23 + 40 * t) = A (23 + 40 * t) + (if pt.length = 0 then 0 else f_amt A (s_w c A t (g_l rt) 0) pt.length) := fun st v => by
    rw [← a1, ← a2, ← a4, ← a5, ← a6, ← a7]
    unfold q_d9
    refine ⟨?_, ?_, ?_, ?_, ?_, ?_, ?_⟩ <;> repeat (first | rw [q_w_same] | rw [q_w_ne (by omega)])
  unfold f_next at h6
  unfold q_do d_v
  by_cases ho : g_l rt 0 % 2 = 1
  · rw [if_pos ho] at h6 ⊢
    rw [if_pos ho]
    by_cases ha : A (184 + 17 * (g_l rt 0 / 2)) = 1
    · rw [if_pos ha, if_pos ha]
      exact h9 5 (A 7)
    · rw [if_neg ha] at h6 ⊢
      rw [if_neg ha, q_setL_out (by omega) (by omega), q_setL_out (by omega) (by omega), q_setL_out (by omega) (by omega), q_setL_out (by omega) (by omega), q_setL_out (by omega) (by omega), q_setL_out (by omega) (by omega), q_setL_out (by omega) (by omega)]
      exact h9 2 (c 67)
  · rw [if_neg ho] at h6 ⊢
    rw [if_neg ho, Int32.add_zero, ← a1, ← a3, ← a4, ← a5, ← a6, ← a7]
    rw [q_setL_out (by omega) (by omega), q_setL_out (by omega) (by omega), q_setL_out (by omega) (by omega), q_setL_out (by omega) (by omega), q_setL_out (by omega) (by omega), q_setL_out (by omega) (by omega), q_setL_out (by omega) (by omega)]
    refine ⟨?_, ?_, ?_, ?_, ?_, ?_, ?_⟩ <;> (repeat rw [q_w_ne (by omega)])
    exact a2
theorem do_183 {c A : q_R} {t r : Nat} {rt pt : List Nat} (ht : t < 4) (h12 : rt.length ≤ 12) (hp6 : pt.length ≤ 6) (h6 : (f_next A pt (g_l rt 0)).length ≤ 6) (hno : g_l rt 0 % 2 = 1 → g_l rt 0 / 2 ∉ pt) :
    q_do c A t rt pt (183 + 17 * r) = A (183 + 17 * r) + (if r ∈ pt then f_sh (f_amt A (s_w c A t (g_l rt) 0) pt.length) pt.length r pt 0 else 0) + (if r = g_l rt 0 / 2 then d_v c A (g_l rt 0) else 0) := by
  rw [← d5_183 (c := c) ht h12]
  have h9 : ∀ st v, g_l rt 0 / 2 ∉ pt → q_d9 c A t rt pt st v (183 + 17 * r) = q_d5 c A t rt pt (183 + 17 * r) + (if r = g_l rt 0 / 2 then v else 0) := fun st v hn => by
    unfold q_d9
    rw [q_w_ne (by omega)]
    by_cases hr : r = g_l rt 0 / 2
    · rw [hr, q_w_same, if_pos rfl, d5_183 ht h12, if_neg hn, Int32.add_zero]
    · rw [if_neg hr, Int32.add_zero]
      repeat rw [q_w_ne (by omega)]
  unfold f_next at h6
  unfold q_do d_v
  by_cases ho : g_l rt 0 % 2 = 1
  · rw [if_pos ho] at h6 ⊢
    rw [if_pos ho]
    by_cases ha : A (184 + 17 * (g_l rt 0 / 2)) = 1
    · rw [if_pos ha, if_pos ha, h9 _ _ (hno ho)]
    · rw [if_neg ha] at h6 ⊢
      rw [if_neg ha, q_setL_out (by omega) (by omega), h9 _ _ (hno ho)]
  · rw [if_neg ho] at h6 ⊢
    rw [if_neg ho, ite_self, Int32.add_zero, q_setL_out (by omega) (by omega)]
    repeat rw [q_w_ne (by omega)]
/-- the times of the ride -/
theorem do_181 {c A : q_R} {t : Nat} {rt pt : List Nat} (ht : t < 4) (h12 : rt.length ≤ 12) (hp6 : pt.length ≤ 6) (h6 : (f_next A pt (g_l rt 0)).length ≤ 6) :
    q_do c A t rt pt (181 + 17 * (g_l rt 0 / 2)) = (if g_l rt 0 % 2 = 1 then s_f c A t (g_l rt) 1 else A (181 + 17 * (g_l rt 0 / 2))) ∧ q_do c A t rt pt (182 + 17 * (g_l rt 0 / 2)) = (if g_l rt 0 % 2 = 1 then A (182 + 17 * (g_l rt 0 / 2)) else s_a c A t (g_l rt) 0) := by
  have o1 : q_d5 c A t rt pt (181 + 17 * (g_l rt 0 / 2)) = A (181 + 17 * (g_l rt 0 / 2)) := q_d5_out h12 ht (Or.inr (Or.inr (Or.inr (Or.inr ⟨by omega, fun r => by omega⟩))))
  have o2 : q_d5 c A t rt pt (182 + 17 * (g_l rt 0 / 2)) = A (182 + 17 * (g_l rt 0 / 2)) := q_d5_out h12 ht (Or.inr (Or.inr (Or.inr (Or.inr ⟨by omega, fun r => by omega⟩))))
  have h9 : ∀ st v, q_d9 c A t rt pt st v (181 + 17 * (g_l rt 0 / 2)) = s_f c A t (g_l rt) 1 ∧ q_d9 c A t rt pt st v (182 + 17 * (g_l rt 0 / 2)) = A (182 + 17 * (g_l rt 0 / 2)) := fun st v => by
    rw [← o2]
    unfold q_d9
    refine ⟨?_, ?_⟩ <;> repeat (first | rw [q_w_same] | rw [q_w_ne (by omega)])
  unfold f_next at h6
  unfold q_do
  by_cases ho : g_l rt 0 % 2 = 1
  · rw [if_pos ho] at h6 ⊢
    rw [if_pos ho, if_pos ho]
    by_cases ha : A (184 + 17 * (g_l rt 0 / 2)) = 1
    · rw [if_pos ha]
      exact h9 _ _
    · rw [if_neg ha] at h6 ⊢
      rw [q_setL_out (by omega) (by omega), q_setL_out (by omega) (by omega)]
      exact h9 _ _
  · rw [if_neg ho] at h6 ⊢
    rw [if_neg ho, if_neg ho, q_setL_out (by omega) (by omega), q_setL_out (by omega) (by omega), q_w_same, ← o1]
    refine ⟨?_, rfl⟩
    repeat rw [q_w_ne (by omega)]
