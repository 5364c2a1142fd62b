/-! ===== the class's side (out of whole, by program) ===== -/
def q_c0 : q_R := fun k => if k < 64 then q_oi (q_W0 (k / 8) (k % 8)) else if k = 64 then 2 else 0
def q_s0 : q_S := (q_c0, q_A0, [], none, (fun _ => 0, 0), -1, (fun _ => 0, 0))
theorem q_W0_sts : f_sts q_W0 8 = q_W0 := f_sts_end (q_W0_ok 0) 8
theorem q_c0_way (a b : Nat) (ha : a < 8) (hb : b < 8) : q_c0 (8 * a + b) = q_oi (q_W0 a b) := by
  unfold q_c0
  rw [if_pos (by omega), show (8 * a + b) / 8 = a by omega, show (8 * a + b) % 8 = b by omega]
theorem q_s0_Inv : q_Inv q_s0 := by
  have hT : q_T q_c0 = 0 := rfl
  have hN : q_N q_A0 = 0 := rfl
  have hc : q_conI q_c0 := ⟨⟨2, by omega, by omega, rfl⟩, rfl, by rw [hT]; omega⟩
  have hw : q_conJ q_c0 := f_sts_J (Z := 0) (by omega) (q_W0_ok 0) (by omega) (fun a b ha hb => by rw [q_W0_sts]; exact q_c0_way a b ha hb)
  have hJ : q_J q_c0 q_A0 := ⟨⟨rfl, by rw [hN]; omega⟩, ⟨⟨0, by omega, rfl⟩, fun k hk => ⟨0, by omega, by
    rcases (show k = 0 ∨ k = 1 ∨ k = 2 by omega) with rfl | rfl | rfl <;> rfl⟩⟩, fun r hr => by rw [hN] at hr; omega, fun t ht => by rw [hT] at ht; omega⟩
  refine ⟨⟨⟨hc, hw⟩, hJ, fun B hB => (List.not_mem_nil hB).elim, fun B hB => by cases hB⟩, fun r hr => ?_, fun B hB => (List.not_mem_nil hB).elim, fun B hB => by cases hB⟩
  have hr : r < q_N q_A0 := hr
  rw [hN] at hr
  omega
