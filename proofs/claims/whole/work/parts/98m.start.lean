/-! ===== PURE: the state at the start ===== -/
def q_c0 : q_R := fun k => if k < 64 then q_oi (q_W0 (k / 8) (k % 8)) else if k = 64 then 2 else 0
def q_s0 : q_S := (q_c0, q_A0, [], none, (fun _ => 0, 0), -1, (fun _ => 0, 0))
theorem q_W0_sts : f_sts q_W0 8 = q_W0 := f_sts_end (q_W0_ok 0) 8
theorem q_c0_way (a b : Nat) (ha : a < 8) (hb : b < 8) : q_c0 (8 * a + b) = q_oi (q_W0 a b) := by
  unfold q_c0
  rw [if_pos (by omega), show (8 * a + b) / 8 = a by omega, show (8 * a + b) % 8 = b by omega]
theorem q_s0_Inv : q_Inv q_s0 := by
  have hT : q_T q_c0 = 0 := rfl
  have hN : q_N q_A0 = 0 := rfl
  have hc : q_conI q_c0 := ⟨⟨2, by omega, by omega, rfl⟩, rfl, by rw [hT]; omega⟩
  have hw : q_conJ q_c0 := f_sts_J (Z := 0) (by omega) (q_W0_ok 0) (by omega) (fun a b ha hb => by rw [q_W0_sts]; exact q_c0_way a b ha hb)
  have hJ : q_J q_c0 q_A0 := ⟨⟨rfl, by rw [hN]; omega⟩, ⟨⟨0, by omega, rfl⟩, fun k hk => ⟨0, by omega, by
    rcases (show k = 0 ∨ k = 1 ∨ k = 2 by omega) with rfl | rfl | rfl <;> rfl⟩⟩, fun r hr => by rw [hN] at hr; omega, fun t ht => by rw [hT] at ht; omega⟩
  refine ⟨⟨⟨hc, hw⟩, hJ, fun B hB => (List.not_mem_nil hB).elim, fun B hB => by cases hB⟩, fun r hr => ?_, fun B hB => (List.not_mem_nil hB).elim, fun B hB => by cases hB⟩
  have hr : r < q_N q_A0 := hr
  rw [hN] at hr
  omega
theorem p_cut_lt {o t x : Nat} {M : z_Mem} (h : x < o + t) : (p_cut o t M).1 x = M.1 x := funext fun k => if_pos h
theorem p_cut_ge {o t x : Nat} {M : z_Mem} (h : ¬ x < o + t) (k : Nat) : (p_cut o t M).1 x k = 0 := if_neg h
theorem p_start (o : Nat) : ∃ MA MB MC MD : z_Mem, F_Town_clear (o + 3) 2 (p_S0 o p_0) = some MA ∧ F_Desk_clear (o + 5) (p_cut o 548 MA) = some MB ∧ F_Model_begins (o + 548) 2 (p_M0 o (p_cut o 548 MB)) = some MC ∧ F_Model_becomes (o + 548) (p_cut o 573 MC) = some MD ∧ c_all o (p_cut o 573 MD) q_s0 ∧ m_all (o + 548) (p_cut o 573 MD) q_s0 := by
  obtain ⟨MA, eA, a0, a1, aw, -, ak, -⟩ := c_townClear (a := o + 3) 2 (p_S0 o p_0)
  obtain ⟨MB, eB, b0, -, br, bk, -⟩ := c_deskClear (a := o + 5) (p_cut o 548 MA)
  obtain ⟨MC, eC, m7, m8, m9, m10, mr, mA, ms, mk, -⟩ := m_begins (m := o + 548) 2 (p_M0 o (p_cut o 548 MB))
  obtain ⟨MD, eD, ⟨d15, d16, d17, d18, d5, d6⟩, dw, dT, dA, ds, dk, -⟩ := m_becomes (m := o + 548) (N := p_cut o 573 MC) (Z := 2) (W := q_W0) (by omega) (q_W0_ok 2) (by omega) (by rw [p_cut_lt (by omega)]; exact m7) (fun a b ha hb hab => by
    rw [p_cut_lt (by omega), mr _ (by omega)]
    unfold q_W0
    rw [if_neg hab]
    rfl)
  refine ⟨MA, MB, MC, MD, eA, eB, eC, eD, ?_, ?_⟩
  · -- the class's part, as the two clears left it
    have kD : ∀ x, x < o + 548 → (p_cut o 573 MD).1 x = MB.1 x := fun x hx => by
      rw [p_cut_lt (by omega), dk x (by omega) (by omega) (by omega) (by omega) (by omega), p_cut_lt (by omega), mk x (by omega) (by omega) (by omega)]
      show (z_wI (p_cut o 548 MB) (o + 548) 31 (-1)).1 x = _
      exact (funext fun k => w_addr k (by omega)).trans (p_cut_lt hx)
    have kA : ∀ x, x < o + 548 → x ≠ o + 5 → x ≠ o + 6 → (p_cut o 573 MD).1 x = MA.1 x := fun x hx h5 h6 => by
      rw [kD x hx, bk x h5 (by omega), p_cut_lt hx]
    have kS : ∀ x, x < o + 548 → x ≠ o + 3 → x ≠ o + 4 → x ≠ o + 5 → x ≠ o + 6 → (p_cut o 573 MD).1 x = (p_S0 o p_0).1 x := fun x hx h3 h4 h5 h6 => by
      rw [kA x hx h5 h6, ak x h3 (by omega)]
    have s1 : (p_S0 o p_0).1 o 1 = 0 := by
      unfold p_S0
      rw [w_addr _ (by omega), w_slot _ (by decide), w_addr _ (by omega), w_addr _ (by omega)]
      show (z_wI (z_wI (z_wI p_0 o 1 0) o 2 (-1)) o 4 0).1 o 1 = 0
      rw [w_slot _ (by decide), w_slot _ (by decide), w_same]
    have s2 : (p_S0 o p_0).1 o 2 = -1 := by
      unfold p_S0
      rw [w_addr _ (by omega), w_slot _ (by decide), w_addr _ (by omega), w_addr _ (by omega)]
      show (z_wI (z_wI (z_wI p_0 o 1 0) o 2 (-1)) o 4 0).1 o 2 = -1
      rw [w_slot _ (by decide), w_same]
    have s4 : (p_S0 o p_0).1 o 4 = 0 := by
      unfold p_S0
      rw [w_addr _ (by omega), w_slot _ (by decide), w_addr _ (by omega), w_addr _ (by omega)]
      show (z_wI (z_wI (z_wI p_0 o 1 0) o 2 (-1)) o 4 0).1 o 4 = 0
      rw [w_same]
    have s9 : (p_S0 o p_0).1 o 9 = 0 := by
      unfold p_S0
      rw [w_addr _ (by omega)]
      exact w_same _ _ _ _
    have h0 : (p_S0 o p_0).1 (o + 45) 0 = 0 := by
      unfold p_S0
      rw [w_addr _ (by omega), w_addr _ (by omega), w_slot _ (by decide), w_same]
    have h1 : (p_S0 o p_0).1 (o + 45) 1 = 0 := by
      unfold p_S0
      rw [w_addr _ (by omega), w_addr _ (by omega), w_same]
    have ko := kS o (by omega) (by omega) (by omega) (by omega) (by omega)
    have kh := kS (o + 45) (by omega) (by omega) (by omega) (by omega) (by omega)
    refine ⟨⟨?_, ?_, fun k hk => ?_⟩, ⟨⟨by show (0 : Nat) ≤ 4; omega, by show (0 : Nat) ≤ 24; omega⟩, ?_, ?_, ?_, ?_, ?_, fun k hk => ?_, fun t ht => absurd ht (Nat.not_lt_zero t), fun r hr => absurd hr (Nat.not_lt_zero r)⟩, ⟨by show 0 ≤ 10; omega, ?_, 0, by omega, ?_, fun j B hB => by cases hB⟩, ?_, ⟨by show 0 ≤ 800; omega, ?_, fun k hk => absurd hk (Nat.not_lt_zero k)⟩, ?_, ⟨by show 0 ≤ 80; omega, ?_, fun k hk => absurd hk (Nat.not_lt_zero k)⟩⟩
    · rw [kA _ (by omega) (by omega) (by omega)]; exact a0
    · rw [kA _ (by omega) (by omega) (by omega)]; exact a1
    · rw [kA _ (by omega) (by omega) (by omega)]
      have := aw (k / 8) (k % 8) (by omega) (by omega)
      rw [show 8 * (k / 8) + k % 8 = k by omega] at this
      show MA.1 (o + 4) k = q_c0 k
      unfold q_c0
      rw [if_pos hk]
      exact this
    · rw [kD _ (by omega)]; exact b0 0 (by omega)
    · rw [kD _ (by omega)]; exact b0 1 (by omega)
    · rw [kD _ (by omega)]; exact b0 2 (by omega)
    · rw [kD _ (by omega)]; exact b0 3 (by omega)
    · rw [kD _ (by omega)]; exact b0 4 (by omega)
    · rw [kD _ (by omega)]; exact br k hk
    · rw [kh]; exact h0
    · rw [kh]; exact h1
    · show (p_cut o 573 MD).1 o 9 = 0
      rw [ko]; exact s9
    · rw [ko]; exact s1
    · rw [ko]; exact s2
    · rw [ko]; exact s4
  · have cD : ∀ x, x < o + 573 → (p_cut o 573 MD).1 x = MD.1 x := fun x hx => p_cut_lt hx
    have cC : ∀ x, x < o + 573 → (p_cut o 573 MC).1 x = MC.1 x := fun x hx => p_cut_lt hx
    have z6 : ∀ k, k < 4 → MC.1 (o + 548 + 6) k = 0 ∧ MC.1 (o + 548 + 7) k = 0 := fun k _ => by
      rw [mk _ (by omega) (by omega) (by omega), mk _ (by omega) (by omega) (by omega)]
      unfold p_M0
      rw [w_addr _ (by omega), w_addr _ (by omega)]
      exact ⟨p_cut_ge (by omega) k, p_cut_ge (by omega) k⟩
    have zs : ∀ k, (k < 5 ∨ 11 ≤ k) → (k < 15 ∨ 19 ≤ k) → k ≠ 31 → MD.1 (o + 548) k = 0 := fun k h1 h2 h3 => by
      rw [ds k (by omega) h2, cC _ (by omega), ms k (by omega)]
      unfold p_M0
      rw [w_slot _ h3]
      exact p_cut_ge (by omega) k
    refine ⟨⟨?_, ?_, ?_, ?_, fun k hk => ?_, fun t ht => ?_⟩, fun k hk => ?_, ⟨by show 0 ≤ 10; omega, ?_, fun j B hB => by cases hB⟩, ?_, ⟨?_, fun k hk => absurd hk (Nat.not_lt_zero k)⟩, ?_, ⟨?_, fun k hk => absurd hk (Nat.not_lt_zero k)⟩⟩
    · rw [cD _ (by omega), d15, cC _ (by omega)]; exact m7
    · rw [cD _ (by omega), d16, cC _ (by omega)]; exact m8
    · rw [cD _ (by omega), d17, cC _ (by omega)]; exact m9
    · rw [cD _ (by omega), d18, cC _ (by omega)]; exact m10
    · rw [cD _ (by omega)]
      rw [q_W0_sts] at dw
      have := dw (k / 8) (k % 8) (by omega) (by omega)
      rw [show 8 * (k / 8) + k % 8 = k by omega] at this
      show MD.1 (o + 548 + 9) k = q_c0 k
      unfold q_c0
      rw [if_pos hk]
      exact this
    · rw [cD _ (by omega), cD _ (by omega), (dT t ht).1, (dT t ht).2, cC _ (by omega), cC _ (by omega), (z6 t ht).1, (z6 t ht).2]
      show (0 : Int32) = q_c0 (70 + t) ∧ (0 : Int32) = q_c0 (80 + t)
      unfold q_c0
      rw [if_neg (by omega), if_neg (by omega), if_neg (by omega), if_neg (by omega)]
      exact ⟨rfl, rfl⟩
    · rw [cD _ (by omega), Nat.zero_add, dA k hk, cC _ (by omega)]; exact mA k hk
    · rw [cD _ (by omega)]; exact d6
    · show (p_cut o 573 MD).1 (o + 548) 5 = 0
      rw [cD _ (by omega)]; exact d5
    · rw [cD _ (by omega)]; exact zs 23 (by omega) (by omega) (by omega)
    · rw [cD _ (by omega), ds 31 (by omega) (by omega), cC _ (by omega), ms 31 (by omega)]
      exact w_same _ _ _ _
    · rw [cD _ (by omega)]; exact zs 47 (by omega) (by omega) (by omega)
