/-! ===== PURE: the start; the law from its entry on ===== -/
theorem p_start (p : Nat) : ∃ MA MB : z_Mem, F_Town_clear (p + 5) 2 (p_S0 p p_0) = some MA ∧ F_Desk_clear (p + 7) (p_cut p 550 MA) = some MB ∧ c_all (p + 2) (p_cut p 550 MB) q_s0 ∧ (∀ k, (p_cut p 550 MB).1 p k = 0) ∧ (p_cut p 550 MB).1 (p + 2) 1 = 0 := by
  obtain ⟨MA, eA, a0, a1, aw, -, ak, -⟩ := c_townClear (a := p + 5) 2 (p_S0 p p_0)
  obtain ⟨MB, eB, b0, -, br, bk, -⟩ := c_deskClear (a := p + 7) (p_cut p 550 MA)
  have kD : ∀ x, x < p + 550 → (p_cut p 550 MB).1 x = MB.1 x := fun x hx => p_cut_lt hx
  have kA : ∀ x, x < p + 550 → x ≠ p + 7 → x ≠ p + 8 → (p_cut p 550 MB).1 x = MA.1 x := fun x hx h5 h6 => by
    rw [kD x hx, bk x h5 (by omega), p_cut_lt hx]
  have kS : ∀ x, x < p + 550 → x ≠ p + 5 → x ≠ p + 6 → x ≠ p + 7 → x ≠ p + 8 → (p_cut p 550 MB).1 x = (p_S0 p p_0).1 x := fun x hx h3 h4 h5 h6 => by
    rw [kA x hx h5 h6, ak x h3 (by omega)]
  have s1 : (p_S0 p p_0).1 (p + 2) 1 = 0 := by
    unfold p_S0
    rw [w_addr _ (by omega), w_slot _ (by decide), w_addr _ (by omega), w_addr _ (by omega), w_slot _ (by decide), w_slot _ (by decide), w_same]
  have s2 : (p_S0 p p_0).1 (p + 2) 2 = -1 := by
    unfold p_S0
    rw [w_addr _ (by omega), w_slot _ (by decide), w_addr _ (by omega), w_addr _ (by omega), w_slot _ (by decide), w_same]
  have s4 : (p_S0 p p_0).1 (p + 2) 4 = 0 := by
    unfold p_S0
    rw [w_addr _ (by omega), w_slot _ (by decide), w_addr _ (by omega), w_addr _ (by omega), w_same]
  have s9 : (p_S0 p p_0).1 (p + 2) 9 = 0 := by
    unfold p_S0
    rw [w_addr _ (by omega), w_same]
  have h0 : (p_S0 p p_0).1 (p + 47) 0 = 0 := by
    unfold p_S0
    rw [w_addr _ (by omega), w_addr _ (by omega), w_slot _ (by decide), w_same]
  have h1 : (p_S0 p p_0).1 (p + 47) 1 = 0 := by
    unfold p_S0
    rw [w_addr _ (by omega), w_addr _ (by omega), w_same]
  have hp : ∀ k, (p_S0 p p_0).1 p k = 0 := fun k => by
    unfold p_S0
    rw [w_addr _ (by omega), w_addr _ (by omega), w_addr _ (by omega), w_addr _ (by omega), w_addr _ (by omega), w_addr _ (by omega), w_addr _ (by omega)]
    rfl
  have ko := kS (p + 2) (by omega) (by omega) (by omega) (by omega) (by omega)
  have kh := kS (p + 47) (by omega) (by omega) (by omega) (by omega) (by omega)
  have kp := kS p (by omega) (by omega) (by omega) (by omega) (by omega)
  refine ⟨MA, MB, eA, eB, ⟨⟨?_, ?_, fun k hk => ?_⟩, ⟨⟨by show (0 : Nat) ≤ 4; omega, by show (0 : Nat) ≤ 24; omega⟩, ?_, ?_, ?_, ?_, ?_, fun k hk => ?_, fun t ht => absurd ht (Nat.not_lt_zero t), fun r hr => absurd hr (Nat.not_lt_zero r)⟩, ⟨by show 0 ≤ 10; omega, ?_, 0, by omega, ?_, fun j B hB => by cases hB⟩, ?_, ⟨by show 0 ≤ 800; omega, ?_, fun k hk => absurd hk (Nat.not_lt_zero k)⟩, ?_, ⟨by show 0 ≤ 80; omega, ?_, fun k hk => absurd hk (Nat.not_lt_zero k)⟩⟩, fun k => by rw [kp]; exact hp k, by rw [ko]; exact s1⟩
  · show (p_cut p 550 MB).1 (p + 5) 0 = _
    rw [kA _ (by omega) (by omega) (by omega)]; exact a0
  · show (p_cut p 550 MB).1 (p + 5) 1 = _
    rw [kA _ (by omega) (by omega) (by omega)]; exact a1
  · show (p_cut p 550 MB).1 (p + 6) k = q_c0 k
    rw [kA _ (by omega) (by omega) (by omega)]
    have := aw (k / 8) (k % 8) (by omega) (by omega)
    rw [show 8 * (k / 8) + k % 8 = k by omega] at this
    unfold q_c0
    rw [if_pos hk]
    exact this
  · show (p_cut p 550 MB).1 (p + 7) 0 = _
    rw [kD _ (by omega)]; exact b0 0 (by omega)
  · show (p_cut p 550 MB).1 (p + 7) 1 = _
    rw [kD _ (by omega)]; exact b0 1 (by omega)
  · show (p_cut p 550 MB).1 (p + 7) 2 = _
    rw [kD _ (by omega)]; exact b0 2 (by omega)
  · show (p_cut p 550 MB).1 (p + 7) 3 = _
    rw [kD _ (by omega)]; exact b0 3 (by omega)
  · show (p_cut p 550 MB).1 (p + 7) 4 = _
    rw [kD _ (by omega)]; exact b0 4 (by omega)
  · show (p_cut p 550 MB).1 (p + 8) k = _
    rw [kD _ (by omega)]; exact br k hk
  · show (p_cut p 550 MB).1 (p + 47) 0 = _
    rw [kh]; exact h0
  · show (p_cut p 550 MB).1 (p + 47) 1 = _
    rw [kh]; exact h1
  · show (p_cut p 550 MB).1 (p + 2) 9 = 0
    rw [ko]; exact s9
  · rw [ko]; exact s1
  · rw [ko]; exact s2
  · rw [ko]; exact s4
theorem p_whole_all : p_whole := fun p L hL xs => by
  obtain ⟨MA, MB, eA, eB, hc, hp, ho⟩ := p_start p
  obtain ⟨Z, M1, s1, e1, h1⟩ := l_tells (o := p + 2) (a := p) (S := xs) (Nat.le_refl _) hL hc (hp 1) (hp 6) ho
  obtain ⟨M2, e2⟩ := l_holdsAll (S := xs) (show p < p + 2 by omega) hL h1
  refine ⟨MA, MB, M2, eA, eB, ?_⟩
  unfold F_Law_law
  rw [zb2_ok e1, if_neg (by decide), zb2_ok e2, if_neg (by decide)]
