/-! ===== PURE: a desk is copied ===== -/
theorem p_cq.sub {a b w d w' : Nat} {M N N' : z_Mem} {P Q : Nat → Nat → Prop} (hd : b + w ≤ a ∨ a + w ≤ b) (h : p_cq a b w M P N) (h' : p_cq (a + d) (b + d) w' N Q N') (hw : d + w' ≤ w) (hP : ∀ j k, P j k → j < d ∨ d + w' ≤ j) (hQ : ∀ j k, Q j k → j < w') : p_cq a b w M (fun j k => P j k ∨ ∃ j', j = d + j' ∧ Q j' k) N' := by
  obtain ⟨h1, h2, h3⟩ := h
  obtain ⟨g1, g2, g3⟩ := h'
  refine ⟨fun j k hp => ?_, fun x hx => ?_, g3.trans h3⟩
  · rcases hp with hp | ⟨j', rfl, hq⟩
    · have hj := hP j k hp
      rw [g2 (a + j) (by omega)]
      exact h1 j k hp
    · have hj := hQ j' k hq
      rw [← Nat.add_assoc, g1 j' k hq, h2 (b + d + j') (by omega), Nat.add_assoc]
  · rw [g2 x (by omega)]
    exact h2 x hx
/-- what the rides' loop has done; what the taxis' loop has done -/
def q_rP (n j k : Nat) : Prop := ∃ r, r < n ∧ j = 16 + r ∧ k < 19
def q_xP (n j k : Nat) : Prop := ∃ t, t < n ∧ ∃ j', j = 4 + 3 * t + j' ∧ q_tP j' k
theorem q_tP3 {j k : Nat} (h : q_tP j k) : j < 3 := by
  unfold q_tP at h
  omega
theorem p_desk_L104 {a b n : Nat} (hab : b + 40 ≤ a ∨ a + 40 ≤ b) (M : z_Mem) (hn : n ≤ 24) (ha : M.1 b 4 = Int32.ofNat n) (hr : ∀ r, r < n → M.1 (b + 16 + r) 13 = 0 ∨ M.1 (b + 16 + r) 13 = 1) (P : Nat → Nat → Prop) (hP : ∀ j k, P j k → j < 16) (hP4 : P 0 4) : ∀ (r i f : Nat) (N : z_Mem), i + r = n → r < f → p_cq a b 40 M (fun j k => P j k ∨ q_rP i j k) N → ∃ M', F_Desk_copyFrom_L104 a f b (Int32.ofNat i) N = some M' ∧ p_cq a b 40 M (fun j k => P j k ∨ q_rP n j k) M' := by
  intro r
  induction r with
  | zero =>
    intro i f N hi hf h
    obtain ⟨f, rfl⟩ : ∃ g, f = g + 1 := ⟨f - 1, by omega⟩
    have hi' : i = n := by omega
    subst hi'
    unfold F_Desk_copyFrom_L104 F_Desk_copyFrom_B104
    have e4 : N.1 a 4 = Int32.ofNat i := (h.1 0 4 (Or.inl hP4)).trans ha
    rw [e4, if_pos ((i_le (by omega) (by omega)).mpr (Nat.le_refl _))]
    exact ⟨N, rfl, h⟩
  | succ r ih =>
    intro i f N hi hf h
    obtain ⟨f, rfl⟩ : ∃ g, f = g + 1 := ⟨f - 1, by omega⟩
    unfold F_Desk_copyFrom_L104 F_Desk_copyFrom_B104
    have e4 : N.1 a 4 = Int32.ofNat n := (h.1 0 4 (Or.inl hP4)).trans ha
    have hn1 : ¬ Int32.ofNat n ≤ Int32.ofNat i := i_nle (by omega) (by omega) (by omega)
    have hn2 : ¬ (24 : Int32) ≤ Int32.ofNat i := i_nle (a := 24) (by decide) (by omega) (by omega)
    have hz : z_inb (Int32.ofNat i) 24 := (i_inb (by omega)).mpr (by omega)
    have e13 : N.1 (b + 16 + i) = M.1 (b + 16 + i) := h.2.1 _ (by omega)
    obtain ⟨N', e, h'⟩ := p_ride_copy (a := a + 16 + i) (b := b + 16 + i) (by omega) N (by rw [e13]; exact hr i (by omega))
    rw [e4, if_neg hn1, if_neg hn2, if_pos hz]
    simp only [zl, if_pos hz, i_cl (show i < 2 ^ 31 by omega), Nat.one_mul, i_succ]
    rw [zb_ok e]
    refine ih (i + 1) f N' (by omega) (by omega) ?_
    have h2 := p_cq.sub (d := 16 + i) (w' := 1) hab h (by rw [← Nat.add_assoc, ← Nat.add_assoc]; exact h') (by omega) (fun j k hp => by
      rcases hp with hp | ⟨q, hq, rfl, -⟩
      · have := hP j k hp
        omega
      · omega) (fun j k hq => by omega)
    refine h2.mono fun j k hp => ?_
    rcases hp with hp | ⟨q, hq, rfl, hk⟩
    · exact Or.inl (Or.inl hp)
    · by_cases hqi : q = i
      · exact Or.inr ⟨0, by omega, rfl, hk⟩
      · exact Or.inl (Or.inr ⟨q, by omega, rfl, hk⟩)
