/-! ===== PURE: a desk is copied ===== -/
theorem p_cq.sub {a b w d w' : Nat} {M N N' : z_Mem} {P Q : Nat → Nat → Prop} (hd : b + w ≤ a ∨ a + w ≤ b) (h : p_cq a b w M P N) (h' : p_cq (a + d) (b + d) w' N Q N') (hw : d + w' ≤ w) (hP : ∀ j k, P j k → j < d ∨ d + w' ≤ j) (hQ : ∀ j k, Q j k → j < w') : p_cq a b w M (fun j k => P j k ∨ ∃ j', j = d + j' ∧ Q j' k) N' := by
  obtain ⟨h1, h2, h3⟩ := h
  obtain ⟨g1, g2, g3⟩ := h'
  refine ⟨fun j k hp => ?_, fun x hx => ?_, g3.trans h3⟩
  · rcases hp with hp | ⟨j', rfl, hq⟩
    · have hj := hP j k hp
      rw [g2 (a + j) (by omega)]
      exact h1 j k hp
    · have hj := hQ j' k hq
      rw [← Nat.add_assoc, g1 j' k hq, h2 (b + d + j') (by omega), Nat.add_assoc]
  · rw [g2 x (by omega)]
    exact h2 x hx
/-- what the rides' loop has done; what the taxis' loop has done -/
def q_rP (n j k : Nat) : Prop := ∃ r, r < n ∧ j = 16 + r ∧ k < 19
def q_xP (n j k : Nat) : Prop := ∃ t, t < n ∧ ∃ j', j = 4 + 3 * t + j' ∧ q_tP j' k
theorem q_tP3 {j k : Nat} (h : q_tP j k) : j < 3 := by
  unfold q_tP at h
  omega
theorem p_desk_L104 {a b n : Nat} (hab : b + 40 ≤ a ∨ a + 40 ≤ b) (M : z_Mem) (hn : n ≤ 24) (ha : M.1 b 4 = Int32.ofNat n) (hr : ∀ r, r < n → M.1 (b + 16 + r) 13 = 0 ∨ M.1 (b + 16 + r) 13 = 1) (P : Nat → Nat → Prop) (hP : ∀ j k, P j k → j < 16) (hP4 : P 0 4) : ∀ (r i f : Nat) (N : z_Mem), i + r = n → r < f → p_cq a b 40 M (fun j k => P j k ∨ q_rP i j k) N → ∃ M', F_Desk_copyFrom_L104 a f b (Int32.ofNat i) N = some M' ∧ p_cq a b 40 M (fun j k => P j k ∨ q_rP n j k) M' := by
  intro r
  induction r with
  | zero =>
    intro i f N hi hf h
    obtain ⟨f, rfl⟩ : ∃ g, f = g + 1 := ⟨f - 1, by omega⟩
    have hi' : i = n := by omega
    subst hi'
    unfold F_Desk_copyFrom_L104 F_Desk_copyFrom_B104
    have e4 : N.1 a 4 = Int32.ofNat i := (h.1 0 4 (Or.inl hP4)).trans ha
    rw [e4, if_pos ((i_le (by omega) (by omega)).mpr (Nat.le_refl _))]
    exact ⟨N, rfl, h⟩
  | succ r ih =>
    intro i f N hi hf h
    obtain ⟨f, rfl⟩ : ∃ g, f = g + 1 := ⟨f - 1, by omega⟩
    unfold F_Desk_copyFrom_L104 F_Desk_copyFrom_B104
    have e4 : N.1 a 4 = Int32.ofNat n := (h.1 0 4 (Or.inl hP4)).trans ha
    have hn1 : ¬ Int32.ofNat n ≤ Int32.ofNat i := i_nle (by omega) (by omega) (by omega)
    have hn2 : ¬ (24 : Int32) ≤ Int32.ofNat i := i_nle (a := 24) (by decide) (by omega) (by omega)
    have hz : z_inb (Int32.ofNat i) 24 := (i_inb (by omega)).mpr (by omega)
    have e13 : N.1 (b + 16 + i) = M.1 (b + 16 + i) := h.2.1 _ (by omega)
    obtain ⟨N', e, h'⟩ := p_ride_copy (a := a + 16 + i) (b := b + 16 + i) (by omega) N (by rw [e13]; exact hr i (by omega))
    rw [e4, if_neg hn1, if_neg hn2, if_pos hz]
    simp only [zl, if_pos hz, i_cl (show i < 2 ^ 31 by omega), Nat.one_mul, i_succ]
    rw [zb_ok e]
    refine ih (i + 1) f N' (by omega) (by omega) ?_
    have h2 := p_cq.sub (d := 16 + i) (w' := 1) hab h (by rw [← Nat.add_assoc, ← Nat.add_assoc]; exact h') (by omega) (fun j k hp => by
      rcases hp with hp | ⟨q, hq, rfl, -⟩
      · have := hP j k hp
        omega
      · omega) (fun j k hq => by omega)
    refine h2.mono fun j k hp => ?_
    rcases hp with hp | ⟨q, hq, rfl, hk⟩
    · exact Or.inl (Or.inl hp)
    · by_cases hqi : q = i
      · exact Or.inr ⟨0, by omega, rfl, hk⟩
      · exact Or.inl (Or.inr ⟨q, by omega, rfl, hk⟩)
theorem p_desk_L68 {a b n T : Nat} (hab : b + 40 ≤ a ∨ a + 40 ≤ b) (M : z_Mem) (hn : n ≤ 24) (hT : T ≤ 4) (ha : M.1 b 4 = Int32.ofNat n) (ht : M.1 b 3 = Int32.ofNat T) (hr : ∀ r, r < n → M.1 (b + 16 + r) 13 = 0 ∨ M.1 (b + 16 + r) 13 = 1) (P : Nat → Nat → Prop) (hP : ∀ j k, P j k → j < 4) (hP4 : P 0 4) (hP3 : P 0 3) : ∀ (r i f : Nat) (N : z_Mem), i + r = T → r < f → p_cq a b 40 M (fun j k => P j k ∨ q_xP i j k) N → ∃ M', F_Desk_copyFrom_L68 a f b (Int32.ofNat i) N = some M' ∧ p_cq a b 40 M (fun j k => (P j k ∨ q_xP T j k) ∨ q_rP n j k) M' := by
  intro r
  induction r with
  | zero =>
    intro i f N hi hf h
    obtain ⟨f, rfl⟩ : ∃ g, f = g + 1 := ⟨f - 1, by omega⟩
    have hi' : i = T := by omega
    subst hi'
    unfold F_Desk_copyFrom_L68 F_Desk_copyFrom_B68 F_Desk_copyFrom_J102
    have e4 : N.1 a 3 = Int32.ofNat i := (h.1 0 3 (Or.inl hP3)).trans ht
    rw [e4, if_pos ((i_le (by omega) (by omega)).mpr (Nat.le_refl _))]
    refine p_desk_L104 hab M hn ha hr (fun j k => P j k ∨ q_xP i j k) (fun j k hp => ?_) (Or.inl hP4) n 0 10000 N (by omega) (by omega) (h.mono fun j k hp => ?_)
    · rcases hp with hp | ⟨t, ht', j', rfl, hq⟩
      · have := hP j k hp
        omega
      · have := q_tP3 hq
        omega
    · rcases hp with hp | ⟨q, hq, -⟩
      · exact hp
      · omega
  | succ r ih =>
    intro i f N hi hf h
    obtain ⟨f, rfl⟩ : ∃ g, f = g + 1 := ⟨f - 1, by omega⟩
    unfold F_Desk_copyFrom_L68 F_Desk_copyFrom_B68
    have e4 : N.1 a 3 = Int32.ofNat T := (h.1 0 3 (Or.inl hP3)).trans ht
    have hn1 : ¬ Int32.ofNat T ≤ Int32.ofNat i := i_nle (by omega) (by omega) (by omega)
    have hn2 : ¬ (4 : Int32) ≤ Int32.ofNat i := i_nle (a := 4) (by decide) (by omega) (by omega)
    have hz : z_inb (Int32.ofNat i) 4 := (i_inb (by omega)).mpr (by omega)
    obtain ⟨N', e, h'⟩ := p_taxi_copy (a := a + 4 + 3 * i) (b := b + 4 + 3 * i) (by omega) N
    rw [e4, if_neg hn1, if_neg hn2, if_pos hz]
    simp only [zl, if_pos hz, i_cl (show i < 2 ^ 31 by omega), i_succ]
    rw [zb_ok e]
    refine ih (i + 1) f N' (by omega) (by omega) ?_
    have h2 := p_cq.sub (d := 4 + 3 * i) (w' := 3) hab h (by rw [← Nat.add_assoc, ← Nat.add_assoc]; exact h') (by omega) (fun j k hp => by
      rcases hp with hp | ⟨q, hq, j', rfl, hq3⟩
      · have := hP j k hp
        omega
      · have := q_tP3 hq3
        omega) (fun j k hq => q_tP3 hq)
    refine h2.mono fun j k hp => ?_
    rcases hp with hp | ⟨q, hq, j', rfl, hk⟩
    · exact Or.inl (Or.inl hp)
    · by_cases hqi : q = i
      · subst hqi
        exact Or.inr ⟨j', rfl, hk⟩
      · exact Or.inl (Or.inr ⟨q, by omega, j', rfl, hk⟩)
theorem p_desk_L42 {a b n T : Nat} (hab : b + 40 ≤ a ∨ a + 40 ≤ b) (M : z_Mem) (hn : n ≤ 24) (hT : T ≤ 4) (ha : M.1 b 4 = Int32.ofNat n) (ht : M.1 b 3 = Int32.ofNat T) (hr : ∀ r, r < n → M.1 (b + 16 + r) 13 = 0 ∨ M.1 (b + 16 + r) 13 = 1) (P : Nat → Nat → Prop) (hP : ∀ j k, P j k → j < 4) (hP4 : P 0 4) (hP3 : P 0 3) : ∀ (r i f : Nat) (N : z_Mem), i + r = 10 → r < f → p_cq a b 40 M (fun j k => P j k ∨ (j = 1 ∧ k < i)) N → ∃ M', F_Desk_copyFrom_L42 a f b (Int32.ofNat i) N = some M' ∧ p_cq a b 40 M (fun j k => ((P j k ∨ (j = 1 ∧ k < 10)) ∨ q_xP T j k) ∨ q_rP n j k) M' := by
  intro r
  induction r with
  | zero =>
    intro i f N hi hf h
    obtain ⟨f, rfl⟩ : ∃ g, f = g + 1 := ⟨f - 1, by omega⟩
    have hi' : i = 10 := by omega
    subst hi'
    unfold F_Desk_copyFrom_L42 F_Desk_copyFrom_B42
    rw [if_pos (by decide)]
    refine p_desk_L68 hab M hn hT ha ht hr (fun j k => P j k ∨ (j = 1 ∧ k < 10)) (fun j k hp => ?_) (Or.inl hP4) (Or.inl hP3) T 0 10000 N (by omega) (by omega) (h.mono fun j k hp => ?_)
    · rcases hp with hp | ⟨hp, -⟩
      · exact hP j k hp
      · omega
    · rcases hp with hp | ⟨q, hq, -⟩
      · exact hp
      · omega
  | succ r ih =>
    intro i f N hi hf h
    obtain ⟨f, rfl⟩ : ∃ g, f = g + 1 := ⟨f - 1, by omega⟩
    unfold F_Desk_copyFrom_L42 F_Desk_copyFrom_B42
    have hn2 : ¬ (10 : Int32) ≤ Int32.ofNat i := i_nle (a := 10) (by decide) (by omega) (by omega)
    have hz : z_inb (Int32.ofNat i) 10 := (i_inb (by omega)).mpr (by omega)
    rw [if_neg hn2, if_pos hz, if_pos hz, i_cl (by omega)]
    refine p_cq.nx hab 1 i h (by omega) fun N' h' => ?_
    simp only [zl, i_succ]
    exact ih (i + 1) f N' (by omega) (by omega) h'
def q_dP (T n j k : Nat) : Prop := (((j = 0 ∧ k < 5) ∨ (j = 1 ∧ k < 10)) ∨ q_xP T j k) ∨ q_rP n j k
theorem p_desk_copy {a b n T : Nat} (hab : b + 40 ≤ a ∨ a + 40 ≤ b) (M : z_Mem) (hn : n ≤ 24) (hT : T ≤ 4) (ha : M.1 b 4 = Int32.ofNat n) (ht : M.1 b 3 = Int32.ofNat T) (hr : ∀ r, r < n → M.1 (b + 16 + r) 13 = 0 ∨ M.1 (b + 16 + r) 13 = 1) : ∃ M', F_Desk_copyFrom a b M = some M' ∧ p_cq a b 40 M (q_dP T n) M' := by
  unfold F_Desk_copyFrom
  have h0 := (p_cq.start (a := a) (b := b) (w := 40) (M := M)).nx0 0
  refine p_cq.na (P := fun _ _ => False) hab 0 h0 (by omega) fun M1 h1 => ?_
  refine p_cq.na (P := fun _ _ => False) hab 1 h1 (by omega) fun M2 h2 => ?_
  refine p_cq.na (P := fun _ _ => False) hab 2 h2 (by omega) fun M3 h3 => ?_
  refine p_cq.na (P := fun _ _ => False) hab 3 h3 (by omega) fun M4 h4 => ?_
  refine p_cq.na (P := fun _ _ => False) hab 4 h4 (by omega) fun M5 h5 => ?_
  exact p_desk_L42 hab M hn hT ha ht hr (fun j k => j = 0 ∧ k < 5) (fun j k hp => by omega) ⟨rfl, by omega⟩ ⟨rfl, by omega⟩ 10 0 10000 M5 (by omega) (by omega) ((h5.mono fun j k hk => Or.inr hk).nx0 1)
