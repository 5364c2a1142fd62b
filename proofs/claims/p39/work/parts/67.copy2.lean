/-! ===== the class's side (out of whole, by program) ===== -/
theorem p_cq.sub {a b w d w' : Nat} {M N N' : z_Mem} {P Q : Nat → Nat → Prop} (hd : b + w ≤ a ∨ a + w ≤ b) (h : p_cq a b w M P N) (h' : p_cq (a + d) (b + d) w' N Q N') (hw : d + w' ≤ w) (hP : ∀ j k, P j k → j < d ∨ d + w' ≤ j) (hQ : ∀ j k, Q j k → j < w') : p_cq a b w M (fun j k => P j k ∨ ∃ j', j = d + j' ∧ Q j' k) N' := by
  obtain ⟨h1, h2, h3⟩ := h
  obtain ⟨g1, g2, g3⟩ := h'
  refine ⟨fun j k hp => ?_, fun x hx => ?_, g3.trans h3⟩
  · rcases hp with hp | ⟨j', rfl, hq⟩
    · have hj := hP j k hp
      rw [g2 (a + j) (by omega)]
      exact h1 j k hp
    · have hj := hQ j' k hq
      rw [← Nat.add_assoc, g1 j' k hq, h2 (b + d + j') (by omega), Nat.add_assoc]
  · rw [g2 x (by omega)]
    exact h2 x hx
/-- what the rides' loop has done; what the taxis' loop has done -/
def q_rP (n j k : Nat) : Prop := ∃ r, r < n ∧ j = 16 + r ∧ k < 19
def q_xP (n j k : Nat) : Prop := ∃ t, t < n ∧ ∃ j', j = 4 + 3 * t + j' ∧ q_tP j' k
theorem q_tP3 {j k : Nat} (h : q_tP j k) : j < 3 := by
  unfold q_tP at h
  omega
theorem p_desk_L104 {a b n : Nat} (hab : b + 40 ≤ a ∨ a + 40 ≤ b) (M : z_Mem) (hn : n ≤ 24) (ha : M.1 b 4 = Int32.ofNat n) (hr : ∀ r, r < n → M.1 (b + 16 + r) 13 = 0 ∨ M.1 (b + 16 + r) 13 = 1) (P : Nat → Nat → Prop) (hP : ∀ j k, P j k → j < 16) (hP4 : P 0 4) : ∀ (r i f : Nat) (N : z_Mem), i + r = n → r < f → p_cq a b 40 M (fun j k => P j k ∨ q_rP i j k) N → ∃ M', F_Desk_copyFrom_L104 a f b (Int32.ofNat i) N = some M' ∧ p_cq a b 40 M (fun j k => P j k ∨ q_rP n j k) M' := by
  intro r
  induction r with
  | zero =>
    intro i f N hi hf h
    obtain ⟨f, rfl⟩ : ∃ g, f = g + 1 := ⟨f - 1, by omega⟩
    have hi' : i = n := by omega
    subst hi'
    unfold F_Desk_copyFrom_L104 F_Desk_copyFrom_B104
    have e4 : N.1 a 4 = Int32.ofNat i := (h.1 0 4 (Or.inl hP4)).trans ha
    rw [e4, if_pos ((i_le (by omega) (by omega)).mpr (Nat.le_refl _))]
    exact ⟨N, rfl, h⟩
  | succ r ih =>
    intro i f N hi hf h
    obtain ⟨f, rfl⟩ : ∃ g, f = g + 1 := ⟨f - 1, by omega⟩
    unfold F_Desk_copyFrom_L104 F_Desk_copyFrom_B104
    have e4 : N.1 a 4 = Int32.ofNat n := (h.1 0 4 (Or.inl hP4)).trans ha
    have hn1 : ¬ Int32.ofNat n ≤ Int32.ofNat i := i_nle (by omega) (by omega) (by omega)
    have hn2 : ¬ (24 : Int32) ≤ Int32.ofNat i := i_nle (a := 24) (by decide) (by omega) (by omega)
    have hz : z_inb (Int32.ofNat i) 24 := (i_inb (by omega)).mpr (by omega)
    have e13 : N.1 (b + 16 + i) = M.1 (b + 16 + i) := h.2.1 _ (by omega)
    obtain ⟨N', e, h'⟩ := p_ride_copy (a := a + 16 + i) (b := b + 16 + i) (by omega) N (by rw [e13]; exact hr i (by omega))
    rw [e4, if_neg hn1, if_neg hn2, if_pos hz]
    simp only [zl, if_pos hz, i_cl (show i < 2 ^ 31 by omega), Nat.one_mul, i_succ]
    rw [zb_ok e]
    refine ih (i + 1) f N' (by omega) (by omega) ?_
    have h2 := p_cq.sub (d := 16 + i) (w' := 1) hab h (by rw [← Nat.add_assoc, ← Nat.add_assoc]; exact h') (by omega) (fun j k hp => by
      rcases hp with hp | ⟨q, hq, rfl, -⟩
      · have := hP j k hp
        omega
      · omega) (fun j k hq => by omega)
    refine h2.mono fun j k hp => ?_
    rcases hp with hp | ⟨q, hq, rfl, hk⟩
    · exact Or.inl (Or.inl hp)
    · by_cases hqi : q = i
      · exact Or.inr ⟨0, by omega, rfl, hk⟩
      · exact Or.inl (Or.inr ⟨q, by omega, rfl, hk⟩)
theorem p_desk_L68 {a b n T : Nat} (hab : b + 40 ≤ a ∨ a + 40 ≤ b) (M : z_Mem) (hn : n ≤ 24) (hT : T ≤ 4) (ha : M.1 b 4 = Int32.ofNat n) (ht : M.1 b 3 = Int32.ofNat T) (hr : ∀ r, r < n → M.1 (b + 16 + r) 13 = 0 ∨ M.1 (b + 16 + r) 13 = 1) (P : Nat → Nat → Prop) (hP : ∀ j k, P j k → j < 4) (hP4 : P 0 4) (hP3 : P 0 3) : ∀ (r i f : Nat) (N : z_Mem), i + r = T → r < f → p_cq a b 40 M (fun j k => P j k ∨ q_xP i j k) N → ∃ M', F_Desk_copyFrom_L68 a f b (Int32.ofNat i) N = some M' ∧ p_cq a b 40 M (fun j k => (P j k ∨ q_xP T j k) ∨ q_rP n j k) M' := by
  intro r
  induction r with
  | zero =>
    intro i f N hi hf h
    obtain ⟨f, rfl⟩ : ∃ g, f = g + 1 := ⟨f - 1, by omega⟩
    have hi' : i = T := by omega
    subst hi'
    unfold F_Desk_copyFrom_L68 F_Desk_copyFrom_B68 F_Desk_copyFrom_J102
    have e4 : N.1 a 3 = Int32.ofNat i := (h.1 0 3 (Or.inl hP3)).trans ht
    rw [e4, if_pos ((i_le (by omega) (by omega)).mpr (Nat.le_refl _))]
    refine p_desk_L104 hab M hn ha hr (fun j k => P j k ∨ q_xP i j k) (fun j k hp => ?_) (Or.inl hP4) n 0 10000 N (by omega) (by omega) (h.mono fun j k hp => ?_)
    · rcases hp with hp | ⟨t, ht', j', rfl, hq⟩
      · have := hP j k hp
        omega
      · have := q_tP3 hq
        omega
    · rcases hp with hp | ⟨q, hq, -⟩
      · exact hp
      · omega
  | succ r ih =>
    intro i f N hi hf h
    obtain ⟨f, rfl⟩ : ∃ g, f = g + 1 := ⟨f - 1, by omega⟩
    unfold F_Desk_copyFrom_L68 F_Desk_copyFrom_B68
    have e4 : N.1 a 3 = Int32.ofNat T := (h.1 0 3 (Or.inl hP3)).trans ht
    have hn1 : ¬ Int32.ofNat T ≤ Int32.ofNat i := i_nle (by omega) (by omega) (by omega)
    have hn2 : ¬ (4 : Int32) ≤ Int32.ofNat i := i_nle (a := 4) (by decide) (by omega) (by omega)
    have hz : z_inb (Int32.ofNat i) 4 := (i_inb (by omega)).mpr (by omega)
    obtain ⟨N', e, h'⟩ := p_taxi_copy (a := a + 4 + 3 * i) (b := b + 4 + 3 * i) (by omega) N
    rw [e4, if_neg hn1, if_neg hn2, if_pos hz]
    simp only [zl, if_pos hz, i_cl (show i < 2 ^ 31 by omega), i_succ]
    rw [zb_ok e]
    refine ih (i + 1) f N' (by omega) (by omega) ?_
    have h2 := p_cq.sub (d := 4 + 3 * i) (w' := 3) hab h (by rw [← Nat.add_assoc, ← Nat.add_assoc]; exact h') (by omega) (fun j k hp => by
      rcases hp with hp | ⟨q, hq, j', rfl, hq3⟩
      · have := hP j k hp
        omega
      · have := q_tP3 hq3
        omega) (fun j k hq => q_tP3 hq)
    refine h2.mono fun j k hp => ?_
    rcases hp with hp | ⟨q, hq, j', rfl, hk⟩
    · exact Or.inl (Or.inl hp)
    · by_cases hqi : q = i
      · subst hqi
        exact Or.inr ⟨j', rfl, hk⟩
      · exact Or.inl (Or.inr ⟨q, by omega, j', rfl, hk⟩)
theorem p_desk_L42 {a b n T : Nat} (hab : b + 40 ≤ a ∨ a + 40 ≤ b) (M : z_Mem) (hn : n ≤ 24) (hT : T ≤ 4) (ha : M.1 b 4 = Int32.ofNat n) (ht : M.1 b 3 = Int32.ofNat T) (hr : ∀ r, r < n → M.1 (b + 16 + r) 13 = 0 ∨ M.1 (b + 16 + r) 13 = 1) (P : Nat → Nat → Prop) (hP : ∀ j k, P j k → j < 4) (hP4 : P 0 4) (hP3 : P 0 3) : ∀ (r i f : Nat) (N : z_Mem), i + r = 10 → r < f → p_cq a b 40 M (fun j k => P j k ∨ (j = 1 ∧ k < i)) N → ∃ M', F_Desk_copyFrom_L42 a f b (Int32.ofNat i) N = some M' ∧ p_cq a b 40 M (fun j k => ((P j k ∨ (j = 1 ∧ k < 10)) ∨ q_xP T j k) ∨ q_rP n j k) M' := by
  intro r
  induction r with
  | zero =>
    intro i f N hi hf h
    obtain ⟨f, rfl⟩ : ∃ g, f = g + 1 := ⟨f - 1, by omega⟩
    have hi' : i = 10 := by omega
    subst hi'
    unfold F_Desk_copyFrom_L42 F_Desk_copyFrom_B42
    rw [if_pos (by decide)]
    refine p_desk_L68 hab M hn hT ha ht hr (fun j k => P j k ∨ (j = 1 ∧ k < 10)) (fun j k hp => ?_) (Or.inl hP4) (Or.inl hP3) T 0 10000 N (by omega) (by omega) (h.mono fun j k hp => ?_)
    · rcases hp with hp | ⟨hp, -⟩
      · exact hP j k hp
      · omega
    · rcases hp with hp | ⟨q, hq, -⟩
      · exact hp
      · omega
  | succ r ih =>
    intro i f N hi hf h
    obtain ⟨f, rfl⟩ : ∃ g, f = g + 1 := ⟨f - 1, by omega⟩
    unfold F_Desk_copyFrom_L42 F_Desk_copyFrom_B42
    have hn2 : ¬ (10 : Int32) ≤ Int32.ofNat i := i_nle (a := 10) (by decide) (by omega) (by omega)
    have hz : z_inb (Int32.ofNat i) 10 := (i_inb (by omega)).mpr (by omega)
    rw [if_neg hn2, if_pos hz, if_pos hz, i_cl (by omega)]
    refine p_cq.nx hab 1 i h (by omega) fun N' h' => ?_
    simp only [zl, i_succ]
    exact ih (i + 1) f N' (by omega) (by omega) h'
def q_dP (T n j k : Nat) : Prop := (((j = 0 ∧ k < 5) ∨ (j = 1 ∧ k < 10)) ∨ q_xP T j k) ∨ q_rP n j k
theorem p_desk_copy {a b n T : Nat} (hab : b + 40 ≤ a ∨ a + 40 ≤ b) (M : z_Mem) (hn : n ≤ 24) (hT : T ≤ 4) (ha : M.1 b 4 = Int32.ofNat n) (ht : M.1 b 3 = Int32.ofNat T) (hr : ∀ r, r < n → M.1 (b + 16 + r) 13 = 0 ∨ M.1 (b + 16 + r) 13 = 1) : ∃ M', F_Desk_copyFrom a b M = some M' ∧ p_cq a b 40 M (q_dP T n) M' := by
  unfold F_Desk_copyFrom
  have h0 := (p_cq.start (a := a) (b := b) (w := 40) (M := M)).nx0 0
  refine p_cq.na (P := fun _ _ => False) hab 0 h0 (by omega) fun M1 h1 => ?_
  refine p_cq.na (P := fun _ _ => False) hab 1 h1 (by omega) fun M2 h2 => ?_
  refine p_cq.na (P := fun _ _ => False) hab 2 h2 (by omega) fun M3 h3 => ?_
  refine p_cq.na (P := fun _ _ => False) hab 3 h3 (by omega) fun M4 h4 => ?_
  refine p_cq.na (P := fun _ _ => False) hab 4 h4 (by omega) fun M5 h5 => ?_
  exact p_desk_L42 hab M hn hT ha ht hr (fun j k => j = 0 ∧ k < 5) (fun j k hp => by omega) ⟨rfl, by omega⟩ ⟨rfl, by omega⟩ 10 0 10000 M5 (by omega) (by omega) ((h5.mono fun j k hk => Or.inr hk).nx0 1)
theorem c_taxi.copied {M M' : z_Mem} {a b t : Nat} {c A : q_R} (h : c_taxi M b c A t) (hc : ∀ j k, q_tP j k → M'.1 (a + j) k = M.1 (b + j) k) : c_taxi M' a c A t := by
  obtain ⟨x0, x1, x2, x3, x4, x5, x6, x7, x8, x11, x12, x13, x14, x15, x16, xr, xa⟩ := h
  have e0 : ∀ k, k < 9 → M'.1 a k = M.1 b k := fun k hk => hc 0 k (Or.inl (Or.inl (Or.inl ⟨rfl, hk⟩)))
  have e1 : ∀ k, 11 ≤ k → k < 17 → M'.1 a k = M.1 b k := fun k h1 h2 => hc 0 k (Or.inr ⟨rfl, h1, h2⟩)
  exact ⟨(e0 0 (by omega)).trans x0, (e0 1 (by omega)).trans x1, (e0 2 (by omega)).trans x2, (e0 3 (by omega)).trans x3, (e0 4 (by omega)).trans x4, (e0 5 (by omega)).trans x5, (e0 6 (by omega)).trans x6, (e0 7 (by omega)).trans x7, (e0 8 (by omega)).trans x8,
    (e1 11 (by omega) (by omega)).trans x11, (e1 12 (by omega) (by omega)).trans x12, (e1 13 (by omega) (by omega)).trans x13, (e1 14 (by omega) (by omega)).trans x14, (e1 15 (by omega) (by omega)).trans x15, (e1 16 (by omega) (by omega)).trans x16,
    fun k hk hl => (hc 1 k (Or.inl (Or.inl (Or.inr ⟨rfl, hk⟩)))).trans (xr k hk hl), fun k hk hl => (hc 2 k (Or.inl (Or.inr ⟨rfl, hk⟩))).trans (xa k hk hl)⟩
theorem c_ride.copied {M M' : z_Mem} {a b r : Nat} {c A : q_R} (h : c_ride M b c A r) (hc : ∀ k, k < 19 → M'.1 a k = M.1 b k) : c_ride M' a c A r := by
  obtain ⟨x0, x1, x2, x3, x4, x5, x6, x7, x8, x9, x10, x11, x12, x13, xo, x18⟩ := h
  exact ⟨(hc 0 (by omega)).trans x0, (hc 1 (by omega)).trans x1, (hc 2 (by omega)).trans x2, (hc 3 (by omega)).trans x3, (hc 4 (by omega)).trans x4, (hc 5 (by omega)).trans x5, (hc 6 (by omega)).trans x6, (hc 7 (by omega)).trans x7, (hc 8 (by omega)).trans x8, (hc 9 (by omega)).trans x9, (hc 10 (by omega)).trans x10, (hc 11 (by omega)).trans x11, (hc 12 (by omega)).trans x12, (hc 13 (by omega)).trans x13,
    fun h0 => ⟨(hc 14 (by omega)).trans (xo h0).1, (hc 15 (by omega)).trans (xo h0).2.1, (hc 16 (by omega)).trans (xo h0).2.2.1, (hc 17 (by omega)).trans (xo h0).2.2.2⟩, (hc 18 (by omega)).trans x18⟩
theorem c_desk.copied {M M' : z_Mem} {a b : Nat} {c A : q_R} (h : c_desk M b c A) (hc : p_cq a b 40 M (q_dP (q_T c) (q_N A)) M') : c_desk M' a c A := by
  obtain ⟨hs, x0, x1, x2, x3, x4, xr, xt, xd⟩ := h
  have e : ∀ k, k < 5 → M'.1 a k = M.1 b k := fun k hk => hc.1 0 k (Or.inl (Or.inl (Or.inl ⟨rfl, hk⟩)))
  refine ⟨hs, (e 0 (by omega)).trans x0, (e 1 (by omega)).trans x1, (e 2 (by omega)).trans x2, (e 3 (by omega)).trans x3, (e 4 (by omega)).trans x4, fun k hk => (hc.1 1 k (Or.inl (Or.inl (Or.inr ⟨rfl, hk⟩)))).trans (xr k hk), fun t ht => ?_, fun r hr => ?_⟩
  · refine (xt t ht).copied fun j k hq => ?_
    have := hc.1 (4 + 3 * t + j) k (Or.inl (Or.inr ⟨t, ht, j, rfl, hq⟩))
    rw [show a + 4 + 3 * t + j = a + (4 + 3 * t + j) by omega, show b + 4 + 3 * t + j = b + (4 + 3 * t + j) by omega]
    exact this
  · refine (xd r hr).copied fun k hk => ?_
    have := hc.1 (16 + r) k (Or.inr ⟨r, hr, rfl, hk⟩)
    rw [show a + 16 + r = a + (16 + r) by omega, show b + 16 + r = b + (16 + r) by omega]
    exact this
/-- a desk that stands for a row is copied onto another desk -/
theorem a_copy {M : z_Mem} {a b : Nat} {c A : q_R} (hab : b + 40 ≤ a ∨ a + 40 ≤ b) (h : c_desk M b c A) (hT : c 66 = Int32.ofNat (q_T c)) (hN : A 1 = Int32.ofNat (q_N A)) (hA : ∀ r, r < q_N A → A (184 + 17 * r) = 0 ∨ A (184 + 17 * r) = 1) : ∃ M', F_Desk_copyFrom a b M = some M' ∧ c_desk M' a c A ∧ (∀ x, (x < a ∨ a + 40 ≤ x) → M'.1 x = M.1 x) ∧ M'.2 = M.2 := by
  obtain ⟨M', e, hc⟩ := p_desk_copy hab M h.1.2 h.1.1 (h.2.2.2.2.2.1.trans hN) (h.2.2.2.2.1.trans hT) (fun r hr => by
    have := (h.2.2.2.2.2.2.2.2 r hr).2.2.2.2.2.2.2.2.2.2.2.2.2.1
    rw [this]
    exact hA r hr)
  exact ⟨M', e, h.copied hc, hc.2.1, hc.2.2⟩
