/-! ===== the class's side (out of whole, by program) ===== -/
/-- N is M, but that in a .. a + w the places P are as those behind b -/
def p_cq (a b w : Nat) (M : z_Mem) (P : Nat → Nat → Prop) (N : z_Mem) : Prop := (∀ j k, P j k → N.1 (a + j) k = M.1 (b + j) k) ∧ (∀ x, (x < a ∨ a + w ≤ x) → N.1 x = M.1 x) ∧ N.2 = M.2
theorem p_cq.start {a b w : Nat} {M : z_Mem} : p_cq a b w M (fun _ _ => False) M := ⟨fun _ _ h => h.elim, fun _ _ => rfl, rfl⟩
theorem p_cq.step {a b w : Nat} {M N : z_Mem} {P : Nat → Nat → Prop} (hd : b + w ≤ a ∨ a + w ≤ b) (h : p_cq a b w M P N) {j k : Nat} (hj : j < w) : p_cq a b w M (fun j' k' => P j' k' ∨ (j' = j ∧ k' = k)) (z_wI N (a + j) k (N.1 (b + j) k)) := by
  obtain ⟨h1, h2, h3⟩ := h
  have hb : N.1 (b + j) = M.1 (b + j) := h2 _ (by omega)
  refine ⟨fun j' k' hp => ?_, fun x hx => ?_, h3⟩
  · by_cases hq : j' = j ∧ k' = k
    · obtain ⟨rfl, rfl⟩ := hq
      rw [w_same, hb]
    · have hp' := hp.resolve_right hq
      rw [show (z_wI N (a + j) k (N.1 (b + j) k)).1 (a + j') k' = N.1 (a + j') k' from if_neg (fun z => hq ⟨by omega, z.2⟩)]
      exact h1 j' k' hp'
  · rw [← h2 x hx]
    exact funext fun q => w_addr q (by omega)
theorem p_cq.mono {a b w : Nat} {M N : z_Mem} {P Q : Nat → Nat → Prop} (h : p_cq a b w M P N) (hq : ∀ j k, Q j k → P j k) : p_cq a b w M Q N := ⟨fun j k hk => h.1 j k (hq j k hk), h.2⟩
theorem p_cq.go {a b w : Nat} {M N : z_Mem} {P : Nat → Nat → Prop} (hd : b + w ≤ a ∨ a + w ≤ b) (h : p_cq a b w M P N) (j k : Nat) (hj : j < w) {f : z_Mem → Option z_Mem} {R : z_Mem → Prop} (kk : ∀ N', p_cq a b w M (fun j' k' => P j' k' ∨ (j' = j ∧ k' = k)) N' → ∃ M', f N' = some M' ∧ R M') : ∃ M', zl (z_wI N (a + j) k (N.1 (b + j) k)) f = some M' ∧ R M' := kk _ (h.step hd hj)
theorem p_cq.nx {a b w : Nat} {M N : z_Mem} {P : Nat → Nat → Prop} (hd : b + w ≤ a ∨ a + w ≤ b) (j n : Nat) (h : p_cq a b w M (fun j' k' => P j' k' ∨ (j' = j ∧ k' < n)) N) (hj : j < w) {f : z_Mem → Option z_Mem} {R : z_Mem → Prop} (kk : ∀ N', p_cq a b w M (fun j' k' => P j' k' ∨ (j' = j ∧ k' < n + 1)) N' → ∃ M', f N' = some M' ∧ R M') : ∃ M', zl (z_wI N (a + j) n (N.1 (b + j) n)) f = some M' ∧ R M' :=
  kk _ ((h.step hd hj (k := n)).mono fun j' k' hp => by
    rcases hp with hp | ⟨h1, h2⟩
    · exact Or.inl (Or.inl hp)
    · by_cases hk : k' = n
      · exact Or.inr ⟨h1, hk⟩
      · exact Or.inl (Or.inr ⟨h1, by omega⟩))
theorem p_cq.nx0 {a b w : Nat} {M N : z_Mem} {P : Nat → Nat → Prop} (j : Nat) (h : p_cq a b w M P N) : p_cq a b w M (fun j' k' => P j' k' ∨ (j' = j ∧ k' < 0)) N := h.mono fun j' k' hp => by
  rcases hp with hp | ⟨-, hp⟩
  · exact hp
  · omega
theorem p_cq.na {a b w : Nat} {M N : z_Mem} {P : Nat → Nat → Prop} (hd : b + w ≤ a ∨ a + w ≤ b) (n : Nat) (h : p_cq a b w M (fun j' k' => P j' k' ∨ (j' = 0 ∧ k' < n)) N) (hj : 0 < w) {f : z_Mem → Option z_Mem} {R : z_Mem → Prop} (kk : ∀ N', p_cq a b w M (fun j' k' => P j' k' ∨ (j' = 0 ∧ k' < n + 1)) N' → ∃ M', f N' = some M' ∧ R M') : ∃ M', zl (z_wI N a n (N.1 b n)) f = some M' ∧ R M' := p_cq.nx hd 0 n h hj kk
theorem p_ride_copy {a b : Nat} (hab : b + 1 ≤ a ∨ a + 1 ≤ b) (M : z_Mem) (h13 : M.1 b 13 = 0 ∨ M.1 b 13 = 1) : ∃ M', F_Ride_copyFrom a b M = some M' ∧ p_cq a b 1 M (fun j k => j = 0 ∧ k < 19) M' := by
  unfold F_Ride_copyFrom
  have h0 := (p_cq.start (a := a) (b := b) (w := 1) (M := M)).nx0 0
  refine p_cq.na (w := 1) (P := fun _ _ => False) hab 0 h0 (by omega) fun M1 h1 => ?_
  refine p_cq.na (w := 1) (P := fun _ _ => False) hab 1 h1 (by omega) fun M2 h2 => ?_
  refine p_cq.na (w := 1) (P := fun _ _ => False) hab 2 h2 (by omega) fun M3 h3 => ?_
  refine p_cq.na (w := 1) (P := fun _ _ => False) hab 3 h3 (by omega) fun M4 h4 => ?_
  refine p_cq.na (w := 1) (P := fun _ _ => False) hab 4 h4 (by omega) fun M5 h5 => ?_
  refine p_cq.na (w := 1) (P := fun _ _ => False) hab 5 h5 (by omega) fun M6 h6 => ?_
  refine p_cq.na (w := 1) (P := fun _ _ => False) hab 6 h6 (by omega) fun M7 h7 => ?_
  refine p_cq.na (w := 1) (P := fun _ _ => False) hab 7 h7 (by omega) fun M8 h8 => ?_
  refine p_cq.na (w := 1) (P := fun _ _ => False) hab 8 h8 (by omega) fun M9 h9 => ?_
  refine p_cq.na (w := 1) (P := fun _ _ => False) hab 9 h9 (by omega) fun M10 h10 => ?_
  refine p_cq.na (w := 1) (P := fun _ _ => False) hab 10 h10 (by omega) fun M11 h11 => ?_
  refine p_cq.na (w := 1) (P := fun _ _ => False) hab 11 h11 (by omega) fun M12 h12 => ?_
  refine p_cq.na (w := 1) (P := fun _ _ => False) hab 12 h12 (by omega) fun M13 h13' => ?_
  have e : M13.1 b 13 = M.1 b 13 := congrFun (h13'.2.1 b (by omega)) 13
  rw [if_pos (by rw [e]; exact h13)]
  refine p_cq.na (w := 1) (P := fun _ _ => False) hab 13 h13' (by omega) fun M14 h14 => ?_
  refine p_cq.na (w := 1) (P := fun _ _ => False) hab 14 h14 (by omega) fun M15 h15 => ?_
  refine p_cq.na (w := 1) (P := fun _ _ => False) hab 15 h15 (by omega) fun M16 h16 => ?_
  refine p_cq.na (w := 1) (P := fun _ _ => False) hab 16 h16 (by omega) fun M17 h17 => ?_
  refine p_cq.na (w := 1) (P := fun _ _ => False) hab 17 h17 (by omega) fun M18 h18 => ?_
  refine p_cq.na (w := 1) (P := fun _ _ => False) hab 18 h18 (by omega) fun M19 h19 => ?_
  exact ⟨M19, rfl, h19.mono fun j k hk => Or.inr hk⟩
theorem p_cq.g0 {a b w : Nat} {M N : z_Mem} {P : Nat → Nat → Prop} (hd : b + w ≤ a ∨ a + w ≤ b) (k : Nat) (h : p_cq a b w M P N) (hj : 0 < w) {f : z_Mem → Option z_Mem} {R : z_Mem → Prop} (kk : ∀ N', p_cq a b w M (fun j' k' => P j' k' ∨ (j' = 0 ∧ k' = k)) N' → ∃ M', f N' = some M' ∧ R M') : ∃ M', zl (z_wI N a k (N.1 b k)) f = some M' ∧ R M' := kk _ (h.step hd (j := 0) hj)
theorem i_nle {a b : Nat} (ha : a < 2 ^ 31) (hb : b < 2 ^ 31) (h : b < a) : ¬ Int32.ofNat a ≤ Int32.ofNat b := fun q => by
  have := (i_le ha hb).mp q
  omega
theorem p_taxi_L100 {a b : Nat} (hab : b + 3 ≤ a ∨ a + 3 ≤ b) (M : z_Mem) (P : Nat → Nat → Prop) : ∀ (r i f : Nat) (N : z_Mem), i + r = 6 → r < f → p_cq a b 3 M (fun j k => P j k ∨ (j = 2 ∧ k < i)) N → ∃ M', F_Taxi_copyFrom_L100 a f b (Int32.ofNat i) N = some M' ∧ p_cq a b 3 M (fun j k => (P j k ∨ (j = 2 ∧ k < 6)) ∨ (j = 0 ∧ 11 ≤ k ∧ k < 17)) M' := by
  intro r
  induction r with
  | zero =>
    intro i f N hi hf h
    obtain ⟨f, rfl⟩ : ∃ g, f = g + 1 := ⟨f - 1, by omega⟩
    have hi6 : i = 6 := by omega
    subst hi6
    unfold F_Taxi_copyFrom_L100 F_Taxi_copyFrom_B100
    rw [if_pos (by decide)]
    refine h.g0 hab 11 (by omega) fun M1 h1 => ?_
    refine h1.g0 hab 12 (by omega) fun M2 h2 => ?_
    refine h2.g0 hab 13 (by omega) fun M3 h3 => ?_
    refine h3.g0 hab 14 (by omega) fun M4 h4 => ?_
    refine h4.g0 hab 15 (by omega) fun M5 h5 => ?_
    refine h5.g0 hab 16 (by omega) fun M6 h6 => ?_
    refine ⟨M6, rfl, h6.mono fun j k hk => ?_⟩
    rcases hk with hk | ⟨hj, hk1, hk2⟩
    · exact Or.inl (Or.inl (Or.inl (Or.inl (Or.inl (Or.inl hk)))))
    · rcases (show k = 11 ∨ k = 12 ∨ k = 13 ∨ k = 14 ∨ k = 15 ∨ k = 16 by omega) with q | q | q | q | q | q
      · exact Or.inl (Or.inl (Or.inl (Or.inl (Or.inl (Or.inr ⟨hj, q⟩)))))
      · exact Or.inl (Or.inl (Or.inl (Or.inl (Or.inr ⟨hj, q⟩))))
      · exact Or.inl (Or.inl (Or.inl (Or.inr ⟨hj, q⟩)))
      · exact Or.inl (Or.inl (Or.inr ⟨hj, q⟩))
      · exact Or.inl (Or.inr ⟨hj, q⟩)
      · exact Or.inr ⟨hj, q⟩
  | succ r ih =>
    intro i f N hi hf h
    obtain ⟨f, rfl⟩ : ∃ g, f = g + 1 := ⟨f - 1, by omega⟩
    unfold F_Taxi_copyFrom_L100 F_Taxi_copyFrom_B100
    have hz : z_inb (Int32.ofNat i) 6 := (i_inb (by omega)).mpr (by omega)
    have hn : ¬ (6 : Int32) ≤ Int32.ofNat i := i_nle (a := 6) (by decide) (by omega) (by omega)
    rw [if_neg hn, if_pos hz, if_pos hz, i_cl (by omega)]
    refine p_cq.nx hab 2 i h (by omega) fun N' h' => ?_
    simp only [zl, i_succ]
    exact ih (i + 1) f N' (by omega) (by omega) h'
theorem p_taxi_L74 {a b : Nat} (hab : b + 3 ≤ a ∨ a + 3 ≤ b) (M : z_Mem) (P : Nat → Nat → Prop) : ∀ (r i f : Nat) (N : z_Mem), i + r = 12 → r < f → p_cq a b 3 M (fun j k => P j k ∨ (j = 1 ∧ k < i)) N → ∃ M', F_Taxi_copyFrom_L74 a f b (Int32.ofNat i) N = some M' ∧ p_cq a b 3 M (fun j k => ((P j k ∨ (j = 1 ∧ k < 12)) ∨ (j = 2 ∧ k < 6)) ∨ (j = 0 ∧ 11 ≤ k ∧ k < 17)) M' := by
  intro r
  induction r with
  | zero =>
    intro i f N hi hf h
    obtain ⟨f, rfl⟩ : ∃ g, f = g + 1 := ⟨f - 1, by omega⟩
    have hi6 : i = 12 := by omega
    subst hi6
    unfold F_Taxi_copyFrom_L74 F_Taxi_copyFrom_B74
    rw [if_pos (by decide)]
    exact p_taxi_L100 hab M (fun j k => P j k ∨ (j = 1 ∧ k < 12)) 6 0 10000 N (by omega) (by omega) (h.nx0 2)
  | succ r ih =>
    intro i f N hi hf h
    obtain ⟨f, rfl⟩ : ∃ g, f = g + 1 := ⟨f - 1, by omega⟩
    unfold F_Taxi_copyFrom_L74 F_Taxi_copyFrom_B74
    have hz : z_inb (Int32.ofNat i) 12 := (i_inb (by omega)).mpr (by omega)
    have hn : ¬ (12 : Int32) ≤ Int32.ofNat i := i_nle (a := 12) (by decide) (by omega) (by omega)
    rw [if_neg hn, if_pos hz, if_pos hz, i_cl (by omega)]
    refine p_cq.nx hab 1 i h (by omega) fun N' h' => ?_
    simp only [zl, i_succ]
    exact ih (i + 1) f N' (by omega) (by omega) h'
def q_tP (j k : Nat) : Prop := (((j = 0 ∧ k < 9) ∨ (j = 1 ∧ k < 12)) ∨ (j = 2 ∧ k < 6)) ∨ (j = 0 ∧ 11 ≤ k ∧ k < 17)
theorem p_taxi_copy {a b : Nat} (hab : b + 3 ≤ a ∨ a + 3 ≤ b) (M : z_Mem) : ∃ M', F_Taxi_copyFrom a b M = some M' ∧ p_cq a b 3 M q_tP M' := by
  unfold F_Taxi_copyFrom
  have h0 := (p_cq.start (a := a) (b := b) (w := 3) (M := M)).nx0 0
  refine p_cq.na (P := fun _ _ => False) hab 0 h0 (by omega) fun M1 h1 => ?_
  refine p_cq.na (P := fun _ _ => False) hab 1 h1 (by omega) fun M2 h2 => ?_
  refine p_cq.na (P := fun _ _ => False) hab 2 h2 (by omega) fun M3 h3 => ?_
  refine p_cq.na (P := fun _ _ => False) hab 3 h3 (by omega) fun M4 h4 => ?_
  refine p_cq.na (P := fun _ _ => False) hab 4 h4 (by omega) fun M5 h5 => ?_
  refine p_cq.na (P := fun _ _ => False) hab 5 h5 (by omega) fun M6 h6 => ?_
  refine p_cq.na (P := fun _ _ => False) hab 6 h6 (by omega) fun M7 h7 => ?_
  refine p_cq.na (P := fun _ _ => False) hab 7 h7 (by omega) fun M8 h8 => ?_
  refine p_cq.na (P := fun _ _ => False) hab 8 h8 (by omega) fun M9 h9 => ?_
  exact p_taxi_L74 hab M (fun j k => j = 0 ∧ k < 9) 12 0 10000 M9 (by omega) (by omega) ((h9.mono fun j k hk => Or.inr hk).nx0 1)
