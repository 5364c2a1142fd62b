/-! ===== PURE: parts of memory are copied ===== -/
/-- N is M, but that in a .. a + w the places P are as those behind b -/
def p_cq (a b w : Nat) (M : z_Mem) (P : Nat → Nat → Prop) (N : z_Mem) : Prop := (∀ j k, P j k → N.1 (a + j) k = M.1 (b + j) k) ∧ (∀ x, (x < a ∨ a + w ≤ x) → N.1 x = M.1 x) ∧ N.2 = M.2
theorem p_cq.start {a b w : Nat} {M : z_Mem} : p_cq a b w M (fun _ _ => False) M := ⟨fun _ _ h => h.elim, fun _ _ => rfl, rfl⟩
theorem p_cq.step {a b w : Nat} {M N : z_Mem} {P : Nat → Nat → Prop} (hd : b + w ≤ a ∨ a + w ≤ b) (h : p_cq a b w M P N) {j k : Nat} (hj : j < w) : p_cq a b w M (fun j' k' => P j' k' ∨ (j' = j ∧ k' = k)) (z_wI N (a + j) k (N.1 (b + j) k)) := by
  obtain ⟨h1, h2, h3⟩ := h
  have hb : N.1 (b + j) = M.1 (b + j) := h2 _ (by omega)
  refine ⟨fun j' k' hp => ?_, fun x hx => ?_, h3⟩
  · by_cases hq : j' = j ∧ k' = k
    · obtain ⟨rfl, rfl⟩ := hq
      rw [w_same, hb]
    · have hp' := hp.resolve_right hq
      rw [show (z_wI N (a + j) k (N.1 (b + j) k)).1 (a + j') k' = N.1 (a + j') k' from if_neg (fun z => hq ⟨by omega, z.2⟩)]
      exact h1 j' k' hp'
  · rw [← h2 x hx]
    exact funext fun q => w_addr q (by omega)
theorem p_cq.mono {a b w : Nat} {M N : z_Mem} {P Q : Nat → Nat → Prop} (h : p_cq a b w M P N) (hq : ∀ j k, Q j k → P j k) : p_cq a b w M Q N := ⟨fun j k hk => h.1 j k (hq j k hk), h.2⟩
theorem p_cq.go {a b w : Nat} {M N : z_Mem} {P : Nat → Nat → Prop} (hd : b + w ≤ a ∨ a + w ≤ b) (h : p_cq a b w M P N) (j k : Nat) (hj : j < w) {f : z_Mem → Option z_Mem} {R : z_Mem → Prop} (kk : ∀ N', p_cq a b w M (fun j' k' => P j' k' ∨ (j' = j ∧ k' = k)) N' → ∃ M', f N' = some M' ∧ R M') : ∃ M', zl (z_wI N (a + j) k (N.1 (b + j) k)) f = some M' ∧ R M' := kk _ (h.step hd hj)
theorem p_cq.nx {a b w : Nat} {M N : z_Mem} {P : Nat → Nat → Prop} (hd : b + w ≤ a ∨ a + w ≤ b) (j n : Nat) (h : p_cq a b w M (fun j' k' => P j' k' ∨ (j' = j ∧ k' < n)) N) (hj : j < w) {f : z_Mem → Option z_Mem} {R : z_Mem → Prop} (kk : ∀ N', p_cq a b w M (fun j' k' => P j' k' ∨ (j' = j ∧ k' < n + 1)) N' → ∃ M', f N' = some M' ∧ R M') : ∃ M', zl (z_wI N (a + j) n (N.1 (b + j) n)) f = some M' ∧ R M' :=
  kk _ ((h.step hd hj (k := n)).mono fun j' k' hp => by
    rcases hp with hp | ⟨h1, h2⟩
    · exact Or.inl (Or.inl hp)
    · by_cases hk : k' = n
      · exact Or.inr ⟨h1, hk⟩
      · exact Or.inl (Or.inr ⟨h1, by omega⟩))
theorem p_cq.nx0 {a b w : Nat} {M N : z_Mem} {P : Nat → Nat → Prop} (j : Nat) (h : p_cq a b w M P N) : p_cq a b w M (fun j' k' => P j' k' ∨ (j' = j ∧ k' < 0)) N := h.mono fun j' k' hp => by
  rcases hp with hp | ⟨-, hp⟩
  · exact hp
  · omega
theorem p_cq.na {a b w : Nat} {M N : z_Mem} {P : Nat → Nat → Prop} (hd : b + w ≤ a ∨ a + w ≤ b) (n : Nat) (h : p_cq a b w M (fun j' k' => P j' k' ∨ (j' = 0 ∧ k' < n)) N) (hj : 0 < w) {f : z_Mem → Option z_Mem} {R : z_Mem → Prop} (kk : ∀ N', p_cq a b w M (fun j' k' => P j' k' ∨ (j' = 0 ∧ k' < n + 1)) N' → ∃ M', f N' = some M' ∧ R M') : ∃ M', zl (z_wI N a n (N.1 b n)) f = some M' ∧ R M' := p_cq.nx hd 0 n h hj kk
theorem p_ride_copy {a b : Nat} (hab : b + 1 ≤ a ∨ a + 1 ≤ b) (M : z_Mem) (h13 : M.1 b 13 = 0 ∨ M.1 b 13 = 1) : ∃ M', F_Ride_copyFrom a b M = some M' ∧ p_cq a b 1 M (fun j k => j = 0 ∧ k < 19) M' := by
  unfold F_Ride_copyFrom
  have h0 := (p_cq.start (a := a) (b := b) (w := 1) (M := M)).nx0 0
  refine p_cq.na (w := 1) (P := fun _ _ => False) hab 0 h0 (by omega) fun M1 h1 => ?_
  refine p_cq.na (w := 1) (P := fun _ _ => False) hab 1 h1 (by omega) fun M2 h2 => ?_
  refine p_cq.na (w := 1) (P := fun _ _ => False) hab 2 h2 (by omega) fun M3 h3 => ?_
  refine p_cq.na (w := 1) (P := fun _ _ => False) hab 3 h3 (by omega) fun M4 h4 => ?_
  refine p_cq.na (w := 1) (P := fun _ _ => False) hab 4 h4 (by omega) fun M5 h5 => ?_
  refine p_cq.na (w := 1) (P := fun _ _ => False) hab 5 h5 (by omega) fun M6 h6 => ?_
  refine p_cq.na (w := 1) (P := fun _ _ => False) hab 6 h6 (by omega) fun M7 h7 => ?_
  refine p_cq.na (w := 1) (P := fun _ _ => False) hab 7 h7 (by omega) fun M8 h8 => ?_
  refine p_cq.na (w := 1) (P := fun _ _ => False) hab 8 h8 (by omega) fun M9 h9 => ?_
  refine p_cq.na (w := 1) (P := fun _ _ => False) hab 9 h9 (by omega) fun M10 h10 => ?_
  refine p_cq.na (w := 1) (P := fun _ _ => False) hab 10 h10 (by omega) fun M11 h11 => ?_
  refine p_cq.na (w := 1) (P := fun _ _ => False) hab 11 h11 (by omega) fun M12 h12 => ?_
  refine p_cq.na (w := 1) (P := fun _ _ => False) hab 12 h12 (by omega) fun M13 h13' => ?_
  have e : M13.1 b 13 = M.1 b 13 := congrFun (h13'.2.1 b (by omega)) 13
  rw [if_pos (by rw [e]; exact h13)]
  refine p_cq.na (w := 1) (P := fun _ _ => False) hab 13 h13' (by omega) fun M14 h14 => ?_
  refine p_cq.na (w := 1) (P := fun _ _ => False) hab 14 h14 (by omega) fun M15 h15 => ?_
  refine p_cq.na (w := 1) (P := fun _ _ => False) hab 15 h15 (by omega) fun M16 h16 => ?_
  refine p_cq.na (w := 1) (P := fun _ _ => False) hab 16 h16 (by omega) fun M17 h17 => ?_
  refine p_cq.na (w := 1) (P := fun _ _ => False) hab 17 h17 (by omega) fun M18 h18 => ?_
  refine p_cq.na (w := 1) (P := fun _ _ => False) hab 18 h18 (by omega) fun M19 h19 => ?_
  exact ⟨M19, rfl, h19.mono fun j k hk => Or.inr hk⟩
