/-! ===== the class's side (out of whole, by program) ===== -/
theorem zl_eq {α β : Type} (x : α) (f : α → β) : zl x f = f x := rfl
def q_W0 : q_W := fun a b => if a = b then some 0 else none
theorem q_W0_ok (Z : Nat) : f_ok Z 0 q_W0 := ⟨fun a => if_pos rfl, fun a b h _ => if_neg h, fun a b v hv => by
  unfold q_W0 at hv
  split at hv
  · cases hv; exact Nat.le_refl _
  · cases hv⟩
theorem c_clear_j {a i : Nat} {rec12 : Int32 → z_Mem → Option z_Mem} (hi : i < 8) : ∀ (r j f : Nat) (M : z_Mem), j + r = 8 → r < f → (∀ p q, q < 8 → (p < i ∨ p = i ∧ q < j) → M.1 (a + 1) (8 * p + q) = q_oi (q_W0 p q)) → ∃ M', F_Town_clear_L20 a rec12 f (Int32.ofNat i) (Int32.ofNat j) M = rec12 (Int32.ofNat (i + 1)) M' ∧ (∀ p q, q < 8 → p < i + 1 → M'.1 (a + 1) (8 * p + q) = q_oi (q_W0 p q)) ∧ (∀ x, x ≠ a + 1 → M'.1 x = M.1 x) ∧ M'.2 = M.2 := by
  intro r
  induction r with
  | zero =>
    intro j f M hj hf h
    obtain ⟨f, rfl⟩ : ∃ g, f = g + 1 := ⟨f - 1, by omega⟩
    obtain rfl : j = 8 := by omega
    unfold F_Town_clear_L20 F_Town_clear_B20
    rw [if_pos (by decide)]
    simp only [zl]
    rw [i_succ]
    exact ⟨M, rfl, fun p q hq hp => h p q hq (by omega), fun _ _ => rfl, rfl⟩
  | succ r ih =>
    intro j f M hj hf h
    obtain ⟨f, rfl⟩ : ∃ g, f = g + 1 := ⟨f - 1, by omega⟩
    have ix : Int32.ofNat i * 8 + Int32.ofNat j = Int32.ofNat (8 * i + j) := by
      rw [show (8 : Int32) = Int32.ofNat 8 from rfl, i_mul, i_add, Nat.mul_comm]
    obtain ⟨M', e, h', k', s'⟩ := ih (j + 1) f (z_wI M (a + 1) (8 * i + j) (q_oi (q_W0 i j))) (by omega) (by omega) (fun p q hq hp => by
      by_cases hpq : p = i ∧ q = j
      · rw [hpq.1, hpq.2, w_same]
      · rw [w_slot _ (by omega)]
        exact h p q hq (by omega))
    refine ⟨M', ?_, h', fun x hx => (k' x hx).trans (funext fun k => w_addr k hx), s'⟩
    unfold F_Town_clear_L20 F_Town_clear_B20
    rw [if_neg (show ¬ (8 : Int32) ≤ Int32.ofNat j from i_nle (a := 8) (by decide) (by omega) (by omega))]
    unfold F_Town_clear_J46
    rw [ix, if_pos ((i_inb (by omega)).mpr (by omega))]
    unfold q_W0 at e
    by_cases hij : i = j
    · rw [if_pos hij] at e
      rw [if_pos (by rw [hij]), i_cl (by omega)]
      simp only [zl]
      rw [i_succ]
      exact e
    · rw [if_neg hij] at e
      rw [if_neg (fun q => hij ((i_eq (by omega) (by omega)).mp q)), if_pos ((i_inb (by omega)).mpr (by omega)), i_cl (by omega)]
      simp only [zl]
      rw [i_succ]
      exact e
theorem c_clear_i {a : Nat} : ∀ (r i f : Nat) (M : z_Mem), i + r = 8 → r < f → (∀ p q, q < 8 → p < i → M.1 (a + 1) (8 * p + q) = q_oi (q_W0 p q)) → ∃ M', F_Town_clear_L12 a f (Int32.ofNat i) M = some M' ∧ q_mat M' (a + 1) q_W0 ∧ (∀ x, x ≠ a + 1 → M'.1 x = M.1 x) ∧ M'.2 = M.2 := by
  intro r
  induction r with
  | zero =>
    intro i f M hi hf h
    obtain ⟨f, rfl⟩ : ∃ g, f = g + 1 := ⟨f - 1, by omega⟩
    obtain rfl : i = 8 := by omega
    unfold F_Town_clear_L12 F_Town_clear_B12
    rw [if_pos (by decide)]
    exact ⟨M, rfl, fun p q hp hq => h p q hq hp, fun _ _ => rfl, rfl⟩
  | succ r ih =>
    intro i f M hi hf h
    obtain ⟨f, rfl⟩ : ∃ g, f = g + 1 := ⟨f - 1, by omega⟩
    obtain ⟨M1, e1, h1, k1, s1⟩ := c_clear_j (a := a) (rec12 := F_Town_clear_L12 a f) (i := i) (by omega) 8 0 10000 M (by omega) (by omega) (fun p q hq hp => h p q hq (by omega))
    obtain ⟨M', e, h', k', s'⟩ := ih (i + 1) f M1 (by omega) (by omega) h1
    refine ⟨M', ?_, h', fun x hx => (k' x hx).trans (k1 x hx), s'.trans s1⟩
    unfold F_Town_clear_L12 F_Town_clear_B12
    rw [if_neg (show ¬ (8 : Int32) ≤ Int32.ofNat i from i_nle (a := 8) (by decide) (by omega) (by omega))]
    exact e1.trans e
theorem c_townClear {a : Nat} (p0 : Int32) (M : z_Mem) : ∃ M', F_Town_clear a p0 M = some M' ∧ M'.1 a 0 = p0 ∧ M'.1 a 1 = 0 ∧ q_mat M' (a + 1) q_W0 ∧ (∀ k, k ≠ 0 → k ≠ 1 → M'.1 a k = M.1 a k) ∧ (∀ x, x ≠ a → x ≠ a + 1 → M'.1 x = M.1 x) ∧ M'.2 = M.2 := by
  obtain ⟨M', e, h, k, s⟩ := c_clear_i (a := a) 8 0 10000 (z_wI (z_wI M a 0 p0) a 1 (Int32.ofNat 0)) (by omega) (by omega) (fun p q _ hp => absurd hp (Nat.not_lt_zero p))
  have ka := k a (by omega)
  refine ⟨M', by unfold F_Town_clear; rw [zl_eq, zl_eq, i_0]; exact e, ?_, ?_, h, fun j h0 h1 => ?_, fun x h0 h1 => (k x h1).trans (funext fun j => (w_addr j h0).trans (w_addr j h0)), s⟩
  · rw [ka, w_slot _ (by decide), w_same]
  · rw [ka, w_same]
    rfl
  · rw [ka, w_slot _ h1, w_slot _ h0]
/-- a row with nothing in it -/
def q_A0 : q_R := fun k => if k = 3 then 15 else if k = 4 then 1 else if k = 5 then 5 else if k = 6 then 3 else if k = 8 then 240 else if k = 9 then 30 else 0
theorem z_sv0 : ∀ k, k < 10 → z_sv 0 k = q_A0 (3 + k) := by decide
theorem c_desk_L {a : Nat} : ∀ (r i f : Nat) (M : z_Mem), i + r = 10 → r < f → (∀ k, k < i → M.1 (a + 1) k = q_A0 (3 + k)) → ∃ M', F_Desk_clear_L27 a f (Int32.ofNat i) M = some M' ∧ (∀ k, k < 10 → M'.1 (a + 1) k = q_A0 (3 + k)) ∧ (∀ x, x ≠ a + 1 → M'.1 x = M.1 x) ∧ M'.2 = M.2 := by
  intro r
  induction r with
  | zero =>
    intro i f M hi hf h
    obtain ⟨f, rfl⟩ : ∃ g, f = g + 1 := ⟨f - 1, by omega⟩
    obtain rfl : i = 10 := by omega
    unfold F_Desk_clear_L27 F_Desk_clear_B27
    rw [if_pos (by decide)]
    exact ⟨M, rfl, h, fun _ _ => rfl, rfl⟩
  | succ r ih =>
    intro i f M hi hf h
    obtain ⟨f, rfl⟩ : ∃ g, f = g + 1 := ⟨f - 1, by omega⟩
    obtain ⟨M', e, h', k', s'⟩ := ih (i + 1) f (z_wI M (a + 1) i (q_A0 (3 + i))) (by omega) (by omega) (fun k hk => by
      by_cases hki : k = i
      · rw [hki, w_same]
      · rw [w_slot _ hki]
        exact h k (by omega))
    refine ⟨M', ?_, h', fun x hx => (k' x hx).trans (funext fun k => w_addr k hx), s'⟩
    unfold F_Desk_clear_L27 F_Desk_clear_B27
    have ib : z_inb (Int32.ofNat i) 10 := (i_inb (by omega)).mpr (by omega)
    rw [if_neg (show ¬ (10 : Int32) ≤ Int32.ofNat i from i_nle (a := 10) (by decide) (by omega) (by omega)), if_pos ib, if_pos ib, i_cl (by omega), z_sv0 i (by omega)]
    simp only [zl]
    rw [i_succ]
    exact e
theorem c_deskClear {a : Nat} (M : z_Mem) : ∃ M', F_Desk_clear a M = some M' ∧ (∀ k, k < 5 → M'.1 a k = 0) ∧ (∀ k, 5 ≤ k → M'.1 a k = M.1 a k) ∧ (∀ k, k < 10 → M'.1 (a + 1) k = q_A0 (3 + k)) ∧ (∀ x, x ≠ a → x ≠ a + 1 → M'.1 x = M.1 x) ∧ M'.2 = M.2 := by
  obtain ⟨M', e, h, k, s⟩ := c_desk_L (a := a) 10 0 10000 (z_wI (z_wI (z_wI (z_wI (z_wI M a 0 0) a 1 0) a 2 0) a 3 0) a 4 0) (by omega) (by omega) (fun p hp => absurd hp (Nat.not_lt_zero p))
  have ka := k a (by omega)
  refine ⟨M', by unfold F_Desk_clear; rw [zl_eq, zl_eq, zl_eq, zl_eq, zl_eq]; exact e, fun j hj => ?_, fun j hj => ?_, h, fun x h0 h1 => (k x h1).trans (funext fun j => by rw [w_addr _ h0, w_addr _ h0, w_addr _ h0, w_addr _ h0, w_addr _ h0]), s⟩
  · rw [ka]
    rcases (show j = 0 ∨ j = 1 ∨ j = 2 ∨ j = 3 ∨ j = 4 by omega) with rfl | rfl | rfl | rfl | rfl
    · rw [w_slot _ (by decide), w_slot _ (by decide), w_slot _ (by decide), w_slot _ (by decide), w_same]
    · rw [w_slot _ (by decide), w_slot _ (by decide), w_slot _ (by decide), w_same]
    · rw [w_slot _ (by decide), w_slot _ (by decide), w_same]
    · rw [w_slot _ (by decide), w_same]
    · rw [w_same]
  · rw [ka, w_slot _ (by omega), w_slot _ (by omega), w_slot _ (by omega), w_slot _ (by omega), w_slot _ (by omega)]
