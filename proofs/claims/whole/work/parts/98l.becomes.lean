/-! ===== PURE: what was read becomes what holds ===== -/
/-- what the reference's becoming leaves -/
def m_bec (m : Nat) (N N' : z_Mem) (W : q_W) : Prop := (N'.1 m 15 = N.1 m 7 ∧ N'.1 m 16 = N.1 m 8 ∧ N'.1 m 17 = N.1 m 9 ∧ N'.1 m 18 = N.1 m 10 ∧ N'.1 m 5 = 0 ∧ N'.1 m 6 = 0) ∧ q_mat N' (m + 9) W ∧ (∀ k, k < 4 → N'.1 (m + 10) k = N.1 (m + 6) k ∧ N'.1 (m + 11) k = N.1 (m + 7) k) ∧ (∀ k, k < 581 → N'.1 (m + 1) k = N.1 (m + 2) k) ∧ (∀ k, (k < 5 ∨ 7 ≤ k) → (k < 15 ∨ 19 ≤ k) → N'.1 m k = N.1 m k) ∧ (∀ x, x ≠ m → x ≠ m + 1 → x ≠ m + 9 → x ≠ m + 10 → x ≠ m + 11 → N'.1 x = N.1 x) ∧ N'.2 = N.2
theorem m_bec3 {m Z B : Nat} {W : q_W} (hZ : Z ≤ 8) (hW : f_ok Z B W) (hB : B ≤ 99) : ∀ (r i f : Nat) (N : z_Mem), i + r = 581 → r < f → N.1 m 15 = Int32.ofNat Z → q_mat N (m + 9) W → (∀ k, k < i → N.1 (m + 1) k = N.1 (m + 2) k) → ∃ N', F_Model_becomes_L112 m f (Int32.ofNat i) N = some N' ∧ (N'.1 m 5 = 0 ∧ N'.1 m 6 = 0) ∧ q_mat N' (m + 9) (f_sts W 8) ∧ (∀ k, k < 581 → N'.1 (m + 1) k = N.1 (m + 2) k) ∧ (∀ k, (k < 5 ∨ 7 ≤ k) → N'.1 m k = N.1 m k) ∧ (∀ x, x ≠ m → x ≠ m + 1 → x ≠ m + 9 → N'.1 x = N.1 x) ∧ N'.2 = N.2 := by
  intro r
  induction r with
  | zero =>
    intro i f N hi hf hz hm h
    obtain ⟨f, rfl⟩ : ∃ g, f = g + 1 := ⟨f - 1, by omega⟩
    obtain rfl : i = 581 := by omega
    obtain ⟨N1, e1, h1, k1, s1⟩ := m_laysWays hZ hW hB hz hm
    unfold F_Model_becomes_L112 F_Model_becomes_B112
    rw [if_pos (by decide), zb_ok e1]
    simp only [zl]
    refine ⟨_, rfl, ⟨w_same _ _ _ _, (w_slot _ (by decide)).trans (w_same _ _ _ _)⟩, fun p q hp hq => ?_, fun k hk => ?_, fun k hk => ?_, fun x h0 h1 h9 => funext fun k => ?_, s1⟩
    · rw [w_addr _ (by omega), w_addr _ (by omega)]
      exact h1 p q hp hq
    · rw [w_addr _ (by omega), w_addr _ (by omega), k1 _ (by omega)]
      exact h k hk
    · rw [w_slot _ (by omega), w_slot _ (by omega), k1 _ (by omega)]
    · rw [w_addr _ h0, w_addr _ h0, k1 _ h9]
  | succ r ih =>
    intro i f N hi hf hz hm h
    obtain ⟨f, rfl⟩ : ∃ g, f = g + 1 := ⟨f - 1, by omega⟩
    have k0 : ∀ x, x ≠ m + 1 → (z_wI N (m + 1) i (N.1 (m + 2) i)).1 x = N.1 x := fun x hx => funext fun k => w_addr k hx
    obtain ⟨N', e, h', g', hA', hs', k', s'⟩ := ih (i + 1) f (z_wI N (m + 1) i (N.1 (m + 2) i)) (by omega) (by omega) (by rw [k0 _ (by omega)]; exact hz) (fun p q hp hq => by rw [k0 _ (by omega)]; exact hm p q hp hq) (fun k hk => by
      rw [k0 (m + 2) (by omega)]
      by_cases hki : k = i
      · rw [hki, w_same]
      · rw [w_slot _ hki]
        exact h k (by omega))
    refine ⟨N', ?_, h', g', fun k hk => by rw [hA' k hk, k0 _ (by omega)], fun k hk => by rw [hs' k hk, k0 _ (by omega)], fun x h0 h1 h9 => (k' x h0 h1 h9).trans (k0 x h1), s'⟩
    have ib : z_inb (Int32.ofNat i) 581 := (i_inb (by omega)).mpr (by omega)
    unfold F_Model_becomes_L112 F_Model_becomes_B112
    rw [if_neg (show ¬ (581 : Int32) ≤ Int32.ofNat i from i_nle (a := 581) (by decide) (by omega) (by omega)), if_pos ib, if_pos ib, i_cl (by omega)]
    simp only [zl]
    rw [i_succ]
    exact e
theorem m_bec2 {m Z B : Nat} {W : q_W} (hZ : Z ≤ 8) (hW : f_ok Z B W) (hB : B ≤ 99) : ∀ (r i f : Nat) (N : z_Mem), i + r = 4 → r < f → N.1 m 15 = Int32.ofNat Z → q_mat N (m + 9) W → (∀ k, k < i → N.1 (m + 10) k = N.1 (m + 6) k ∧ N.1 (m + 11) k = N.1 (m + 7) k) → ∃ N', F_Model_becomes_L75 m f (Int32.ofNat i) N = some N' ∧ (N'.1 m 5 = 0 ∧ N'.1 m 6 = 0) ∧ q_mat N' (m + 9) (f_sts W 8) ∧ (∀ k, k < 4 → N'.1 (m + 10) k = N.1 (m + 6) k ∧ N'.1 (m + 11) k = N.1 (m + 7) k) ∧ (∀ k, k < 581 → N'.1 (m + 1) k = N.1 (m + 2) k) ∧ (∀ k, (k < 5 ∨ 7 ≤ k) → N'.1 m k = N.1 m k) ∧ (∀ x, x ≠ m → x ≠ m + 1 → x ≠ m + 9 → x ≠ m + 10 → x ≠ m + 11 → N'.1 x = N.1 x) ∧ N'.2 = N.2 := by
  intro r
  induction r with
  | zero =>
    intro i f N hi hf hz hm h
    obtain ⟨f, rfl⟩ : ∃ g, f = g + 1 := ⟨f - 1, by omega⟩
    obtain rfl : i = 4 := by omega
    obtain ⟨N', e, h', g', hA', hs', k', s'⟩ := m_bec3 hZ hW hB 581 0 10000 N (by omega) (by omega) hz hm (fun k hk => absurd hk (Nat.not_lt_zero k))
    refine ⟨N', ?_, h', g', fun k hk => ?_, hA', hs', fun x h0 h1 h9 _ _ => k' x h0 h1 h9, s'⟩
    · unfold F_Model_becomes_L75 F_Model_becomes_B75
      rw [if_pos (by decide)]
      exact e
    · rw [k' _ (by omega) (by omega) (by omega), k' _ (by omega) (by omega) (by omega)]
      exact h k hk
  | succ r ih =>
    intro i f N hi hf hz hm h
    obtain ⟨f, rfl⟩ : ∃ g, f = g + 1 := ⟨f - 1, by omega⟩
    obtain ⟨N1, eN⟩ : ∃ N1, N1 = z_wI (z_wI N (m + 10) i (N.1 (m + 6) i)) (m + 11) i (N.1 (m + 7) i) := ⟨_, rfl⟩
    have k0 : ∀ x, x ≠ m + 10 → x ≠ m + 11 → N1.1 x = N.1 x := fun x hx hx' => funext fun k => by rw [eN, w_addr _ hx', w_addr _ hx]
    obtain ⟨N', e, h', g', hT', hA', hs', k', s'⟩ := ih (i + 1) f N1 (by omega) (by omega) (by rw [k0 _ (by omega) (by omega)]; exact hz) (fun p q hp hq => by rw [k0 _ (by omega) (by omega)]; exact hm p q hp hq) (fun k hk => by
      rw [k0 (m + 6) (by omega) (by omega), k0 (m + 7) (by omega) (by omega), eN]
      by_cases hki : k = i
      · rw [hki, w_same, w_addr _ (by omega), w_same]
        exact ⟨rfl, rfl⟩
      · rw [w_addr _ (show m + 10 ≠ m + 11 by omega), w_slot _ hki, w_slot _ hki, w_addr _ (show m + 11 ≠ m + 10 by omega)]
        exact h k (by omega))
    refine ⟨N', ?_, h', g', fun k hk => by rw [(hT' k hk).1, (hT' k hk).2, k0 _ (by omega) (by omega), k0 _ (by omega) (by omega)]; exact ⟨rfl, rfl⟩, fun k hk => by rw [hA' k hk, k0 _ (by omega) (by omega)], fun k hk => by rw [hs' k hk, k0 _ (by omega) (by omega)], fun x h0 h1 h9 h10 h11 => (k' x h0 h1 h9 h10 h11).trans (k0 x h10 h11), s'.trans (by rw [eN]; rfl)⟩
    have ib : z_inb (Int32.ofNat i) 4 := (i_inb (by omega)).mpr (by omega)
    unfold F_Model_becomes_L75 F_Model_becomes_B75
    rw [if_neg (show ¬ (4 : Int32) ≤ Int32.ofNat i from i_nle (a := 4) (by decide) (by omega) (by omega)), if_pos ib, if_pos ib]
    simp only [zl]
    rw [if_pos ib, if_pos ib, i_cl (by omega), i_succ, w_addr (a := m + 10) i (show m + 7 ≠ m + 10 by omega), ← eN]
    exact e
theorem m_bec1 {m Z B : Nat} {W : q_W} (hZ : Z ≤ 8) (hW : f_ok Z B W) (hB : B ≤ 99) : ∀ (r i f : Nat) (N : z_Mem), i + r = 64 → r < f → N.1 m 15 = Int32.ofNat Z → (∀ a b, a < 8 → b < 8 → a ≠ b → N.1 (m + 5) (8 * a + b) = q_oi (W a b)) → (∀ a b, a < 8 → b < 8 → 8 * a + b < i → N.1 (m + 9) (8 * a + b) = q_oi (W a b)) → ∃ N', F_Model_becomes_L34 m f (Int32.ofNat i) N = some N' ∧ (N'.1 m 5 = 0 ∧ N'.1 m 6 = 0) ∧ q_mat N' (m + 9) (f_sts W 8) ∧ (∀ k, k < 4 → N'.1 (m + 10) k = N.1 (m + 6) k ∧ N'.1 (m + 11) k = N.1 (m + 7) k) ∧ (∀ k, k < 581 → N'.1 (m + 1) k = N.1 (m + 2) k) ∧ (∀ k, (k < 5 ∨ 7 ≤ k) → N'.1 m k = N.1 m k) ∧ (∀ x, x ≠ m → x ≠ m + 1 → x ≠ m + 9 → x ≠ m + 10 → x ≠ m + 11 → N'.1 x = N.1 x) ∧ N'.2 = N.2 := by
  intro r
  induction r with
  | zero =>
    intro i f N hi hf hz hr h
    obtain ⟨f, rfl⟩ : ∃ g, f = g + 1 := ⟨f - 1, by omega⟩
    obtain rfl : i = 64 := by omega
    obtain ⟨N', e, r'⟩ := m_bec2 (m := m) hZ hW hB 4 0 10000 N (by omega) (by omega) hz (fun a b ha hb => h a b ha hb (by omega)) (fun k hk => absurd hk (Nat.not_lt_zero k))
    refine ⟨N', ?_, r'⟩
    unfold F_Model_becomes_L34 F_Model_becomes_B34
    rw [if_pos (by decide)]
    exact e
  | succ r ih =>
    intro i f N hi hf hz hr h
    obtain ⟨f, rfl⟩ : ∃ g, f = g + 1 := ⟨f - 1, by omega⟩
    have ed : Int32.ofNat i / 8 = Int32.ofNat (i / 8) := i_div (b := 8) (by omega) (by decide)
    have em : Int32.ofNat i - Int32.ofNat (i / 8) * 8 = Int32.ofNat (i % 8) := by
      have := i_mod i 8 (by omega) (by omega)
      rw [← ed]
      exact this
    have ib : z_inb (Int32.ofNat i) 64 := (i_inb (by omega)).mpr (by omega)
    have go : ∀ v, v = q_oi (W (i / 8) (i % 8)) → ∃ N', F_Model_becomes_J66 m (F_Model_becomes_L34 m f) (Int32.ofNat i) v (Int32.ofNat i) N = some N' ∧ (N'.1 m 5 = 0 ∧ N'.1 m 6 = 0) ∧ q_mat N' (m + 9) (f_sts W 8) ∧ (∀ k, k < 4 → N'.1 (m + 10) k = N.1 (m + 6) k ∧ N'.1 (m + 11) k = N.1 (m + 7) k) ∧ (∀ k, k < 581 → N'.1 (m + 1) k = N.1 (m + 2) k) ∧ (∀ k, (k < 5 ∨ 7 ≤ k) → N'.1 m k = N.1 m k) ∧ (∀ x, x ≠ m → x ≠ m + 1 → x ≠ m + 9 → x ≠ m + 10 → x ≠ m + 11 → N'.1 x = N.1 x) ∧ N'.2 = N.2 := fun v hv => by
      have k0 : ∀ x, x ≠ m + 9 → (z_wI N (m + 9) i v).1 x = N.1 x := fun x hx => funext fun k => w_addr k hx
      obtain ⟨N', e, h', g', hT', hA', hs', k', s'⟩ := ih (i + 1) f (z_wI N (m + 9) i v) (by omega) (by omega) (by rw [k0 _ (by omega)]; exact hz) (fun a b ha hb hab => by rw [k0 _ (by omega)]; exact hr a b ha hb hab) (fun a b ha hb hab => by
        by_cases hi' : 8 * a + b = i
        · rw [hi', w_same, hv, show i / 8 = a by omega, show i % 8 = b by omega]
        · rw [w_slot _ hi']
          exact h a b ha hb (by omega))
      refine ⟨N', ?_, h', g', fun k hk => by rw [(hT' k hk).1, (hT' k hk).2, k0 _ (by omega), k0 _ (by omega)]; exact ⟨rfl, rfl⟩, fun k hk => by rw [hA' k hk, k0 _ (by omega)], fun k hk => by rw [hs' k hk, k0 _ (by omega)], fun x h0 h1 h9 h10 h11 => (k' x h0 h1 h9 h10 h11).trans (k0 x h9), s'⟩
      unfold F_Model_becomes_J66
      rw [if_pos ib, i_cl (by omega)]
      simp only [zl]
      rw [i_succ]
      exact e
    unfold F_Model_becomes_L34 F_Model_becomes_B34
    rw [if_neg (show ¬ (64 : Int32) ≤ Int32.ofNat i from i_nle (a := 64) (by decide) (by omega) (by omega)), ed, em]
    by_cases hd : i / 8 = i % 8
    · rw [if_pos (by rw [hd])]
      exact go 0 (by rw [hd, hW.1]; rfl)
    · rw [if_neg (fun q => hd ((i_eq (by omega) (by omega)).mp q)), if_pos ib, i_cl (by omega)]
      refine go _ ?_
      have := hr (i / 8) (i % 8) (by omega) (by omega) hd
      have ec : (Int32.ofNat i).toNatClampNeg = i := i_cl (by omega)
      have e8 : 8 * (i / 8) + i % 8 = i := by omega
      rw [e8] at this
      rw [← this]
theorem m_becomes {m Z B : Nat} {W : q_W} {N : z_Mem} (hZ : Z ≤ 8) (hW : f_ok Z B W) (hB : B ≤ 99) (hz : N.1 m 7 = Int32.ofNat Z) (hr : ∀ a b, a < 8 → b < 8 → a ≠ b → N.1 (m + 5) (8 * a + b) = q_oi (W a b)) : ∃ N', F_Model_becomes m N = some N' ∧ m_bec m N N' (f_sts W 8) := by
  obtain ⟨N1, eN⟩ : ∃ N1, N1 = z_wI (z_wI (z_wI (z_wI N m 15 (N.1 m 7)) m 16 (N.1 m 8)) m 17 (N.1 m 9)) m 18 (N.1 m 10) := ⟨_, rfl⟩
  have k0 : ∀ x, x ≠ m → N1.1 x = N.1 x := fun x hx => funext fun k => by rw [eN, w_addr _ hx, w_addr _ hx, w_addr _ hx, w_addr _ hx]
  have ks : ∀ k, (k < 15 ∨ 19 ≤ k) → N1.1 m k = N.1 m k := fun k hk => by rw [eN, w_slot _ (by omega), w_slot _ (by omega), w_slot _ (by omega), w_slot _ (by omega)]
  have k15 : N1.1 m 15 = N.1 m 7 := by rw [eN, w_slot _ (by decide), w_slot _ (by decide), w_slot _ (by decide), w_same]
  obtain ⟨N', e, h', g', hT', hA', hs', k', s'⟩ := m_bec1 (m := m) hZ hW hB 64 0 10000 N1 (by omega) (by omega) (k15.trans hz) (fun a b ha hb hab => by rw [k0 _ (by omega)]; exact hr a b ha hb hab) (fun a b _ _ hk => absurd hk (Nat.not_lt_zero _))
  refine ⟨N', ?_, ⟨?_, ?_, ?_, ?_, h'⟩, g', fun k hk => by rw [(hT' k hk).1, (hT' k hk).2, k0 _ (by omega), k0 _ (by omega)]; exact ⟨rfl, rfl⟩, fun k hk => by rw [hA' k hk, k0 _ (by omega)], fun k h1 h2 => by rw [hs' k h1, ks k h2], fun x h0 h1 h9 h10 h11 => (k' x h0 h1 h9 h10 h11).trans (k0 x h0), s'.trans (by rw [eN]; rfl)⟩
  · unfold F_Model_becomes
    rw [zl_eq, zl_eq, w_slot _ (show (8 : Nat) ≠ 15 by decide), zl_eq, w_slot _ (show (9 : Nat) ≠ 16 by decide), w_slot _ (show (9 : Nat) ≠ 15 by decide), zl_eq, w_slot _ (show (10 : Nat) ≠ 17 by decide), w_slot _ (show (10 : Nat) ≠ 16 by decide), w_slot _ (show (10 : Nat) ≠ 15 by decide), ← eN, i_0]
    exact e
  · rw [hs' _ (by omega), k15]
  · rw [hs' _ (by omega), eN, w_slot _ (by decide), w_slot _ (by decide), w_same]
  · rw [hs' _ (by omega), eN, w_slot _ (by decide), w_same]
  · rw [hs' _ (by omega), eN, w_same]
