/-! ===== PURE: the scanner's words ===== -/
def y_wd (T : Nat → Nat) (q : Nat) : Nat → Nat
  | 0 => 0
  | d + 1 => if 10 ≤ d then y_wd T q d else 27 * y_wd T q d + T (q + d) - 96
set_option maxRecDepth 20000 in
theorem l_byte : ∀ t, t < 256 → (Int32.ofNat t).toInt64 = Int64.ofNat t := by decide
theorem l_sub {a b : Nat} (h : b ≤ a) : Int64.ofNat a - Int64.ofNat b = Int64.ofNat (a - b) := by
  have e : Int64.ofNat a = Int64.ofNat (a - b) + Int64.ofNat b := by
    rw [← Int64.ofNat_add, Nat.sub_add_cancel h]
  rw [e, Int64.add_sub_cancel]
theorem m_word_L {m n q : Nat} {T : Nat → Nat} (hT : ∀ k, T k < 256) : ∀ (r d f : Nat) (N : z_Mem), n - (q + d) ≤ r → r < f → q + d ≤ n → y_rd N m n T → N.1 m 26 = Int32.ofNat q → N.1 m 25 = Int32.ofNat (q + d) → N.2 m 29 = Int64.ofNat (y_wd T q d) → ∃ N', F_Model_readsWord_L5 m f N = some N' ∧ N'.1 m 27 = 1 ∧ N'.1 m 25 = Int32.ofNat (x_rn T n 1 r (q + d)) ∧ N'.2 m 29 = Int64.ofNat (y_wd T q (x_rn T n 1 r (q + d) - q)) ∧ N'.1 m 26 = N.1 m 26 ∧ y_ch m N N' ∧ (∀ x k, x ≠ m ∨ k ≠ 29 → N'.2 x k = N.2 x k) := by
  intro r
  induction r with
  | zero =>
    intro d f N hr hf hd h h26 h25 h29
    obtain ⟨f, rfl⟩ : ∃ g, f = g + 1 := ⟨f - 1, by omega⟩
    unfold F_Model_readsWord_L5 F_Model_readsWord_B5
    rw [h25, zb_ok (m_byteAt' h hd), if_neg (by omega)]
    have hf1 : F_Model_isLetter (-1) N = some 0 := by
      unfold F_Model_isLetter
      rw [if_pos (by decide)]
    rw [zb_ok hf1, if_pos rfl, zl_eq]
    refine ⟨_, rfl, w_same _ _ _ _, (w_slot _ (by decide)).trans h25, ?_, w_slot _ (by decide), ⟨fun x hx => funext fun k => w_addr k hx, fun k hk => w_slot _ (by omega)⟩, fun x k _ => rfl⟩
    show N.2 m 29 = Int64.ofNat (y_wd T q (q + d - q))
    rw [h29, show q + d - q = d by omega]
  | succ r ih =>
    intro d f N hr hf hd h h26 h25 h29
    obtain ⟨f, rfl⟩ : ∃ g, f = g + 1 := ⟨f - 1, by omega⟩
    have hn8 := h.2.1
    unfold x_rn
    by_cases hp : q + d < n ∧ x_kd (T (q + d)) = 1
    · rw [if_pos hp]
      have ht := hT (q + d)
      have h97 := x_kd_1.mp hp.2
      have step : ∀ N1 : z_Mem, N1.1 = N.1 → (∀ x k, x ≠ m ∨ k ≠ 29 → N1.2 x k = N.2 x k) → N1.2 m 29 = Int64.ofNat (y_wd T q (d + 1)) → ∃ N', F_Model_readsWord_J60 m (F_Model_readsWord_L5 m f) N1 = some N' ∧ N'.1 m 27 = 1 ∧ N'.1 m 25 = Int32.ofNat (x_rn T n 1 r (q + d + 1)) ∧ N'.2 m 29 = Int64.ofNat (y_wd T q (x_rn T n 1 r (q + d + 1) - q)) ∧ N'.1 m 26 = N.1 m 26 ∧ y_ch m N N' ∧ (∀ x k, x ≠ m ∨ k ≠ 29 → N'.2 x k = N.2 x k) := fun N1 e1 e2 e3 => by
        obtain ⟨N', e, g27, g25, g29, g26, gc, g2⟩ := ih (d + 1) f (z_wI N1 m 25 (Int32.ofNat (q + d + 1))) (by omega) (by omega) (by omega) ⟨(w_slot _ (by decide)).trans ((congrFun (congrFun e1 m) 24).trans h.1), hn8, fun k hk => (w_addr _ (by omega)).trans ((congrFun (congrFun e1 _) k).trans (h.2.2 k hk))⟩ ((w_slot _ (by decide)).trans ((congrFun (congrFun e1 m) 26).trans h26)) (w_same _ _ _ _) e3
        refine ⟨N', ?_, g27, g25, g29, g26.trans ((w_slot _ (by decide)).trans (congrFun (congrFun e1 m) 26)), ⟨fun x hx => (gc.1 x hx).trans ((funext fun k => w_addr k hx).trans (congrFun e1 x)), fun k hk => (gc.2 k hk).trans ((w_slot _ (by omega)).trans (congrFun (congrFun e1 m) k))⟩, fun x k hx => (g2 x k hx).trans (e2 x k hx)⟩
        unfold F_Model_readsWord_J60
        rw [zl_eq, show N1.1 m 25 = Int32.ofNat (q + d) from (congrFun (congrFun e1 m) 25).trans h25, i_succ]
        exact e
      rw [h26] at step
      have eU : F_Model_readsWord_L5 m (f + 1) N = F_Model_readsWord_B5 m (F_Model_readsWord_L5 m f) N := rfl
      rw [eU]
      unfold F_Model_readsWord_B5
      rw [h25, zb_ok (m_byteAt' h hd), if_pos hp.1, zb_ok (m_isLetter ht N), if_pos hp.2, if_neg (by decide), h26, i_sub (show q ≤ q + d by omega), show q + d - q = d by omega]
      by_cases h10 : 10 ≤ d
      · rw [if_pos (show (10 : Int32) ≤ Int32.ofNat d from (i_le (a := 10) (by decide) (by omega)).mpr h10)]
        exact step N rfl (fun _ _ _ => rfl) (h29.trans (congrArg Int64.ofNat (if_pos h10).symm))
      · rw [if_neg (show ¬ (10 : Int32) ≤ Int32.ofNat d from i_nle (a := 10) (by decide) (by omega) (by omega)), if_pos ((i_inb (by omega)).mpr (by omega)), i_cl (by omega), h.2.2 _ hp.1, l_byte _ ht, h29, zl_eq]
        refine step (z_wL N m 29 _) rfl (fun x k hx => ?_) ?_
        · show (if x = m ∧ k = 29 then _ else N.2 x k) = N.2 x k
          rw [if_neg (by omega)]
        · show (if m = m ∧ (29 : Nat) = 29 then _ else N.2 m 29) = _
          rw [if_pos ⟨rfl, rfl⟩, show (27 : Int64) = Int64.ofNat 27 from rfl, ← Int64.ofNat_mul, ← Int64.ofNat_add, show (96 : Int64) = Int64.ofNat 96 from rfl, l_sub (by omega)]
          exact congrArg Int64.ofNat (if_neg h10).symm
    · rw [if_neg hp]
      unfold F_Model_readsWord_L5 F_Model_readsWord_B5
      rw [h25, zb_ok (m_byteAt' h hd)]
      have hfig : F_Model_isLetter (if q + d < n then Int32.ofNat (T (q + d)) else -1) N = some 0 := by
        by_cases hq : q + d < n
        · rw [if_pos hq, m_isLetter (hT _), if_neg (fun g => hp ⟨hq, g⟩)]
        · rw [if_neg hq]
          unfold F_Model_isLetter
          rw [if_pos (by decide)]
      rw [zb_ok hfig, if_pos rfl, zl_eq]
      refine ⟨_, rfl, w_same _ _ _ _, (w_slot _ (by decide)).trans h25, ?_, w_slot _ (by decide), ⟨fun x hx => funext fun k => w_addr k hx, fun k hk => w_slot _ (by omega)⟩, fun x k _ => rfl⟩
      show N.2 m 29 = _
      rw [h29, show q + d - q = d by omega]
