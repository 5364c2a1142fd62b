/-! ===== PURE: the reference's scanner ===== -/
def y_rd (N : z_Mem) (m n : Nat) (T : Nat → Nat) : Prop := N.1 m 24 = Int32.ofNat n ∧ n ≤ 800 ∧ ∀ k, k < n → N.1 (m + 12) k = Int32.ofNat (T k)
theorem m_byteAt' {m n p : Nat} {T : Nat → Nat} {N : z_Mem} (h : y_rd N m n T) (hp : p ≤ n) : F_Model_byteAt m (Int32.ofNat p) N = some (if p < n then Int32.ofNat (T p) else -1) := by
  obtain ⟨h1, h2, h3⟩ := h
  unfold F_Model_byteAt
  rw [h1]
  by_cases hq : p < n
  · rw [if_neg (i_nle (by omega) (by omega) hq), if_pos ((i_inb (by omega)).mpr (by omega)), if_pos hq, i_cl (by omega), h3 p hq]
  · rw [if_pos ((i_le (by omega) (by omega)).mpr (by omega)), if_neg hq]
theorem x_kd_2 {t : Nat} : x_kd t = 2 ↔ 48 ≤ t ∧ t ≤ 57 := by
  constructor
  · intro h
    by_cases hh : 48 ≤ t ∧ t ≤ 57
    · exact hh
    · unfold x_kd at h
      rw [if_neg hh] at h
      by_cases h1 : t = 32 ∨ t = 10
      · rw [if_pos h1] at h
        cases h
      · rw [if_neg h1] at h
        by_cases h2 : 97 ≤ t ∧ t ≤ 122
        · rw [if_pos h2] at h
          cases h
        · rw [if_neg h2] at h
          cases h
  · intro h
    unfold x_kd
    rw [if_neg (by omega), if_neg (by omega), if_pos h]
theorem x_kd_1 {t : Nat} : x_kd t = 1 ↔ 97 ≤ t ∧ t ≤ 122 := by
  constructor
  · intro h
    by_cases hh : 97 ≤ t ∧ t ≤ 122
    · exact hh
    · unfold x_kd at h
      rw [if_neg hh] at h
      by_cases h1 : t = 32 ∨ t = 10
      · rw [if_pos h1] at h
        cases h
      · rw [if_neg h1] at h
        by_cases h2 : 48 ≤ t ∧ t ≤ 57
        · rw [if_pos h2] at h
          cases h
        · rw [if_neg h2] at h
          cases h
  · intro h
    unfold x_kd
    rw [if_neg (by omega), if_pos h]
theorem m_isFigure {t : Nat} (ht : t < 256) (N : z_Mem) : F_Model_isFigure (Int32.ofNat t) N = some (if x_kd t = 2 then 1 else 0) := by
  unfold F_Model_isFigure
  by_cases h5 : t < 48
  · rw [if_pos (show Int32.ofNat t < (48 : Int32) from (i_lt (b := 48) (by omega) (by decide)).mpr h5), if_neg (fun g => by have := x_kd_2.mp g; omega)]
  rw [if_neg (show ¬ Int32.ofNat t < (48 : Int32) from fun q => h5 ((i_lt (b := 48) (by omega) (by decide)).mp q))]
  by_cases h6 : 57 < t
  · rw [if_pos (show (57 : Int32) < Int32.ofNat t from (i_lt (a := 57) (by decide) (by omega)).mpr h6), if_neg (fun g => by have := x_kd_2.mp g; omega)]
  rw [if_neg (show ¬ (57 : Int32) < Int32.ofNat t from fun q => h6 ((i_lt (a := 57) (by decide) (by omega)).mp q)), if_pos (x_kd_2.mpr (by omega))]
theorem m_isLetter {t : Nat} (ht : t < 256) (N : z_Mem) : F_Model_isLetter (Int32.ofNat t) N = some (if x_kd t = 1 then 1 else 0) := by
  unfold F_Model_isLetter
  by_cases h5 : t < 97
  · rw [if_pos (show Int32.ofNat t < (97 : Int32) from (i_lt (b := 97) (by omega) (by decide)).mpr h5), if_neg (fun g => by have := x_kd_1.mp g; omega)]
  rw [if_neg (show ¬ Int32.ofNat t < (97 : Int32) from fun q => h5 ((i_lt (b := 97) (by omega) (by decide)).mp q))]
  by_cases h6 : 122 < t
  · rw [if_pos (show (122 : Int32) < Int32.ofNat t from (i_lt (a := 122) (by decide) (by omega)).mpr h6), if_neg (fun g => by have := x_kd_1.mp g; omega)]
  rw [if_neg (show ¬ (122 : Int32) < Int32.ofNat t from fun q => h6 ((i_lt (a := 122) (by decide) (by omega)).mp q)), if_pos (x_kd_1.mpr (by omega))]
/-- what the reference makes of a number's figures -/
def y_nm (T : Nat → Nat) (q : Nat) : Nat → Nat
  | 0 => 0
  | d + 1 => if y_nm T q d ≤ 9999999 then 10 * y_nm T q d + T (q + d) - 48 else y_nm T q d
theorem y_nm_le {T : Nat → Nat} (hT : ∀ k, T k < 256) (q : Nat) : ∀ d, y_nm T q d ≤ 100000300
  | 0 => by show 0 ≤ _; omega
  | d + 1 => by
    have := y_nm_le hT q d
    have := hT (q + d)
    show (if y_nm T q d ≤ 9999999 then 10 * y_nm T q d + T (q + d) - 48 else y_nm T q d) ≤ _
    split <;> omega
/-- slots 25, 27, 28 alone change -/
def y_ch (m : Nat) (N N' : z_Mem) : Prop := (∀ x, x ≠ m → N'.1 x = N.1 x) ∧ (∀ k, (k < 25 ∨ 29 ≤ k) → N'.1 m k = N.1 m k)
theorem m_num_L' {m n q : Nat} {T : Nat → Nat} (hT : ∀ k, T k < 256) : ∀ (r d f : Nat) (N : z_Mem), n - (q + d) ≤ r → r < f → q + d ≤ n → y_rd N m n T → N.1 m 25 = Int32.ofNat (q + d) → N.1 m 28 = Int32.ofNat (y_nm T q d) → ∃ N', F_Model_readsNumber_L5 m f N = some N' ∧ N'.1 m 27 = 2 ∧ N'.1 m 25 = Int32.ofNat (x_rn T n 2 r (q + d)) ∧ N'.1 m 28 = Int32.ofNat (y_nm T q (x_rn T n 2 r (q + d) - q)) ∧ N'.1 m 26 = N.1 m 26 ∧ y_ch m N N' ∧ N'.2 = N.2 := by
  intro r
  induction r with
  | zero =>
    intro d f N hr hf hd h h25 h28
    obtain ⟨f, rfl⟩ : ∃ g, f = g + 1 := ⟨f - 1, by omega⟩
    unfold F_Model_readsNumber_L5 F_Model_readsNumber_B5
    rw [h25, zb_ok (m_byteAt' h hd), if_neg (by omega)]
    have hf1 : F_Model_isFigure (-1) N = some 0 := by
      unfold F_Model_isFigure
      rw [if_pos (by decide)]
    rw [zb_ok hf1, if_pos rfl, zl_eq]
    refine ⟨_, rfl, w_same _ _ _ _, (w_slot _ (by decide)).trans h25, ?_, w_slot _ (by decide), ⟨fun x hx => funext fun k => w_addr k hx, fun k hk => w_slot _ (by omega)⟩, rfl⟩
    show _ = Int32.ofNat (y_nm T q (q + d - q))
    rw [w_slot _ (by decide), h28, show q + d - q = d by omega]
  | succ r ih =>
    intro d f N hr hf hd h h25 h28
    obtain ⟨f, rfl⟩ : ∃ g, f = g + 1 := ⟨f - 1, by omega⟩
    unfold x_rn
    by_cases hp : q + d < n ∧ x_kd (T (q + d)) = 2
    · rw [if_pos hp]
      have hb := y_nm_le hT q d
      have hn8 := h.2.1
      have ht := hT (q + d)
      have h48 := x_kd2 hp.2
      obtain ⟨N', e, g27, g25, g28, g26, gc, g2⟩ := ih (d + 1) f (z_wI (z_wI N m 28 (Int32.ofNat (y_nm T q (d + 1)))) m 25 (Int32.ofNat (q + d + 1))) (by omega) (by omega) (by omega) ⟨((w_slot _ (by decide)).trans (w_slot _ (by decide))).trans h.1, h.2.1, fun k hk => ((w_addr _ (by omega)).trans (w_addr _ (by omega))).trans (h.2.2 k hk)⟩ (w_same _ _ _ _) ((w_slot _ (by decide)).trans (w_same _ _ _ _))
      refine ⟨N', ?_, g27, g25, g28, g26.trans ((w_slot _ (by decide)).trans (w_slot _ (by decide))), ⟨fun x hx => (gc.1 x hx).trans (funext fun k => (w_addr k hx).trans (w_addr k hx)), fun k hk => (gc.2 k hk).trans ((w_slot _ (by omega)).trans (w_slot _ (by omega)))⟩, g2⟩
      unfold F_Model_readsNumber_L5 F_Model_readsNumber_B5
      rw [h25, zb_ok (m_byteAt' h hd), if_pos hp.1, zb_ok (m_isFigure ht N), if_pos hp.2, if_neg (by decide), h28]
      have step : ∀ v, v = y_nm T q (d + 1) → F_Model_readsNumber_J56 m (F_Model_readsNumber_L5 m f) (Int32.ofNat v) N = some N' := fun v hv => by
        unfold F_Model_readsNumber_J56
        rw [zl_eq, zl_eq, w_slot _ (show (25 : Nat) ≠ 28 by decide), h25, i_succ, hv]
        exact e
      by_cases h9 : y_nm T q d ≤ 9999999
      · rw [if_pos (show Int32.ofNat (y_nm T q d) ≤ (9999999 : Int32) from (i_le (b := 9999999) (by omega) (by decide)).mpr h9), if_pos ((i_inb (by omega)).mpr (by have := h.2.1; omega)), i_cl (by omega), h.2.2 _ hp.1]
        have en : (10 : Int32) * Int32.ofNat (y_nm T q d) + Int32.ofNat (T (q + d)) - 48 = Int32.ofNat (10 * y_nm T q d + T (q + d) - 48) := by
          rw [show (10 : Int32) = Int32.ofNat 10 from rfl, i_mul, i_add, show (48 : Int32) = Int32.ofNat 48 from rfl, i_sub (by omega)]
        rw [en]
        exact step _ (if_pos h9).symm
      · rw [if_neg (show ¬ Int32.ofNat (y_nm T q d) ≤ (9999999 : Int32) from fun g => h9 ((i_le (b := 9999999) (by omega) (by decide)).mp g))]
        exact step _ (if_neg h9).symm
    · rw [if_neg hp]
      unfold F_Model_readsNumber_L5 F_Model_readsNumber_B5
      rw [h25, zb_ok (m_byteAt' h hd)]
      have hfig : F_Model_isFigure (if q + d < n then Int32.ofNat (T (q + d)) else -1) N = some 0 := by
        by_cases hq : q + d < n
        · rw [if_pos hq, m_isFigure (hT _), if_neg (fun g => hp ⟨hq, g⟩)]
        · rw [if_neg hq]
          unfold F_Model_isFigure
          rw [if_pos (by decide)]
      rw [zb_ok hfig, if_pos rfl, zl_eq]
      refine ⟨_, rfl, w_same _ _ _ _, (w_slot _ (by decide)).trans h25, ?_, w_slot _ (by decide), ⟨fun x hx => funext fun k => w_addr k hx, fun k hk => w_slot _ (by omega)⟩, rfl⟩
      rw [w_slot _ (by decide), h28, show q + d - q = d by omega]
