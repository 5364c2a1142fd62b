/-! ===== PURE: meanFare, sharedPart ===== -/
theorem k_f2d {r : UInt32} (h : FP.Core.fIsNaN r = false) : FP.Core.dIsNaN (FP.f2d r) = false := by
  first
    | exact FP.Core.f2d_out h
    | (rw [FP.f2d_core h]; exact FP.Core.f2d_out h)
def s_paid (A : q_R) : Nat → Nat → Int32 → Int32
  | 0, _, acc => acc
  | k + 1, i, acc => s_paid A k (i + 1) (if A (173 + 17 * i) = 3 then acc + A (183 + 17 * i) else acc)
theorem a_paid_c {M : z_Mem} {d : Nat} {c A : q_R} (hd : c_desk M d c A) (hA : A 1 = Int32.ofNat (q_N A)) : ∀ (k i f : Nat) (acc : Int32), i + k = q_N A → k < f → F_Desk_paidByDone_L4 d f acc (Int32.ofNat i) M = some (s_paid A k i acc) := by
  have hN := hd.1.2
  intro k
  induction k with
  | zero =>
    intro i f acc hi hf
    obtain ⟨f, rfl⟩ : ∃ g, f = g + 1 := ⟨f - 1, by omega⟩
    unfold F_Desk_paidByDone_L4 F_Desk_paidByDone_B4
    rw [hd.2.2.2.2.2.1, hA, if_pos ((i_le (by omega) (by omega)).mpr (by omega))]
    rfl
  | succ k ih =>
    intro i f acc hi hf
    obtain ⟨f, rfl⟩ : ∃ g, f = g + 1 := ⟨f - 1, by omega⟩
    unfold F_Desk_paidByDone_L4 F_Desk_paidByDone_B4
    have h1 : ¬ Int32.ofNat (q_N A) ≤ Int32.ofNat i := fun q => by
      have := (i_le (by omega) (by omega)).mp q
      omega
    have h2 : ¬ (24 : Int32) ≤ Int32.ofNat i := fun q => by
      have := (i_le (a := 24) (by decide) (by omega)).mp q
      omega
    have hz : z_inb (Int32.ofNat i) 24 := (i_inb (by omega)).mpr (by omega)
    obtain ⟨x0, -, -, -, -, -, -, -, -, -, -, -, x12, -⟩ := hd.2.2.2.2.2.2.2.2 i (by omega)
    rw [hd.2.2.2.2.2.1, hA, if_neg h1, if_neg h2, if_pos hz]
    simp only [if_pos hz, i_cl (show i < 2 ^ 31 by omega), zl, Nat.one_mul, x0, x12, i_succ]
    show _ = some (s_paid A k (i + 1) (if A (173 + 17 * i) = 3 then acc + A (183 + 17 * i) else acc))
    split
    · exact ih (i + 1) f _ (by omega) (by omega)
    · exact ih (i + 1) f acc (by omega) (by omega)
def q_mean (sum n : Int32) : UInt64 := if n = 0 then FP.dconst0 else FP.ddiv (FP.i2d sum) (FP.i2d n)
def y_mean (A : q_R) : UInt64 := q_mean (s_paid A (q_N A) 0 0) (y_cnt A 3)
theorem a_mean_c {o : Nat} {M : z_Mem} {s : q_S} (hI : q_I s) (hc : c_all o M s) : F_Sys_meanFare o M = some (y_mean s.2.1) := by
  have hN := hI.rides24
  unfold F_Sys_meanFare y_mean q_mean
  rw [zb_ok (a_cnt_c hI hc 3)]
  by_cases h : y_cnt s.2.1 3 = 0
  · rw [if_pos h, if_pos h]
  · rw [if_neg h, if_neg h, zb_ok (show F_Desk_paidByDone (o + 5) M = some (s_paid s.2.1 (q_N s.2.1) 0 0) from a_paid_c hc.2.1 hI.rides (q_N s.2.1) 0 10000 0 (by omega) (by omega)), if_pos h]
theorem a_mean_m {m : Nat} {N : z_Mem} {s : q_S} (hI : q_I s) (hm : m_all m N s) : ∀ (k i f : Nat) (acc cnt : Int32), i + k = q_N s.2.1 → k < f → F_Model_meanFare_L11 m f acc cnt (Int32.ofNat i) N = some (q_mean (s_paid s.2.1 k i acc) (s_cnt s.2.1 3 k i cnt), N) := by
  have hN := hI.rides24
  have hz : z_inb 1 581 := by decide
  have e1 : (1 : Int32).toNatClampNeg = 1 := rfl
  intro k
  induction k with
  | zero =>
    intro i f acc cnt hi hf
    obtain ⟨f, rfl⟩ : ∃ g, f = g + 1 := ⟨f - 1, by omega⟩
    unfold F_Model_meanFare_L11 F_Model_meanFare_B11
    rw [if_pos hz, e1, m_rides hI hm, if_pos ((i_le (by omega) (by omega)).mpr (by omega))]
    show _ = some (q_mean acc cnt, N)
    unfold q_mean
    by_cases h : cnt = 0
    · rw [if_pos h, if_pos h]
    · rw [if_neg h, if_neg h, if_pos h]
  | succ k ih =>
    intro i f acc cnt hi hf
    obtain ⟨f, rfl⟩ : ∃ g, f = g + 1 := ⟨f - 1, by omega⟩
    unfold F_Model_meanFare_L11 F_Model_meanFare_B11
    have h1 : ¬ Int32.ofNat (q_N s.2.1) ≤ Int32.ofNat i := fun q => by
      have := (i_le (by omega) (by omega)).mp q
      omega
    rw [if_pos hz, e1, m_rides hI hm, if_neg h1, zb_ok (m_ofL (kl := 0) hm 0 (show i < 24 by omega) (by omega) rfl), Nat.add_zero]
    show _ = some (q_mean (s_paid s.2.1 k (i + 1) (if s.2.1 (173 + 17 * i) = 3 then acc + s.2.1 (183 + 17 * i) else acc)) (s_cnt s.2.1 3 k (i + 1) (if s.2.1 (173 + 17 * i) = 3 then cnt + 1 else cnt)), N)
    by_cases h3 : s.2.1 (173 + 17 * i) = 3
    · rw [if_pos h3, if_pos h3, if_pos h3, zb_ok (m_ofL (kl := 10) hm 10 (show i < 24 by omega) (by omega) rfl), show 173 + 17 * i + 10 = 183 + 17 * i by omega]
      simp only [zl, i_succ]
      exact ih (i + 1) f _ _ (by omega) (by omega)
    · rw [if_neg h3, if_neg h3, if_neg h3]
      simp only [zl, i_succ]
      exact ih (i + 1) f _ _ (by omega) (by omega)
theorem a_meanFare {o L : Nat} {S : Nat → Int32} {i : Int32} {M : z_Mem} {s : q_S} {c : z_Mem → Option (Int32 × z_Mem)} (hI : q_I s) (hc : c_all o M s) (hm : m_all (o + 548) M s) : ∃ M', Fc_1241 o L S i M c = c M' ∧ c_all o M' s ∧ m_all (o + 548) M' s := by
  have hN := hI.rides24
  refine ⟨z_wI M (o + 548) 0 0, ?_, hc.keep q_M.thr, hm.thr 0⟩
  have e2 : F_Model_meanFare (o + 548) M = some (y_mean s.2.1, z_wI M (o + 548) 0 0) := by
    unfold F_Model_meanFare y_mean y_cnt
    simp only [zl]
    exact a_mean_m hI (hm.thr 0) (q_N s.2.1) 0 10000 0 0 (by omega) (by omega)
  unfold Fc_1241
  rw [zb_ok (a_mean_c hI hc), zb2_ok e2]
  exact k_same _ _ _
def q_part (w sh : Int32) : UInt32 := if w = 0 then FP.fconst0 else FP.fdiv (FP.i2f sh) (FP.i2f w)
theorem q_part_nan (w sh : Int32) : FP.Core.fIsNaN (q_part w sh) = false := by
  unfold q_part
  by_cases h : w = 0
  · rw [if_pos h]
    decide
  · rw [if_neg h]
    exact z_fd sh h
def y_part (c A : q_R) : UInt32 := q_part (y_sum c A 8) (y_sum c A 9)
theorem a_part_c {o : Nat} {M : z_Mem} {c A : q_R} (hd : c_desk M (o + 5) c A) (hT' : c 66 = Int32.ofNat (q_T c)) : ∀ (k i f : Nat) (w sh : Int32), i + k = q_T c → k < f → F_Sys_sharedPart_L6 o f w sh (Int32.ofNat i) M = some (q_part (s_sum A 8 k i w) (s_sum A 9 k i sh)) := by
  have hT := hd.1.1
  intro k
  induction k with
  | zero =>
    intro i f w sh hi hf
    obtain ⟨f, rfl⟩ : ∃ g, f = g + 1 := ⟨f - 1, by omega⟩
    unfold F_Sys_sharedPart_L6 F_Sys_sharedPart_B6 F_Sys_sharedPart_J58
    rw [hd.2.2.2.2.1, hT', if_pos ((i_le (by omega) (by omega)).mpr (by omega))]
    show _ = some (q_part w sh)
    unfold q_part
    by_cases h : w = 0
    · rw [if_pos h, if_pos h]
    · rw [if_neg h, if_neg h, if_pos h]
  | succ k ih =>
    intro i f w sh hi hf
    obtain ⟨f, rfl⟩ : ∃ g, f = g + 1 := ⟨f - 1, by omega⟩
    unfold F_Sys_sharedPart_L6 F_Sys_sharedPart_B6
    have h1 : ¬ Int32.ofNat (q_T c) ≤ Int32.ofNat i := fun q => by
      have := (i_le (by omega) (by omega)).mp q
      omega
    have h2 : ¬ (4 : Int32) ≤ Int32.ofNat i := fun q => by
      have := (i_le (a := 4) (by decide) (by omega)).mp q
      omega
    have hz : z_inb (Int32.ofNat i) 4 := (i_inb (by omega)).mpr (by omega)
    have hx := (hd.2.2.2.2.2.2.2.1 i (by omega)).2.2.2.2.2.2.2.2.2.2.2.2
    have e8 : M.1 (o + 5 + 4 + 3 * i) 14 = A (13 + 40 * i + 8) := hx.1.trans (congrArg A (by omega))
    have e9 : M.1 (o + 5 + 4 + 3 * i) 15 = A (13 + 40 * i + 9) := hx.2.1.trans (congrArg A (by omega))
    rw [hd.2.2.2.2.1, hT', if_neg h1, if_neg h2, if_pos hz]
    simp only [if_pos hz, i_cl (show i < 2 ^ 31 by omega), zl, i_succ, e8, e9]
    exact ih (i + 1) f _ _ (by omega) (by omega)
theorem a_sharedPart {o L : Nat} {S : Nat → Int32} {i : Int32} {M : z_Mem} {s : q_S} {c : z_Mem → Option (Int32 × z_Mem)} (hI : q_I s) (hc : c_all o M s) (hm : m_all (o + 548) M s) : ∃ M', Fc_1282 o L S i M c = c M' ∧ c_all o M' s ∧ m_all (o + 548) M' s := by
  have hT := hI.taxis4
  refine ⟨z_wI M (o + 548) 0 0, ?_, hc.keep q_M.thr, hm.thr 0⟩
  have hm0 := hm.thr 0
  have e1 : F_Sys_sharedPart o M = some (y_part s.1 s.2.1) := a_part_c hc.2.1 hI.taxis (q_T s.1) 0 10000 0 0 (by omega) (by omega)
  have e2 : F_Model_sharedPart (o + 548) M = some (y_part s.1 s.2.1, z_wI M (o + 548) 0 0) := by
    unfold F_Model_sharedPart y_part q_part
    simp only [zl]
    rw [zb_ok (a_sumOf hI hm0 8 (wl := 8) (by omega) rfl)]
    by_cases h : y_sum s.1 s.2.1 8 = 0
    · rw [if_pos h, if_pos h]
    · rw [if_neg h, if_neg h, zb_ok (a_sumOf hI hm0 9 (wl := 9) (by omega) rfl), zb_ok (a_sumOf hI hm0 8 (wl := 8) (by omega) rfl), if_pos h]
  have hn : FP.Core.dIsNaN (FP.f2d (y_part s.1 s.2.1)) = false := k_f2d (q_part_nan _ _)
  unfold Fc_1282
  rw [zb_ok e1, if_pos hn, zb2_ok e2, if_pos hn]
  exact k_same _ _ _
