/-! ===== PURE: errorPosition, undoCount, formattedByte, meanFare ===== -/
theorem a_errorPosition {o L : Nat} {S : Nat → Int32} {i : Int32} {M : z_Mem} {s : q_S} {c : z_Mem → Option (Int32 × z_Mem)} (hc : c_all o M s) (hm : m_all (o + 548) M s) : ∃ M', Fc_329 o L S i M c = c M' ∧ c_all o M' s ∧ m_all (o + 548) M' s := by
  refine ⟨z_wI M (o + 548) 0 0, ?_, hc.keep q_M.thr, hm.thr 0⟩
  unfold Fc_329 F_Sys_errorPosition F_Model_errorPosition
  simp only [zb, zb2, zl]
  rw [hc.2.2.2.2.2.1, (hm.thr 0).2.2.2.2.2.1, if_pos rfl]
theorem a_undoCount {o L : Nat} {S : Nat → Int32} {i : Int32} {M : z_Mem} {s : q_S} {c : z_Mem → Option (Int32 × z_Mem)} (hc : c_all o M s) (hm : m_all (o + 548) M s) : ∃ M', Fc_2050 o L S i M c = c M' ∧ c_all o M' s ∧ m_all (o + 548) M' s := by
  refine ⟨z_wI M (o + 548) 0 0, ?_, hc.keep q_M.thr, hm.thr 0⟩
  unfold Fc_2050 F_Sys_undoCount F_Model_undoCount
  simp only [zb, zb2, zl]
  rw [hc.2.2.1.2.1, (hm.thr 0).2.2.1.2.1, if_pos rfl]
theorem p_inx (p l h : Int32) (M : z_Mem) {lo hi : Int64} (hlo : l.toInt64 = lo) (hhi : h.toInt64 = hi) : F_Model_in p.toInt64 lo hi M = some (if p < l ∨ h < p then 0 else 1) := by
  subst hlo; subst hhi
  rw [p_in]
  by_cases h1 : p < l
  · rw [if_pos h1, if_pos (Or.inl h1)]
  · by_cases h2 : h < p
    · rw [if_neg h1, if_pos h2, if_pos (Or.inr h2)]
    · rw [if_neg h1, if_neg h2, if_neg (by rintro (q | q) <;> contradiction)]
theorem a_formattedByte {o L : Nat} {S : Nat → Int32} {i : Int32} {M : z_Mem} {s : q_S} {c : z_Mem → Option (Int32 × z_Mem)} (hc : c_all o M s) (hm : m_all (o + 548) M s) (h1 : z_inb (i + (1 : Int32)) L) : ∃ M', Fc_2025 o L S i M c = c M' ∧ c_all o M' s ∧ m_all (o + 548) M' s := by
  refine ⟨z_wI M (o + 548) 0 0, ?_, hc.keep q_M.thr, hm.thr 0⟩
  unfold Fc_2025
  rw [if_pos h1]
  simp only [if_pos h1]
  generalize S (i + 1).toNatClampNeg = p
  have hm0 := hm.thr 0
  obtain ⟨n, hn⟩ : ∃ n, s.2.2.2.2.2.2.2 = n := ⟨_, rfl⟩
  obtain ⟨c0, c1, c2⟩ := hc.2.2.2.2.2.2
  obtain ⟨m1, m2⟩ := hm0.2.2.2.2.2.2
  rw [hn] at c0 c1 c2 m1 m2
  rcases q_split n (by omega) p with ⟨t, ht, rfl⟩ | hb
  · have e1 : F_Sys_formattedByte o (Int32.ofNat t) M = some (s.2.2.2.2.2.2.1 t) := by
      unfold F_Sys_formattedByte
      have h2 : ¬ Int32.ofNat n ≤ Int32.ofNat t := fun q => by
        have := (i_le (by omega) (by omega)).mp q
        omega
      have h3 : Int32.ofNat t < (80 : Int32) := (i_lt (b := 80) (by omega) (by decide)).mpr (by omega)
      rw [if_neg (i_nn (by omega)), c1, if_neg h2, if_pos h3, if_pos ((i_inb (by omega)).mpr (by omega)), i_cl (by omega), c2 t ht]
    have e2 : F_Model_formattedByte (o + 548) (Int32.ofNat t) M = some (s.2.2.2.2.2.2.1 t, z_wI M (o + 548) 0 0) := by
      unfold F_Model_formattedByte
      simp only [zl]
      rw [m1, zb_ok (p_inx _ 0 (Int32.ofNat n - 1) _ (by decide) rfl), if_neg (fun q => q_good (by omega) ht ((q_badp (by omega)).mp q)), if_neg (by decide : ¬ (1 : Int32) = 0), if_pos ((i_inb (by omega)).mpr (by omega)), i_cl (by omega), m2 t ht]
    rw [zb_ok e1, zb2_ok e2, if_pos rfl]
  · have e1 : F_Sys_formattedByte o p M = some (-1) := by
      unfold F_Sys_formattedByte
      by_cases h0 : p < 0
      · rw [if_pos h0]
      · rw [if_neg h0, c1, if_pos ((q_badle (by omega) h0).mp (hb.resolve_left h0))]
    have e2 : F_Model_formattedByte (o + 548) p M = some (-1, z_wI M (o + 548) 0 0) := by
      unfold F_Model_formattedByte
      simp only [zl]
      rw [m1, zb_ok (p_inx _ 0 (Int32.ofNat n - 1) _ (by decide) rfl), if_pos ((q_badp (by omega)).mpr hb), if_pos rfl]
    rw [zb_ok e1, zb2_ok e2, if_pos rfl]
theorem k_same (r : UInt64) {β : Type} (x y : β) : (if (Op.cmpValue (FP.dcmp r r) .l) = 0 then x else (if (Op.cmpValue (FP.dcmp r r) .l) = 0 then y else (if (Op.cmpValue (FP.dcmp r r) .l) = 0 then y else x))) = x := by
  by_cases h : (Op.cmpValue (FP.dcmp r r) .l) = 0
  · rw [if_pos h]
  · rw [if_neg h, if_neg h, if_neg h]
