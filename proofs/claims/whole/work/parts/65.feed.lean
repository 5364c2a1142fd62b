/-! ===== PURE: feed ===== -/
theorem i_b255 : ∀ i, i < 32 → 8 ≤ i → (255#32).getLsbD i = false := by decide
theorem i_byte (x : Int32) : x.toInt8.toInt32 &&& 255 = x &&& 255 := by
  apply Int32.toBitVec_inj.mp
  rw [Int32.toBitVec_and, Int32.toBitVec_and]
  show (x.toBitVec.signExtend 8).signExtend 32 &&& 255#32 = x.toBitVec &&& 255#32
  apply BitVec.eq_of_getLsbD_eq
  intro i hi
  rw [BitVec.getLsbD_and, BitVec.getLsbD_and]
  by_cases h : i < 8
  · rw [BitVec.getLsbD_signExtend, BitVec.getLsbD_signExtend]
    have h32 : i < 32 := hi
    simp [h, h32]
  · rw [i_b255 i hi (by omega), Bool.and_false, Bool.and_false]
def q_sb (s : q_S) (b : q_R × Nat) : q_S := (s.1, s.2.1, s.2.2.1, s.2.2.2.1, b, s.2.2.2.2.2.1, s.2.2.2.2.2.2)
theorem q_sb_sb (s : q_S) (b b' : q_R × Nat) : q_sb (q_sb s b) b' = q_sb s b' := rfl
def q_app (b : q_R) (n : Nat) (v : Int32) : q_R := fun k => if k = n then v else b k
theorem c_step {o n : Nat} {M : z_Mem} {s : q_S} {b : q_R} {v w : Int32} (hc : c_all o M (q_sb s (b, n))) (hn : n < 800) (hw : w &&& 255 = v) : c_all o (z_wI (z_wI M (o + 1) n w) o 1 (Int32.ofNat (n + 1))) (q_sb s (q_app b n v, n + 1)) := by
  obtain ⟨⟨a1, a2, a3⟩, h2, h3, h4, ⟨b0, b1, b2⟩, h6, ⟨d0, d1, d2⟩⟩ := hc
  have e : ∀ a, o + 1 < a → (z_wI (z_wI M (o + 1) n w) o 1 (Int32.ofNat (n + 1))).1 a = M.1 a := fun a ha => funext fun k => by rw [w_addr _ (by omega), w_addr _ (by omega)]
  have e0 : ∀ k, k ≠ 1 → (z_wI (z_wI M (o + 1) n w) o 1 (Int32.ofNat (n + 1))).1 o k = M.1 o k := fun k hk => by rw [w_slot _ hk, w_addr _ (by omega)]
  refine ⟨⟨by rw [e _ (by omega)]; exact a1, by rw [e _ (by omega)]; exact a2, fun k hk => by rw [e _ (by omega)]; exact a3 k hk⟩, h2.keep (fun a q1 q2 => e a (by omega)), h3.keep (fun a q1 q2 => e a (by omega)), ?_, ⟨hn, w_same _ _ _ _, fun k hk => ?_⟩, by rw [e0 _ (by decide)]; exact h6, ⟨d0, by rw [e0 _ (by decide)]; exact d1, fun k hk => by rw [e _ (by omega)]; exact d2 k hk⟩⟩
  · show c_snap _ o s.1 s.2.2.2.1
    have h4' : c_snap M o s.1 s.2.2.2.1 := h4
    cases hs : s.2.2.2.1 with
    | none =>
      rw [hs] at h4'
      show (z_wI (z_wI M (o + 1) n w) o 1 (Int32.ofNat (n + 1))).1 o 9 = 0
      rw [e0 _ (by decide)]
      exact h4'
    | some B =>
      rw [hs] at h4'
      exact ⟨by rw [e0 _ (by decide)]; exact h4'.1, h4'.2.keep (fun a q1 q2 => e a (by omega))⟩
  · rw [w_addr _ (by omega)]
    show _ = (if k = n then v else b k)
    by_cases hkn : k = n
    · rw [if_pos hkn, hkn, w_same]
      exact hw
    · have hk' : k < n + 1 := hk
      rw [if_neg hkn, w_slot _ hkn]
      exact b2 k (show k < n by omega)
theorem m_step {m n : Nat} {M : z_Mem} {s : q_S} {b : q_R} {v : Int32} (hm : m_all m M (q_sb s (b, n))) : m_all m (z_wI (z_wI M (m + 12) n v) m 23 (Int32.ofNat (n + 1))) (q_sb s (q_app b n v, n + 1)) := by
  obtain ⟨⟨a1, a2, a3, a4, a5, a6⟩, h2, ⟨b0, b1, b2⟩, h4, ⟨d1, d2⟩, h6, ⟨f1, f2⟩⟩ := hm
  have e : ∀ j, 0 < j → j ≠ 12 → (z_wI (z_wI M (m + 12) n v) m 23 (Int32.ofNat (n + 1))).1 (m + j) = M.1 (m + j) := fun j hj hj' => funext fun k => by rw [w_addr _ (by omega), w_addr _ (by omega)]
  have e0 : ∀ k, k ≠ 23 → (z_wI (z_wI M (m + 12) n v) m 23 (Int32.ofNat (n + 1))).1 m k = M.1 m k := fun k hk => by rw [w_slot _ hk, w_addr _ (by omega)]
  refine ⟨⟨by rw [e0 _ (by decide)]; exact a1, by rw [e0 _ (by decide)]; exact a2, by rw [e0 _ (by decide)]; exact a3, by rw [e0 _ (by decide)]; exact a4, fun k hk' => by rw [e _ (by decide) (by decide)]; exact a5 k hk', fun t ht => by rw [e _ (by decide) (by decide), e _ (by decide) (by decide)]; exact a6 t ht⟩, h2.keep (e _ (by decide) (by decide)),
    ⟨b0, by rw [e0 _ (by decide)]; exact b1, fun j B hB => (b2 j B hB).keep (e _ (by decide) (by decide))⟩, ?_, ⟨w_same _ _ _ _, fun k hk => ?_⟩, by rw [e0 _ (by decide)]; exact h6, ⟨by rw [e0 _ (by decide)]; exact f1, fun k hk' => by rw [e _ (by decide) (by decide)]; exact f2 k hk'⟩⟩
  · show m_snap _ m s.2.2.2.1
    have h4' : m_snap M m s.2.2.2.1 := h4
    cases hs : s.2.2.2.1 with
    | none =>
      rw [hs] at h4'
      show (z_wI (z_wI M (m + 12) n v) m 23 (Int32.ofNat (n + 1))).1 m 5 = 0
      rw [e0 _ (by decide)]
      exact h4'
    | some B =>
      rw [hs] at h4'
      exact ⟨by rw [e0 _ (by decide)]; exact h4'.1, h4'.2.keep (e _ (by decide) (by decide))⟩
  · rw [w_addr _ (by omega)]
    show _ = (if k = n then v else b k)
    by_cases hkn : k = n
    · rw [if_pos hkn, hkn, w_same]
    · have hk' : k < n + 1 := hk
      rw [if_neg hkn, w_slot _ hkn]
      exact d2 k (show k < n by omega)
def q_by (p sh : Int32) : Int32 := (p >>> (sh &&& 31)) &&& 255
theorem a_byte_c {o n f : Nat} {M : z_Mem} {s : q_S} {b : q_R} {p sh : Int32} (hs : ¬ sh < 0) (hc : c_all o M (q_sb s (b, n))) (hn : n < 800) : ∃ M', F_Sys_appendFourBytes_L3 o (f + 1) p sh M = F_Sys_appendFourBytes_L3 o f p (sh + -8) M' ∧ c_all o M' (q_sb s (q_app b n (q_by p sh), n + 1)) ∧ q_C o M M' := by
  have hb : M.1 o 1 = Int32.ofNat n := hc.2.2.2.2.1.2.1
  have h2 : ¬ (800 : Int32) ≤ Int32.ofNat n := fun q => by
    have := (i_le (a := 800) (by decide) (by omega)).mp q
    omega
  refine ⟨_, ?_, c_step (w := (((p >>> (sh &&& 31)).toInt8.toInt32).toInt8.toInt32)) hc hn (by rw [i_byte, i_byte]; rfl), (q_C.w (Or.inl ⟨by omega, by omega⟩)).tr (q_C.w (Or.inl ⟨by omega, by omega⟩))⟩
  show F_Sys_appendFourBytes_B3 o (F_Sys_appendFourBytes_L3 o f) p sh M = _
  unfold F_Sys_appendFourBytes_B3
  rw [if_neg hs, hb, if_neg (i_nn (by omega)), if_neg h2, if_pos ((i_inb (by omega)).mpr hn), i_cl (by omega)]
  simp only [zl]
  rw [w_addr _ (by omega), hb, i_succ]
theorem a_byte_m {m n f : Nat} {M : z_Mem} {s : q_S} {b : q_R} {p sh : Int32} (hs : ¬ sh < 0) (hm : m_all m M (q_sb s (b, n))) (hn : n < 800) : F_Model_lays_L3 m (f + 1) p sh M = F_Model_lays_L3 m f p (sh + -8) (z_wI (z_wI M (m + 12) n (q_by p sh)) m 23 (Int32.ofNat (n + 1))) := by
  have hb : M.1 m 23 = Int32.ofNat n := hm.2.2.2.2.1.1
  show F_Model_lays_B3 m (F_Model_lays_L3 m f) p sh M = _
  unfold F_Model_lays_B3
  rw [if_neg hs, hb, if_pos ((i_inb (by omega)).mpr hn), i_cl (by omega)]
  simp only [zl]
  rw [w_addr _ (by omega), hb, i_succ]
  rfl
