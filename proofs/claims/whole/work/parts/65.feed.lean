/-! ===== PURE: feed ===== -/
theorem i_b255 : ∀ i, i < 32 → 8 ≤ i → (255#32).getLsbD i = false := by decide
theorem i_byte (x : Int32) : x.toInt8.toInt32 &&& 255 = x &&& 255 := by
  apply Int32.toBitVec_inj.mp
  rw [Int32.toBitVec_and, Int32.toBitVec_and]
  show (x.toBitVec.signExtend 8).signExtend 32 &&& 255#32 = x.toBitVec &&& 255#32
  apply BitVec.eq_of_getLsbD_eq
  intro i hi
  rw [BitVec.getLsbD_and, BitVec.getLsbD_and]
  by_cases h : i < 8
  · rw [BitVec.getLsbD_signExtend, BitVec.getLsbD_signExtend]
    have h32 : i < 32 := hi
    simp [h, h32]
  · rw [i_b255 i hi (by omega), Bool.and_false, Bool.and_false]
def q_sb (s : q_S) (b : q_R × Nat) : q_S := (s.1, s.2.1, s.2.2.1, s.2.2.2.1, b, s.2.2.2.2.2.1, s.2.2.2.2.2.2)
theorem q_sb_sb (s : q_S) (b b' : q_R × Nat) : q_sb (q_sb s b) b' = q_sb s b' := rfl
def q_app (b : q_R) (n : Nat) (v : Int32) : q_R := fun k => if k = n then v else b k
theorem c_step {o n : Nat} {M : z_Mem} {s : q_S} {b : q_R} {v w : Int32} (hc : c_all o M (q_sb s (b, n))) (hn : n < 800) (hw : w &&& 255 = v) : c_all o (z_wI (z_wI M (o + 1) n w) o 1 (Int32.ofNat (n + 1))) (q_sb s (q_app b n v, n + 1)) := by
  obtain ⟨⟨a1, a2, a3⟩, h2, h3, h4, ⟨b0, b1, b2⟩, h6, ⟨d0, d1, d2⟩⟩ := hc
  have e : ∀ a, o + 1 < a → (z_wI (z_wI M (o + 1) n w) o 1 (Int32.ofNat (n + 1))).1 a = M.1 a := fun a ha => funext fun k => by rw [w_addr _ (by omega), w_addr _ (by omega)]
  have e0 : ∀ k, k ≠ 1 → (z_wI (z_wI M (o + 1) n w) o 1 (Int32.ofNat (n + 1))).1 o k = M.1 o k := fun k hk => by rw [w_slot _ hk, w_addr _ (by omega)]
  refine ⟨⟨by rw [e _ (by omega)]; exact a1, by rw [e _ (by omega)]; exact a2, fun k hk => by rw [e _ (by omega)]; exact a3 k hk⟩, h2.keep (fun a q1 q2 => e a (by omega)), h3.keep (fun a q1 q2 => e a (by omega)), ?_, ⟨hn, w_same _ _ _ _, fun k hk => ?_⟩, by rw [e0 _ (by decide)]; exact h6, ⟨d0, by rw [e0 _ (by decide)]; exact d1, fun k hk => by rw [e _ (by omega)]; exact d2 k hk⟩⟩
  · show c_snap _ o s.1 s.2.2.2.1
    have h4' : c_snap M o s.1 s.2.2.2.1 := h4
    cases hs : s.2.2.2.1 with
    | none =>
      rw [hs] at h4'
      show (z_wI (z_wI M (o + 1) n w) o 1 (Int32.ofNat (n + 1))).1 o 9 = 0
      rw [e0 _ (by decide)]
      exact h4'
    | some B =>
      rw [hs] at h4'
      exact ⟨by rw [e0 _ (by decide)]; exact h4'.1, h4'.2.keep (fun a q1 q2 => e a (by omega))⟩
  · rw [w_addr _ (by omega)]
    show _ = (if k = n then v else b k)
    by_cases hkn : k = n
    · rw [if_pos hkn, hkn, w_same]
      exact hw
    · have hk' : k < n + 1 := hk
      rw [if_neg hkn, w_slot _ hkn]
      exact b2 k (show k < n by omega)
theorem m_step {m n : Nat} {M : z_Mem} {s : q_S} {b : q_R} {v : Int32} (hm : m_all m M (q_sb s (b, n))) : m_all m (z_wI (z_wI M (m + 12) n v) m 23 (Int32.ofNat (n + 1))) (q_sb s (q_app b n v, n + 1)) := by
  obtain ⟨⟨a1, a2, a3, a4, a5, a6⟩, h2, ⟨b0, b1, b2⟩, h4, ⟨d1, d2⟩, h6, ⟨f1, f2⟩⟩ := hm
  have e : ∀ j, 0 < j → j ≠ 12 → (z_wI (z_wI M (m + 12) n v) m 23 (Int32.ofNat (n + 1))).1 (m + j) = M.1 (m + j) := fun j hj hj' => funext fun k => by rw [w_addr _ (by omega), w_addr _ (by omega)]
  have e0 : ∀ k, k ≠ 23 → (z_wI (z_wI M (m + 12) n v) m 23 (Int32.ofNat (n + 1))).1 m k = M.1 m k := fun k hk => by rw [w_slot _ hk, w_addr _ (by omega)]
  refine ⟨⟨by rw [e0 _ (by decide)]; exact a1, by rw [e0 _ (by decide)]; exact a2, by rw [e0 _ (by decide)]; exact a3, by rw [e0 _ (by decide)]; exact a4, fun k hk' => by rw [e _ (by decide) (by decide)]; exact a5 k hk', fun t ht => by rw [e _ (by decide) (by decide), e _ (by decide) (by decide)]; exact a6 t ht⟩, h2.keep (e _ (by decide) (by decide)),
    ⟨b0, by rw [e0 _ (by decide)]; exact b1, fun j B hB => (b2 j B hB).keep (e _ (by decide) (by decide))⟩, ?_, ⟨w_same _ _ _ _, fun k hk => ?_⟩, by rw [e0 _ (by decide)]; exact h6, ⟨by rw [e0 _ (by decide)]; exact f1, fun k hk' => by rw [e _ (by decide) (by decide)]; exact f2 k hk'⟩⟩
  · show m_snap _ m s.2.2.2.1
    have h4' : m_snap M m s.2.2.2.1 := h4
    cases hs : s.2.2.2.1 with
    | none =>
      rw [hs] at h4'
      show (z_wI (z_wI M (m + 12) n v) m 23 (Int32.ofNat (n + 1))).1 m 5 = 0
      rw [e0 _ (by decide)]
      exact h4'
    | some B =>
      rw [hs] at h4'
      exact ⟨by rw [e0 _ (by decide)]; exact h4'.1, h4'.2.keep (e _ (by decide) (by decide))⟩
  · rw [w_addr _ (by omega)]
    show _ = (if k = n then v else b k)
    by_cases hkn : k = n
    · rw [if_pos hkn, hkn, w_same]
    · have hk' : k < n + 1 := hk
      rw [if_neg hkn, w_slot _ hkn]
      exact d2 k (show k < n by omega)
def q_by (p sh : Int32) : Int32 := (p >>> (sh &&& 31)) &&& 255
theorem a_byte_c {o n f : Nat} {M : z_Mem} {s : q_S} {b : q_R} {p sh : Int32} (hs : ¬ sh < 0) (hc : c_all o M (q_sb s (b, n))) (hn : n < 800) : ∃ M', F_Sys_appendFourBytes_L3 o (f + 1) p sh M = F_Sys_appendFourBytes_L3 o f p (sh + -8) M' ∧ c_all o M' (q_sb s (q_app b n (q_by p sh), n + 1)) ∧ q_C o M M' := by
  have hb : M.1 o 1 = Int32.ofNat n := hc.2.2.2.2.1.2.1
  have h2 : ¬ (800 : Int32) ≤ Int32.ofNat n := fun q => by
    have := (i_le (a := 800) (by decide) (by omega)).mp q
    omega
  refine ⟨_, ?_, c_step (w := (((p >>> (sh &&& 31)).toInt8.toInt32).toInt8.toInt32)) hc hn (by rw [i_byte, i_byte]; rfl), (q_C.w (Or.inl ⟨by omega, by omega⟩)).tr (q_C.w (Or.inl ⟨by omega, by omega⟩))⟩
  show F_Sys_appendFourBytes_B3 o (F_Sys_appendFourBytes_L3 o f) p sh M = _
  unfold F_Sys_appendFourBytes_B3
  rw [if_neg hs, hb, if_neg (i_nn (by omega)), if_neg h2, if_pos ((i_inb (by omega)).mpr hn), i_cl (by omega)]
  simp only [zl]
  rw [w_addr _ (by omega), hb, i_succ]
theorem a_byte_m {m n f : Nat} {M : z_Mem} {s : q_S} {b : q_R} {p sh : Int32} (hs : ¬ sh < 0) (hm : m_all m M (q_sb s (b, n))) (hn : n < 800) : F_Model_lays_L3 m (f + 1) p sh M = F_Model_lays_L3 m f p (sh + -8) (z_wI (z_wI M (m + 12) n (q_by p sh)) m 23 (Int32.ofNat (n + 1))) := by
  have hb : M.1 m 23 = Int32.ofNat n := hm.2.2.2.2.1.1
  show F_Model_lays_B3 m (F_Model_lays_L3 m f) p sh M = _
  unfold F_Model_lays_B3
  rw [if_neg hs, hb, if_pos ((i_inb (by omega)).mpr hn), i_cl (by omega)]
  simp only [zl]
  rw [w_addr _ (by omega), hb, i_succ]
  rfl
def q_four (b : q_R) (n : Nat) (p : Int32) : q_R := q_app (q_app (q_app (q_app b n (q_by p 24)) (n + 1) (q_by p (24 + -8))) (n + 1 + 1) (q_by p (24 + -8 + -8))) (n + 1 + 1 + 1) (q_by p (24 + -8 + -8 + -8))
theorem a_four_c {o n : Nat} {M : z_Mem} {s : q_S} {b : q_R} (p : Int32) (hc : c_all o M (q_sb s (b, n))) (hn : n + 4 ≤ 800) : ∃ M', F_Sys_appendFourBytes o p M = some M' ∧ c_all o M' (q_sb s (q_four b n p, n + 4)) ∧ q_C o M M' := by
  obtain ⟨M1, e1, c1, k1⟩ := a_byte_c (f := 9999) (p := p) (sh := 24) (by decide) hc (by omega)
  obtain ⟨M2, e2, c2, k2⟩ := a_byte_c (f := 9998) (p := p) (sh := 24 + -8) (by decide) c1 (by omega)
  obtain ⟨M3, e3, c3, k3⟩ := a_byte_c (f := 9997) (p := p) (sh := 24 + -8 + -8) (by decide) c2 (by omega)
  obtain ⟨M4, e4, c4, k4⟩ := a_byte_c (f := 9996) (p := p) (sh := 24 + -8 + -8 + -8) (by decide) c3 (by omega)
  refine ⟨M4, ?_, c4, ((k1.tr k2).tr k3).tr k4⟩
  unfold F_Sys_appendFourBytes
  refine e1.trans (e2.trans (e3.trans (e4.trans ?_)))
  show F_Sys_appendFourBytes_B3 o (F_Sys_appendFourBytes_L3 o 9995) p (24 + -8 + -8 + -8 + -8) M4 = some M4
  unfold F_Sys_appendFourBytes_B3
  exact if_pos (by decide)
theorem a_four_m {o n : Nat} {M : z_Mem} {s : q_S} {b : q_R} (p : Int32) (hm : m_all (o + 548) M (q_sb s (b, n))) (hn : n + 4 ≤ 800) : ∃ M', F_Model_lays (o + 548) p M = some M' ∧ m_all (o + 548) M' (q_sb s (q_four b n p, n + 4)) ∧ q_M o M M' ∧ M'.1 (o + 548) 0 = M.1 (o + 548) 0 := by
  have st : ∀ {n : Nat} {M : z_Mem} {v w : Int32}, q_M o M (z_wI (z_wI M (o + 548 + 12) n v) (o + 548) 23 w) ∧ (z_wI (z_wI M (o + 548 + 12) n v) (o + 548) 23 w).1 (o + 548) 0 = M.1 (o + 548) 0 := fun {n M v w} =>
    ⟨(q_M.w ⟨by omega, by omega⟩).tr (q_M.w ⟨by omega, by omega⟩), by rw [w_slot _ (by decide), w_addr _ (by omega)]⟩
  have e1 := a_byte_m (f := 9999) (p := p) (sh := 24) (by decide) hm (by omega)
  have m1 := m_step (v := q_by p 24) hm
  have e2 := a_byte_m (f := 9998) (p := p) (sh := 24 + -8) (by decide) m1 (by omega)
  have m2 := m_step (v := q_by p (24 + -8)) m1
  have e3 := a_byte_m (f := 9997) (p := p) (sh := 24 + -8 + -8) (by decide) m2 (by omega)
  have m3 := m_step (v := q_by p (24 + -8 + -8)) m2
  have e4 := a_byte_m (f := 9996) (p := p) (sh := 24 + -8 + -8 + -8) (by decide) m3 (by omega)
  have m4 := m_step (v := q_by p (24 + -8 + -8 + -8)) m3
  refine ⟨_, ?_, m4, ((st.1.tr st.1).tr st.1).tr st.1, ((st.2.trans st.2).trans st.2).trans st.2⟩
  unfold F_Model_lays
  refine e1.trans (e2.trans (e3.trans (e4.trans ?_)))
  show F_Model_lays_B3 (o + 548) (F_Model_lays_L3 (o + 548) 9995) p (24 + -8 + -8 + -8 + -8) _ = some _
  unfold F_Model_lays_B3
  exact if_pos (by decide)
def q_five (b : q_R) (n : Nat) (p0 p1 p2 p3 p4 : Int32) : q_R := q_four (q_four (q_four (q_four (q_four b n p0) (n + 4) p1) (n + 4 + 4) p2) (n + 4 + 4 + 4) p3) (n + 4 + 4 + 4 + 4) p4
/-- the state after feed -/
def q_feed (s : q_S) (p0 p1 p2 p3 p4 : Int32) : q_S := if s.2.2.2.2.1.2 + 20 ≤ 800 then q_sb s (q_five s.2.2.2.2.1.1 s.2.2.2.2.1.2 p0 p1 p2 p3 p4, s.2.2.2.2.1.2 + 4 + 4 + 4 + 4 + 4) else s
theorem i_20 {n : Nat} (hn : n ≤ 800) : (Int32.ofNat n + 20 ≤ (800 : Int32)) ↔ n + 20 ≤ 800 := by
  rw [show (20 : Int32) = Int32.ofNat 20 from rfl, i_add, show (800 : Int32) = Int32.ofNat 800 from rfl, i_le (by omega) (by decide)]
theorem a_feed_c {o : Nat} {M : z_Mem} {s : q_S} (hc : c_all o M s) (p0 p1 p2 p3 p4 : Int32) : ∃ M', F_Sys_feed o p0 p1 p2 p3 p4 M = some (if s.2.2.2.2.1.2 + 20 ≤ 800 then Int32.ofNat (s.2.2.2.2.1.2 + 20) else -1, M') ∧ c_all o M' (q_feed s p0 p1 p2 p3 p4) ∧ q_C o M M' := by
  have hn := hc.2.2.2.2.1.1
  have hb := hc.2.2.2.2.1.2.1
  unfold F_Sys_feed q_feed
  rw [hb]
  by_cases h : s.2.2.2.2.1.2 + 20 ≤ 800
  · rw [if_pos ((i_20 hn).mpr h), if_pos h, if_pos h]
    obtain ⟨M1, e1, c1, k1⟩ := a_four_c (b := s.2.2.2.2.1.1) (n := s.2.2.2.2.1.2) (s := s) p0 hc (by omega)
    obtain ⟨M2, e2, c2, k2⟩ := a_four_c p1 c1 (by omega)
    obtain ⟨M3, e3, c3, k3⟩ := a_four_c p2 c2 (by omega)
    obtain ⟨M4, e4, c4, k4⟩ := a_four_c p3 c3 (by omega)
    obtain ⟨M5, e5, c5, k5⟩ := a_four_c p4 c4 (by omega)
    refine ⟨M5, ?_, c5, (((k1.tr k2).tr k3).tr k4).tr k5⟩
    rw [zb_ok e1, zb_ok e2, zb_ok e3, zb_ok e4, zb_ok e5]
    exact z_pair c5.2.2.2.2.1.2.1
  · rw [if_neg (fun q => h ((i_20 hn).mp q)), if_neg h, if_neg h]
    exact ⟨M, rfl, hc, q_C.rfl'⟩
theorem a_feed_m {o : Nat} {M : z_Mem} {s : q_S} (hm : m_all (o + 548) M s) (hn : s.2.2.2.2.1.2 ≤ 800) (p0 p1 p2 p3 p4 : Int32) : ∃ M', F_Model_feed (o + 548) p0 p1 p2 p3 p4 M = some (if s.2.2.2.2.1.2 + 20 ≤ 800 then Int32.ofNat (s.2.2.2.2.1.2 + 20) else -1, M') ∧ m_all (o + 548) M' (q_feed s p0 p1 p2 p3 p4) ∧ q_M o M M' := by
  have hm0 := hm.thr 0
  have hb := hm0.2.2.2.2.1.1
  unfold F_Model_feed q_feed
  simp only [zl]
  rw [hb]
  by_cases h : s.2.2.2.2.1.2 + 20 ≤ 800
  · rw [if_pos ((i_20 hn).mpr h), if_pos h, if_pos h]
    obtain ⟨M1, e1, c1, k1, -⟩ := a_four_m (b := s.2.2.2.2.1.1) (n := s.2.2.2.2.1.2) (s := s) p0 hm0 (by omega)
    obtain ⟨M2, e2, c2, k2, -⟩ := a_four_m p1 c1 (by omega)
    obtain ⟨M3, e3, c3, k3, -⟩ := a_four_m p2 c2 (by omega)
    obtain ⟨M4, e4, c4, k4, -⟩ := a_four_m p3 c3 (by omega)
    obtain ⟨M5, e5, c5, k5, -⟩ := a_four_m p4 c4 (by omega)
    refine ⟨M5, ?_, c5, q_M.thr.tr ((((k1.tr k2).tr k3).tr k4).tr k5)⟩
    rw [zb_ok e1, zb_ok e2, zb_ok e3, zb_ok e4, zb_ok e5]
    exact z_pair c5.2.2.2.2.1.1
  · rw [if_neg (fun q => h ((i_20 hn).mp q)), if_neg h, if_neg h]
    exact ⟨_, rfl, hm0, q_M.thr⟩
theorem a_feed {o L : Nat} {S : Nat → Int32} {i : Int32} {M : z_Mem} {s : q_S} {c : z_Mem → Option (Int32 × z_Mem)} (hc : c_all o M s) (hm : m_all (o + 548) M s) (h1 : z_inb (i + (1 : Int32)) L) (h2 : z_inb (i + (2 : Int32)) L) (h3 : z_inb (i + (3 : Int32)) L) (h4 : z_inb (i + (4 : Int32)) L) (h5 : z_inb (i + (5 : Int32)) L) : ∃ M' s', Fc_200 o L S i M c = c M' ∧ c_all o M' s' ∧ m_all (o + 548) M' s' ∧ ∃ p0 p1 p2 p3 p4, s' = q_feed s p0 p1 p2 p3 p4 := by
  obtain ⟨M1, e1, c1, k1⟩ := a_feed_c hc (S (i + 1).toNatClampNeg) (S (i + 2).toNatClampNeg) (S (i + 3).toNatClampNeg) (S (i + 4).toNatClampNeg) (S (i + 5).toNatClampNeg)
  obtain ⟨M2, e2, m2, k2⟩ := a_feed_m (hm.keep k1) hc.2.2.2.2.1.1 (S (i + 1).toNatClampNeg) (S (i + 2).toNatClampNeg) (S (i + 3).toNatClampNeg) (S (i + 4).toNatClampNeg) (S (i + 5).toNatClampNeg)
  refine ⟨M2, _, ?_, c1.keep k2, m2, _, _, _, _, _, rfl⟩
  unfold Fc_200
  simp only [if_pos h1, if_pos h2, if_pos h3, if_pos h4, if_pos h5]
  rw [zb2_ok e1, zb2_ok e2, if_pos rfl]
