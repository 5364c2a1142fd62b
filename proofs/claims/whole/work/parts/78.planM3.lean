/-! ===== PURE: the reference's plan: a step, and all of it ===== -/
section PLS
variable {m t i n : Nat} {s : q_S} {l : Nat → Nat} {N : z_Mem} {rec : Int32 → Int32 → Int32 → Int32 → Int32 → Int32 → Int32 → z_Mem → Option (Int32 × z_Mem)} {p b : Int32}
theorem m_pstep {g : q_R} {P : Prop} {p0 : Int32} (hI : q_In s) (ht : t < q_T s.1) (hn : n ≤ 14) (hi : i < n) (hv : q_val s.2.1 l n) (hm : m_all m N s) (hl : m_list N m l n) (hg : ∀ r, r < 24 → N.1 (m + 19) r = s_pk s.1 s.2.1 t l g i r) (hb : q_b b P) :
    (s_m s.1 s.2.1 t l i = -1 → F_Model_plans_B35 m rec (Int32.ofNat t) (Int32.ofNat (s_z s.2.1 t l i)) (s_f s.1 s.2.1 t l i) (s_st s.1 s.2.1 t l i) (s_p s.2.1 l p0 i) b (Int32.ofNat i) N = some (0, N)) ∧
    (s_m s.1 s.2.1 t l i ≠ -1 → ∃ b' N', F_Model_plans_B35 m rec (Int32.ofNat t) (Int32.ofNat (s_z s.2.1 t l i)) (s_f s.1 s.2.1 t l i) (s_st s.1 s.2.1 t l i) (s_p s.2.1 l p0 i) b (Int32.ofNat i) N = rec (Int32.ofNat t) (Int32.ofNat (s_z s.2.1 t l (i + 1))) (s_f s.1 s.2.1 t l (i + 1)) (s_st s.1 s.2.1 t l (i + 1)) (s_p s.2.1 l p0 (i + 1)) b' (Int32.ofNat (i + 1)) N' ∧ q_b b' (P ∧ s_k1 s.1 s.2.1 t l p0 g i) ∧ m_pl m N N' ∧ m_list N' m l n ∧ m_times N' m s.1 s.2.1 t l i (i + 1) ∧ (∀ x k, k ≠ i → x ≠ m + 19 → N'.1 x k = N.1 x k) ∧ ∀ r, r < 24 → N'.1 (m + 19) r = s_pk s.1 s.2.1 t l g (i + 1) r) := by
  have hN := hI.I.rides24
  have hT := hI.I.taxis4
  have hs := hv i hi
  have hr : l i / 2 < q_N s.2.1 := by omega
  have hz : z_inb (Int32.ofNat i) 14 := (i_inb (by omega)).mpr (by omega)
  have ci : (Int32.ofNat i).toNatClampNeg = i := i_cl (by omega)
  obtain ⟨ez, hz8⟩ := m_zoneOf hI hm hs
  have hz0 := s_z_lt8 hI ht hv (show i ≤ n by omega)
  have em : s.1 (8 * s_z s.2.1 t l i + q_zo s.2.1 (l i)) = s_m s.1 s.2.1 t l i := rfl
  have e1 : F_Model_plans_B35 m rec (Int32.ofNat t) (Int32.ofNat (s_z s.2.1 t l i)) (s_f s.1 s.2.1 t l i) (s_st s.1 s.2.1 t l i) (s_p s.2.1 l p0 i) b (Int32.ofNat i) N = F_Model_plans_J73 m rec (Int32.ofNat t) (Int32.ofNat (s_z s.2.1 t l i)) (s_f s.1 s.2.1 t l i) (s_st s.1 s.2.1 t l i) (s_p s.2.1 l p0 i) b (Int32.ofNat i) (Int32.ofNat (l i / 2)) (if l i % 2 = 1 then 1 else 0) N := by
    unfold F_Model_plans_B35
    rw [hl.1, if_neg (i_nle (by omega) (by omega) hi), if_pos hz]
    simp only [ci, zl]
    rw [if_pos hz, hl.2 i hi, i_half (by omega), i_odd _ (by omega)]
    by_cases ho : l i % 2 = 1
    · rw [if_pos (by rw [ho]; rfl), if_pos ho]
    · rw [if_neg (i_ne1 (by omega) ho), if_neg ho]
  constructor
  · intro h1
    rw [e1]
    unfold F_Model_plans_J73
    simp only [ci]
    rw [if_pos hz, hl.2 i hi, zb_ok ez, zb_ok (a_way_m hm hz0 hz8), em, if_pos h1]
  · intro h1
    have ew := (s_m_w hI.1.2 hz0 hz8 h1).1
    have of4 : F_Model_of m (Int32.ofNat (l i / 2)) 4 N = some (s.2.1 (177 + 17 * (l i / 2))) := by
      rw [m_ofL (kl := 4) hm 4 (by omega) (by omega) rfl]
      exact congrArg some (congrArg s.2.1 (by omega))
    have of11 : F_Model_of m (Int32.ofNat (l i / 2)) 11 N = some (s.2.1 (184 + 17 * (l i / 2))) := by
      rw [m_ofL (kl := 11) hm 11 (by omega) (by omega) rfl]
      exact congrArg some (congrArg s.2.1 (by omega))
    have in3 : F_Model_in2 m (Int32.ofNat t) 3 N = some (s.2.1 (16 + 40 * t)) := by
      rw [m_in2L (kl := 3) hm 3 (by omega) (by omega) rfl]
      exact congrArg some (congrArg s.2.1 (by omega))
    have hz0' : z_inb (0 : Int32) 581 := by decide
    have e124 : ∀ y, F_Model_plans_J124 m rec (Int32.ofNat t) (s_f s.1 s.2.1 t l i) (s_st s.1 s.2.1 t l i) (s_p s.2.1 l p0 i) b (Int32.ofNat i) (Int32.ofNat (l i / 2)) (if l i % 2 = 1 then 1 else 0) (s_w s.1 s.2.1 t l i) y N = F_Model_plans_J163 m rec (Int32.ofNat t) (s_f s.1 s.2.1 t l i) (s_st s.1 s.2.1 t l i) (s_p s.2.1 l p0 i) b (Int32.ofNat i) (Int32.ofNat (l i / 2)) (if l i % 2 = 1 then 1 else 0) (s_w s.1 s.2.1 t l i) (if i = 0 then (if s.2.1 (16 + 40 * t) = -1 then i_mx y (s.2.1 0) else s.2.1 (16 + 40 * t)) else y) N := fun y => by
      unfold F_Model_plans_J124 F_Model_plans_J161
      by_cases h0 : i = 0
      · rw [if_pos (show Int32.ofNat i = 0 by rw [h0]; rfl), if_pos h0, zb_ok in3]
        by_cases hL : s.2.1 (16 + 40 * t) = -1
        · rw [if_pos hL, if_pos hz0', if_pos hL]
          have e0 : N.1 (m + 1) (0 : Int32).toNatClampNeg = s.2.1 0 := m_at hm (k := 0) (by omega)
          rw [e0, zb_ok (m_greater _ _ N)]
        · rw [if_neg hL, if_neg hL, zb_ok in3]
      · rw [if_neg (i_ne0 (by omega) h0), if_neg h0]
    have e2 : F_Model_plans_J73 m rec (Int32.ofNat t) (Int32.ofNat (s_z s.2.1 t l i)) (s_f s.1 s.2.1 t l i) (s_st s.1 s.2.1 t l i) (s_p s.2.1 l p0 i) b (Int32.ofNat i) (Int32.ofNat (l i / 2)) (if l i % 2 = 1 then 1 else 0) N = F_Model_plans_J163 m rec (Int32.ofNat t) (s_f s.1 s.2.1 t l i) (s_st s.1 s.2.1 t l i) (s_p s.2.1 l p0 i) b (Int32.ofNat i) (Int32.ofNat (l i / 2)) (if l i % 2 = 1 then 1 else 0) (s_w s.1 s.2.1 t l i) (s_o s.1 s.2.1 t l i) N := by
      unfold F_Model_plans_J73
      simp only [ci]
      rw [if_pos hz, hl.2 i hi, zb_ok ez, zb_ok (a_way_m hm hz0 hz8), em, if_neg h1, ew]
      by_cases ho : l i % 2 = 1
      · have hf1 : ¬ (if l i % 2 = 1 then (1 : Int32) else 0) = 0 := by rw [if_pos ho]; decide
        rw [if_neg hf1, zb_ok of4, zb_ok (m_greater _ _ N), e124]
        congr 1
        unfold s_o s_lv
        rw [if_pos ho]
        by_cases h0 : i = 0
        · by_cases hL : s.2.1 (16 + 40 * t) = -1
          · rw [if_pos h0, if_pos hL, if_neg (show ¬ (i = 0 ∧ s.2.1 (16 + 40 * t) ≠ -1) from fun q => q.2 hL), if_pos h0, i_mx_swap]
          · rw [if_pos h0, if_neg hL, if_pos (show i = 0 ∧ s.2.1 (16 + 40 * t) ≠ -1 from ⟨h0, hL⟩)]
        · rw [if_neg h0, if_neg (show ¬ (i = 0 ∧ s.2.1 (16 + 40 * t) ≠ -1) from fun q => h0 q.1), if_neg h0]
      · have hf0 : (if l i % 2 = 1 then (1 : Int32) else 0) = 0 := if_neg ho
        rw [if_pos hf0, e124]
        congr 1
        unfold s_o s_lv
        rw [if_neg ho]
        by_cases h0 : i = 0
        · by_cases hL : s.2.1 (16 + 40 * t) = -1
          · rw [if_pos h0, if_pos hL, if_neg (show ¬ (i = 0 ∧ s.2.1 (16 + 40 * t) ≠ -1) from fun q => q.2 hL), if_pos h0]
          · rw [if_pos h0, if_neg hL, if_pos (show i = 0 ∧ s.2.1 (16 + 40 * t) ≠ -1 from ⟨h0, hL⟩)]
        · rw [if_neg h0, if_neg (show ¬ (i = 0 ∧ s.2.1 (16 + 40 * t) ≠ -1) from fun q => h0 q.1), if_neg h0]
    generalize hx : (if l i % 2 = 1 ∧ s.2.1 (184 + 17 * (l i / 2)) = 1 then (1 : Int32) else 0) = x
    have e3 : F_Model_plans_J163 m rec (Int32.ofNat t) (s_f s.1 s.2.1 t l i) (s_st s.1 s.2.1 t l i) (s_p s.2.1 l p0 i) b (Int32.ofNat i) (Int32.ofNat (l i / 2)) (if l i % 2 = 1 then 1 else 0) (s_w s.1 s.2.1 t l i) (s_o s.1 s.2.1 t l i) N = F_Model_plans_J210 m rec (Int32.ofNat t) (s_st s.1 s.2.1 t l (i + 1)) (s_p s.2.1 l p0 i) b (Int32.ofNat i) (Int32.ofNat (l i / 2)) (if l i % 2 = 1 then 1 else 0) (s_w s.1 s.2.1 t l i) (s_o s.1 s.2.1 t l i) x N := by
      have e186 : ∀ y, F_Model_plans_J186 m rec (Int32.ofNat t) (s_p s.2.1 l p0 i) b (Int32.ofNat i) (Int32.ofNat (l i / 2)) (if l i % 2 = 1 then 1 else 0) (s_w s.1 s.2.1 t l i) (s_o s.1 s.2.1 t l i) y N = F_Model_plans_J210 m rec (Int32.ofNat t) y (s_p s.2.1 l p0 i) b (Int32.ofNat i) (Int32.ofNat (l i / 2)) (if l i % 2 = 1 then 1 else 0) (s_w s.1 s.2.1 t l i) (s_o s.1 s.2.1 t l i) x N := fun y => by
        unfold F_Model_plans_J186 F_Model_plans_J209
        by_cases ho : l i % 2 = 1
        · have hf1 : ¬ (if l i % 2 = 1 then (1 : Int32) else 0) = 0 := by rw [if_pos ho]; decide
          rw [if_neg hf1, zb_ok of11]
          by_cases ha : s.2.1 (184 + 17 * (l i / 2)) = 1
          · rw [if_pos ha, ← hx, if_pos (show l i % 2 = 1 ∧ s.2.1 (184 + 17 * (l i / 2)) = 1 from ⟨ho, ha⟩)]
          · rw [if_neg ha, ← hx, if_neg (show ¬ (l i % 2 = 1 ∧ s.2.1 (184 + 17 * (l i / 2)) = 1) from fun q => ha q.2)]
        · have hf0 : (if l i % 2 = 1 then (1 : Int32) else 0) = 0 := if_neg ho
          rw [if_pos hf0, ← hx, if_neg (show ¬ (l i % 2 = 1 ∧ s.2.1 (184 + 17 * (l i / 2)) = 1) from fun q => ho q.1)]
      unfold F_Model_plans_J163
      rw [zb_ok (m_ruledL (kl := 6) hm 6 (by omega) rfl)]
      have est : s_st s.1 s.2.1 t l (i + 1) = if s_o s.1 s.2.1 t l i - s_f s.1 s.2.1 t l i < s.2.1 9 then s_st s.1 s.2.1 t l i + s_w s.1 s.2.1 t l i else s_w s.1 s.2.1 t l i := rfl
      rw [est]
      by_cases hlt : s_o s.1 s.2.1 t l i - s_f s.1 s.2.1 t l i < s.2.1 9
      · rw [if_pos (show s_o s.1 s.2.1 t l i - s_f s.1 s.2.1 t l i < s.2.1 (3 + 6) from hlt), if_pos hlt]
        exact e186 _
      · rw [if_neg (show ¬ s_o s.1 s.2.1 t l i - s_f s.1 s.2.1 t l i < s.2.1 (3 + 6) from hlt), if_neg hlt]
        exact e186 _
    -- the arrays are written
    generalize hN5 : z_wI (z_wI (z_wI (z_wI (z_wI N (m + 14) i (s_o s.1 s.2.1 t l i)) (m + 15) i (s_a s.1 s.2.1 t l i)) (m + 16) i (s_f s.1 s.2.1 t l (i + 1))) (m + 17) i (s_st s.1 s.2.1 t l (i + 1))) (m + 18) i (s_w s.1 s.2.1 t l i) = N5
    have p5 : m_pl m N N5 := by
      rw [← hN5]
      exact ((((m_pl.rfl'.w (by omega) (by omega)).w (by omega) (by omega)).w (by omega) (by omega)).w (by omega) (by omega)).w (by omega) (by omega)
    have rd : ∀ x k, k ≠ i → N5.1 x k = N.1 x k := fun x k hk => by
      rw [← hN5, w_slot _ hk, w_slot _ hk, w_slot _ hk, w_slot _ hk, w_slot _ hk]
    have rd2 : ∀ x, (x < m + 14 ∨ m + 19 ≤ x) → N5.1 x = N.1 x := fun x hx => funext fun k => by
      rw [← hN5, w_addr _ (by omega), w_addr _ (by omega), w_addr _ (by omega), w_addr _ (by omega), w_addr _ (by omega)]
    have v18 : N5.1 (m + 18) i = s_w s.1 s.2.1 t l i := by rw [← hN5, w_same]
    have v17 : N5.1 (m + 17) i = s_st s.1 s.2.1 t l (i + 1) := by rw [← hN5, w_addr _ (by omega), w_same]
    have v16 : N5.1 (m + 16) i = s_f s.1 s.2.1 t l (i + 1) := by rw [← hN5, w_addr _ (by omega), w_addr _ (by omega), w_same]
    have v15 : N5.1 (m + 15) i = s_a s.1 s.2.1 t l i := by rw [← hN5, w_addr _ (by omega), w_addr _ (by omega), w_addr _ (by omega), w_same]
    have v14 : N5.1 (m + 14) i = s_o s.1 s.2.1 t l i := by rw [← hN5, w_addr _ (by omega), w_addr _ (by omega), w_addr _ (by omega), w_addr _ (by omega), w_same]
    have v13 : N5.1 (m + 13) = N.1 (m + 13) := rd2 _ (by omega)
    have v19 : N5.1 (m + 19) = N.1 (m + 19) := rd2 _ (by omega)
    have m5 : m_all m N5 s := p5.all hm
    obtain ⟨n70, en70⟩ : ∃ v, s.1 (70 + t) = v := ⟨_, rfl⟩
    have e4 : ∃ b1, q_b b1 (P ∧ ¬ s.1 (70 + t) < s_p s.2.1 l p0 i ∧ ¬ s.2.1 8 < s_st s.1 s.2.1 t l (i + 1)) ∧ F_Model_plans_J210 m rec (Int32.ofNat t) (s_st s.1 s.2.1 t l (i + 1)) (s_p s.2.1 l p0 i) b (Int32.ofNat i) (Int32.ofNat (l i / 2)) (if l i % 2 = 1 then 1 else 0) (s_w s.1 s.2.1 t l i) (s_o s.1 s.2.1 t l i) x N = F_Model_plans_J311 m rec (Int32.ofNat t) (s_st s.1 s.2.1 t l (i + 1)) (s_p s.2.1 l p0 i) (Int32.ofNat i) (Int32.ofNat (l i / 2)) (if l i % 2 = 1 then 1 else 0) x b1 N5 := by
      have e257 : ∀ k kl, k < 10 → kl = Int32.ofNat k → s.2.1 (3 + k) = s_stay s.2.1 (l i) → ∃ b1, q_b b1 (P ∧ ¬ s.1 (70 + t) < s_p s.2.1 l p0 i ∧ ¬ s.2.1 8 < s_st s.1 s.2.1 t l (i + 1)) ∧ F_Model_plans_J257 m rec (Int32.ofNat t) (s_st s.1 s.2.1 t l (i + 1)) (s_p s.2.1 l p0 i) b (Int32.ofNat i) (Int32.ofNat (l i / 2)) (if l i % 2 = 1 then 1 else 0) (s_w s.1 s.2.1 t l i) x kl (s_a s.1 s.2.1 t l i) (Int32.ofNat i) (z_wI (z_wI N (m + 14) i (s_o s.1 s.2.1 t l i)) (m + 15) i (s_a s.1 s.2.1 t l i)) = F_Model_plans_J311 m rec (Int32.ofNat t) (s_st s.1 s.2.1 t l (i + 1)) (s_p s.2.1 l p0 i) (Int32.ofNat i) (Int32.ofNat (l i / 2)) (if l i % 2 = 1 then 1 else 0) x b1 N5 := fun k kl hk hkl hst => by
        have p2 : m_pl m N (z_wI (z_wI N (m + 14) i (s_o s.1 s.2.1 t l i)) (m + 15) i (s_a s.1 s.2.1 t l i)) := (m_pl.rfl'.w (by omega) (by omega)).w (by omega) (by omega)
        unfold F_Model_plans_J257 F_Model_plans_J310
        rw [zb_ok (m_ruledL (p2.all hm) k hk hkl), hst, if_pos hz]
        simp only [ci, zl]
        rw [if_pos hz, if_pos hz]
        have ef : s_a s.1 s.2.1 t l i + s_stay s.2.1 (l i) = s_f s.1 s.2.1 t l (i + 1) := rfl
        rw [ef, hN5]
        have hz4 : z_inb (Int32.ofNat t) 4 := (i_inb (by omega)).mpr (by omega)
        have e10 : N5.1 (m + 10) (Int32.ofNat t).toNatClampNeg = s.1 (70 + t) := by
          rw [i_cl (by omega)]
          exact (m5.1.2.2.2.2.2 t (by omega)).1
        rcases hb with ⟨hb1, hP⟩ | ⟨hb0, hP⟩
        · rw [hb1, if_neg (by decide), if_pos hz4, e10]
          by_cases q1 : s.1 (70 + t) < s_p s.2.1 l p0 i
          · rw [if_pos q1]
            exact ⟨0, Or.inr ⟨rfl, fun q => q.2.1 q1⟩, rfl⟩
          · rw [if_neg q1, zb_ok (m_ruledL (kl := 5) m5 5 (by omega) rfl)]
            by_cases q2 : s.2.1 (3 + 5) < s_st s.1 s.2.1 t l (i + 1)
            · rw [if_pos q2]
              exact ⟨0, Or.inr ⟨rfl, fun q => q.2.2 q2⟩, rfl⟩
            · rw [if_neg q2]
              exact ⟨1, Or.inl ⟨rfl, hP, q1, q2⟩, rfl⟩
        · rw [hb0, if_pos rfl]
          exact ⟨0, Or.inr ⟨rfl, fun q => hP q.1⟩, rfl⟩
      unfold F_Model_plans_J210
      simp only [ci, zl]
      have ea : s_o s.1 s.2.1 t l i + s_w s.1 s.2.1 t l i = s_a s.1 s.2.1 t l i := rfl
      rw [if_pos hz, if_pos hz, if_pos hz, ea, w_same]
      by_cases hxx : l i % 2 = 1 ∧ s.2.1 (184 + 17 * (l i / 2)) = 1
      · have hx1 : ¬ x = 0 := by rw [← hx, if_pos hxx]; decide
        rw [if_neg hx1]
        exact e257 3 3 (by omega) rfl (by unfold s_stay; rw [if_pos hxx])
      · have hx0 : x = 0 := by rw [← hx, if_neg hxx]
        rw [if_pos hx0]
        exact e257 1 1 (by omega) rfl (by unfold s_stay; rw [if_neg hxx])
    obtain ⟨b1, hb1, e4⟩ := e4
    obtain ⟨b', N', e5, hb', p6, rd6, hg6⟩ := m_J311 (t := t) (rec := rec) (st := s_st s.1 s.2.1 t l (i + 1)) (p := s_p s.2.1 l p0 i) (x := x) hI m5 hs (by omega) (by rw [v13]; exact hl.2 i hi) v15 v16 (fun r hr' => by rw [v19]; exact hg r hr') hb1 hx.symm
    refine ⟨b', N', e1.trans (e2.trans (e3.trans (e4.trans e5))), hb'.of ?_, p5.tr p6, ⟨?_, fun k hk => ?_⟩, fun k h1 h2 => ?_, fun x k h1 h2 => ?_, hg6⟩
    · unfold s_k1
      constructor
      · rintro ⟨⟨h1, h2, h3⟩, h4⟩
        exact ⟨h1, h2, h3, h4⟩
      · rintro ⟨h1, h2, h3, h4⟩
        exact ⟨⟨h1, h2, h3⟩, h4⟩
    · rw [rd6 m (by omega), rd2 m (by omega)]
      exact hl.1
    · rw [rd6 _ (by omega), v13]
      exact hl.2 k hk
    · have hki : k = i := by omega
      subst hki
      rw [rd6 _ (by omega), rd6 _ (by omega), rd6 _ (by omega), rd6 _ (by omega), rd6 _ (by omega)]
      exact ⟨v14, v15, v16, v17, v18⟩
    · rw [rd6 _ h2, rd _ _ h1]
end PLS
theorem m_plans_L {m t n : Nat} {s : q_S} {l : Nat → Nat} {g : q_R} {p0 : Int32} (hI : q_In s) (ht : t < q_T s.1) (hn : n ≤ 14) (hv : q_val s.2.1 l n) : ∀ (r i f : Nat) (N : z_Mem) (b : Int32), i + r = n → r < f → m_all m N s → m_list N m l n → s_con s.1 s.2.1 t l i → q_b b (∀ k, k < i → s_k1 s.1 s.2.1 t l p0 g k) → (∀ r, r < 24 → N.1 (m + 19) r = s_pk s.1 s.2.1 t l g i r) → (∀ k, 0 ≤ k → k < i → N.1 (m + 14) k = s_o s.1 s.2.1 t l k ∧ N.1 (m + 15) k = s_a s.1 s.2.1 t l k ∧ N.1 (m + 16) k = s_f s.1 s.2.1 t l (k + 1) ∧ N.1 (m + 17) k = s_st s.1 s.2.1 t l (k + 1) ∧ N.1 (m + 18) k = s_w s.1 s.2.1 t l k) →
    ∃ b' N', F_Model_plans_L35 m f (Int32.ofNat t) (Int32.ofNat (s_z s.2.1 t l i)) (s_f s.1 s.2.1 t l i) (s_st s.1 s.2.1 t l i) (s_p s.2.1 l p0 i) b (Int32.ofNat i) N = some (b', N') ∧ m_pl m N N' ∧ m_list N' m l n ∧ q_b b' (s_ok s.1 s.2.1 t l p0 g n) ∧ (s_con s.1 s.2.1 t l n → m_times N' m s.1 s.2.1 t l 0 n) := by
  have hT := hI.I.taxis4
  intro r
  induction r with
  | zero =>
    intro i f N b hi hf hm hl hc hb hg hts
    obtain ⟨f, rfl⟩ : ∃ g, f = g + 1 := ⟨f - 1, by omega⟩
    have hi' : i = n := by omega
    subst hi'
    unfold F_Model_plans_L35 F_Model_plans_B35 F_Model_plans_J517
    rw [hl.1, if_pos ((i_le (by omega) (by omega)).mpr (Nat.le_refl _))]
    suffices hh : ∃ b', (if b = 0 then some ((0 : Int32), N) else if Int32.ofNat i = 0 then some (1, N) else if z_inb (Int32.ofNat i - 1) 14 then zb (F_Model_in2 m (Int32.ofNat t) 4 N) fun x5 => if x5 < N.1 (m + 16) (Int32.ofNat i - 1).toNatClampNeg then some (0, N) else some (1, N) else none) = some (b', N) ∧ q_b b' (s_ok s.1 s.2.1 t l p0 g i) by
      obtain ⟨b', e, h⟩ := hh
      exact ⟨b', N, e, m_pl.rfl', hl, h, fun _ k h1 h2 => hts k h1 h2⟩
    rcases hb with ⟨hb1, hP⟩ | ⟨hb0, hP⟩
    · rw [hb1, if_neg (by decide)]
      by_cases h0 : i = 0
      · rw [if_pos (show Int32.ofNat i = 0 by rw [h0]; rfl)]
        exact ⟨1, rfl, Or.inl ⟨rfl, hc, Or.inl h0, hP⟩⟩
      · rw [if_neg (i_ne0 (by omega) h0)]
        have e1 : Int32.ofNat i - 1 = Int32.ofNat (i - 1) := i_sub (b := 1) (by omega)
        have in4 : F_Model_in2 m (Int32.ofNat t) 4 N = some (s.2.1 (17 + 40 * t)) := by
          rw [m_in2L (kl := 4) hm 4 (by omega) (by omega) rfl]
          exact congrArg some (congrArg s.2.1 (by omega))
        have ci : (Int32.ofNat (i - 1)).toNatClampNeg = i - 1 := i_cl (by omega)
        have ef : N.1 (m + 16) (i - 1) = s_f s.1 s.2.1 t l i := by
          have := (hts (i - 1) (by omega) (by omega)).2.2.1
          rw [show i - 1 + 1 = i by omega] at this
          exact this
        rw [e1, if_pos ((i_inb (by omega)).mpr (by omega)), zb_ok in4, ci, ef]
        by_cases hlt : s.2.1 (17 + 40 * t) < s_f s.1 s.2.1 t l i
        · rw [if_pos hlt]
          exact ⟨0, rfl, Or.inr ⟨rfl, fun q => by
            rcases q.2.1 with q | q
            · exact h0 q
            · exact q hlt⟩⟩
        · rw [if_neg hlt]
          exact ⟨1, rfl, Or.inl ⟨rfl, hc, Or.inr hlt, hP⟩⟩
    · rw [hb0, if_pos rfl]
      exact ⟨0, rfl, Or.inr ⟨rfl, fun q => hP q.2.2⟩⟩
  | succ r ih =>
    intro i f N b hi hf hm hl hc hb hg hts
    obtain ⟨f, rfl⟩ : ∃ g, f = g + 1 := ⟨f - 1, by omega⟩
    obtain ⟨s1, s2⟩ := m_pstep (rec := F_Model_plans_L35 m f) (p0 := p0) hI ht hn (show i < n by omega) hv hm hl hg hb
    unfold F_Model_plans_L35
    by_cases hm1 : s_m s.1 s.2.1 t l i = -1
    · rw [s1 hm1]
      exact ⟨0, N, rfl, m_pl.rfl', hl, Or.inr ⟨rfl, fun q => q.1 i (by omega) hm1⟩, fun q => absurd hm1 (q i (by omega))⟩
    · obtain ⟨b', N', e, hb', p1, l1, t1, rd, hg1⟩ := s2 hm1
      rw [e]
      obtain ⟨b'', N'', e2, p2, l2, hb2, t2⟩ := ih (i + 1) f N' b' (by omega) (by omega) (p1.all hm) l1 (fun j hj => by
        by_cases hji : j = i
        · subst hji
          exact hm1
        · exact hc j (by omega)) (hb'.of ⟨fun h k hk => by
        by_cases hki : k = i
        · subst hki
          exact h.2
        · exact h.1 k (by omega), fun h => ⟨fun k hk => h k (by omega), h i (by omega)⟩⟩) hg1 (fun k h1 h2 => by
        by_cases hki : k = i
        · exact t1 k (by omega) (by omega)
        · rw [rd _ k hki (by omega), rd _ k hki (by omega), rd _ k hki (by omega), rd _ k hki (by omega), rd _ k hki (by omega)]
          exact hts k h1 (by omega))
      exact ⟨b'', N'', e2, p1.tr p2, l2, hb2, t2⟩
theorem q_taxiL.I {c A : q_R} {t n : Nat} {rt pt : List Nat} (h : q_taxiL c A t n rt pt) : q_taxiI A t := by
  obtain ⟨⟨a1, a2, a3, a4⟩, ⟨b1, b2, b3, b4⟩, -⟩ := h
  exact ⟨⟨rt.length, a2, a1.1, fun k hk => ⟨g_l rt k, a3 _ (g_l_mem hk), a1.2 k _ (g_l_get hk)⟩⟩, ⟨pt.length, b2, b1.1, fun k hk => ⟨g_l pt k, ((b4 _).mp (g_l_mem hk)).1, b1.2 k _ (g_l_get hk)⟩⟩⟩
theorem q_In.T {s : q_S} (hI : q_In s) {t : Nat} (ht : t < q_T s.1) : q_taxiI s.2.1 t := by
  obtain ⟨-, n, -, -, rt, pt, h⟩ := hI.2.1.2.2.2 t ht
  exact h.I
theorem m_plans {m t n : Nat} {s : q_S} {l : Nat → Nat} {N : z_Mem} (hI : q_In s) (ht : t < q_T s.1) (hn : n ≤ 14) (hv : q_val s.2.1 l n) (hm : m_all m N s) (hl : m_list N m l n) : ∃ b' N', F_Model_plans m (Int32.ofNat t) N = some (b', N') ∧ m_pl m N N' ∧ m_list N' m l n ∧ q_b b' (s_ok s.1 s.2.1 t l (y_per s.2.1 t) (N.1 (m + 19)) n) ∧ (s_con s.1 s.2.1 t l n → m_times N' m s.1 s.2.1 t l 0 n) := by
  have hT := hI.I.taxis4
  obtain ⟨⟨z, hz, e⟩, -⟩ := hI.2.1.2.2.2 t ht
  obtain ⟨b', N', e1, h⟩ := m_plans_L (m := m) (g := N.1 (m + 19)) (p0 := y_per s.2.1 t) hI ht hn hv n 0 10000 N 1 (by omega) (by omega) hm hl (fun j hj => by omega) (Or.inl ⟨rfl, fun k hk => by omega⟩) (fun r _ => rfl) (fun k h1 h2 => by omega)
  refine ⟨b', N', ?_, h⟩
  unfold F_Model_plans
  rw [zb_ok (m_in2L (kl := 0) hm 0 (by omega) (by omega) rfl), zb_ok (m_in2L (kl := 1) hm 1 (by omega) (by omega) rfl), zb_ok (m_in2L (kl := 2) hm 2 (by omega) (by omega) rfl), zb_ok (a_per_m hm hI.I.rides24 (by omega) (hI.T ht))]
  have e2 : Int32.ofNat (s_z s.2.1 t l 0) = s.2.1 (13 + 40 * t) := by
    show Int32.ofNat ((s.2.1 (13 + 40 * t)).toNatClampNeg) = _
    rw [e, i_cl (by omega)]
  rw [e2] at e1
  rw [show 13 + 40 * t + 1 = 14 + 40 * t by omega, show 13 + 40 * t + 2 = 15 + 40 * t by omega]
  exact e1
