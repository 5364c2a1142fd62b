/-! ===== PURE: tip, setRate, setEnd, setRule, decline ===== -/
theorem q_N_w {A : q_R} {k : Nat} {v : Int32} (h : k ≠ 1) : q_N (q_w A k v) = q_N A := by
  unfold q_N
  rw [q_w_ne (fun q => h q.symm)]
theorem q_Inv.row {s : q_S} {A' : q_R} (h : q_Inv s) (h1 : q_J s.1 A') (h2 : q_offJ s.1 A') : q_Inv (q_row s A') := ⟨⟨h.1.1, h1, h.1.2.2.1, h.1.2.2.2⟩, h2, h.2.2.1, h.2.2.2⟩
/-- a number is written that the invariant does not speak of -/
theorem q_Inv.up {s : q_S} {k : Nat} {v : Int32} (h : q_Inv s) (h1 : k ≠ 1) (hT : ∀ t, t < 4 → k ≠ 13 + 40 * t ∧ k ≠ 16 + 40 * t ∧ (k < 24 + 40 * t ∨ 53 + 40 * t ≤ k)) (hR : ∀ r, r < 24 → ∀ j, (173 ≤ j ∧ j < 177) ∨ j = 180 ∨ j = 184 ∨ j = 185 → k ≠ j + 17 * r) (hs : q_scaJ (q_w s.2.1 k v)) : q_Inv (q_up s k v) := by
  have hT4 := h.1.I.taxis4
  have hN := h.1.I.rides24
  refine h.row (h.1.2.1.calm hs (q_w_ne (fun q => h1 q.symm)) (fun t ht => ?_) (fun r hr => ?_)) (fun r hr h0 => ?_)
  · obtain ⟨a1, a2, a3⟩ := hT t (by omega)
    exact ⟨q_w_ne (by omega), q_w_ne (by omega), fun j q1 q2 => q_w_ne (by omega)⟩
  · exact ⟨fun j q1 q2 => q_w_ne (fun q => hR r (by omega) j (by omega) (by omega)), q_w_ne (fun q => hR r (by omega) 180 (by omega) q.symm), q_w_ne (fun q => hR r (by omega) 184 (by omega) q.symm)⟩
  · rw [q_N_w h1] at hr
    rw [q_w_ne (fun q => hR r (by omega) 173 (by omega) q.symm)] at h0
    rw [q_w_ne (fun q => hR r (by omega) 185 (by omega) q.symm), q_w_ne (fun q => hR r (by omega) 184 (by omega) q.symm)]
    exact h.2.1 r hr h0
theorem q_scaJ.w {A : q_R} {k : Nat} {v : Int32} (h : q_scaJ A) (h1 : k ≠ 2) (h2 : k < 10 ∨ 13 ≤ k) : q_scaJ (q_w A k v) := by
  obtain ⟨⟨x, hx, ex⟩, h3⟩ := h
  refine ⟨⟨x, hx, (q_w_ne (fun q => h1 q.symm)).trans ex⟩, fun j hj => ?_⟩
  obtain ⟨y, hy, ey⟩ := h3 j hj
  exact ⟨y, hy, (q_w_ne (by omega)).trans ey⟩
theorem q_Inv.upT {s : q_S} {t idx : Nat} {v : Int32} (h : q_Inv s) (ht : t < 4) (hi : idx = 14 ∨ idx = 15 ∨ (17 ≤ idx ∧ idx < 24)) : q_Inv (q_up s (idx + 40 * t) v) :=
  h.up (by omega) (fun u hu => by omega) (fun r hr j hj => by omega) (h.1.2.1.2.1.w (by omega) (by omega))
theorem q_Inv.upR {s : q_S} {r idx : Nat} {v : Int32} (h : q_Inv s) (hr : r < 24) (hi : 181 ≤ idx ∧ idx < 184) : q_Inv (q_up s (idx + 17 * r) v) :=
  h.up (by omega) (fun u hu => by omega) (fun r' hr' j hj => by omega) (h.1.2.1.2.1.w (by omega) (by omega))
theorem a_range_c (p lo hi : Int32) (M : z_Mem) : (p < lo ∨ hi < p → F_Sys_checkRange p lo hi M = some (.error 2)) ∧ (¬ (p < lo ∨ hi < p) → F_Sys_checkRange p lo hi M = some (.ok ())) := by
  unfold F_Sys_checkRange F_Sys_checkRange_J10
  by_cases h0 : p < lo
  · exact ⟨fun _ => if_pos h0, fun h => absurd (Or.inl h0) h⟩
  · rw [if_neg h0]
    by_cases h1 : p ≤ hi
    · rw [if_pos h1]
      refine ⟨fun h => ?_, fun _ => rfl⟩
      rcases h with h | h
      · contradiction
      · rw [Int32.lt_iff_toInt_lt] at h
        rw [Int32.le_iff_toInt_le] at h1
        omega
    · rw [if_neg h1]
      refine ⟨fun _ => rfl, fun h => absurd (Or.inr ?_) h⟩
      rw [Int32.lt_iff_toInt_lt]
      rw [Int32.le_iff_toInt_le] at h1
      omega
theorem i_rich {a p : Int32} (h1 : ¬ p < 1) (h2 : ¬ (2000000000 : Int32) < p) : (a ≤ 2000000000 - p) ↔ lg_cmp (a.toInt64 + p.toInt64) 2000000000 ≤ 0 := by
  rw [Int32.lt_iff_toInt_lt] at h1 h2
  have b1 : (1 : Int32).toInt = 1 := rfl
  have b2 : (2000000000 : Int32).toInt = 2000000000 := rfl
  have b3 : (2000000000 : Int64).toInt = 2000000000 := rfl
  have c1 := Int32.le_toInt a
  have c2 := Int32.toInt_lt a
  have e1 : (2000000000 - p).toInt = 2000000000 - p.toInt := by
    rw [Int32.toInt_sub, b2]
    exact Int.bmod_eq_of_le (by omega) (by omega)
  have e2 : (a.toInt64 + p.toInt64).toInt = a.toInt + p.toInt := by
    rw [Int64.toInt_add, Int32.toInt_toInt64, Int32.toInt_toInt64]
    exact Int.bmod_eq_of_le (by omega) (by omega)
  have e3 : lg_cmp (a.toInt64 + p.toInt64) 2000000000 ≤ 0 ↔ ¬ (2000000000 : Int64) < a.toInt64 + p.toInt64 := by
    have := i_cmp2 (a.toInt64 + p.toInt64) 2000000000
    constructor
    · intro h q
      have q := this.mpr q
      rw [Int32.le_iff_toInt_le] at h
      rw [Int32.lt_iff_toInt_lt] at q
      omega
    · intro h
      have h : ¬ 0 < lg_cmp (a.toInt64 + p.toInt64) 2000000000 := fun q => h (this.mp q)
      rw [Int32.lt_iff_toInt_lt] at h
      rw [Int32.le_iff_toInt_le]
      omega
  rw [e3, Int32.le_iff_toInt_le, e1, Int64.lt_iff_toInt_lt, e2, b3]
  omega
theorem a_tip {o L : Nat} {S : Nat → Int32} {i : Int32} {M : z_Mem} {s : q_S} {c : z_Mem → Option (Int32 × z_Mem)} (hI : q_Inv s) (hc : c_all o M s) (hm : m_all (o + 548) M s) (h1 : z_inb (i + (1 : Int32)) L) (h2 : z_inb (i + (2 : Int32)) L) : ∃ M' s', Fc_1709 o L S i M c = c M' ∧ c_all o M' s' ∧ m_all (o + 548) M' s' ∧ q_Inv s' := by
  generalize hp : S (i + 1).toNatClampNeg = p
  generalize hq : S (i + 2).toNatClampNeg = q
  have hT := hI.1.I.taxis4
  have ct := a_taxi_c hI.1.I hc
  have mt := fun (N : z_Mem) (hN : m_all (o + 548) N s) p => a_taxi_m (m := o + 548) (N := z_wI N (o + 548) 0 0) (T := q_T s.1) (by omega) (m_taxis hI.1.I (hN.thr 0)) p
  have mr := fun (N : z_Mem) (f : Int32 → z_Mem → Option (Int32 × z_Mem)) => p_infx (o + 548) q 1 2000000000 2 N (lo := 1) (hi := 2000000000) (by decide) (by decide) f
  rcases q_split (q_T s.1) (by omega) p with ⟨t, ht, rfl⟩ | hb
  · have gt := q_good (n := q_T s.1) (by omega) ht
    by_cases hr : q < 1 ∨ (2000000000 : Int32) < q
    · obtain ⟨M', e, g1, g2⟩ := k_tip (S := S) (c := c) (y := .error 2) q_c2n hm h1 h2 (l_of (c_thr hc (by
        rw [hp, hq]
        unfold F_Sys_tip
        simp only [zxm, zb, (ct _).2 t ht rfl, (a_range_c q 1 2000000000 M).1 hr])) (fun e M1 he => by cases he; rfl)) (fun N hN => m_err hN (b := 0) (v := 2) rfl (by
        rw [hp, hq]
        unfold F_Model_tip
        simp only [zl]
        rw [zb2_ok ((mt N hN _).2 gt), if_pos rfl, mr, if_pos hr]
        rfl))
      exact ⟨M', s, e, g1, g2, hI⟩
    · have x11 := (hc.2.1.2.2.2.2.2.2.2.1 t ht).2.2.2.2.2.2.2.2.2.1
      have hrich := i_rich (a := s.2.1 (18 + 40 * t)) (p := q) (fun z => hr (Or.inl z)) (fun z => hr (Or.inr z))
      have in5 : ∀ N s', m_all (o + 548) N s' → F_Model_in2 (o + 548) (Int32.ofNat t) 5 N = some (s'.2.1 (18 + 40 * t)) := fun N s' hN => by
        rw [m_in2L (kl := 5) hN 5 (by omega) (by omega) rfl]
        exact congrArg some (congrArg s'.2.1 (by omega))
      by_cases hle : s.2.1 (18 + 40 * t) ≤ 2000000000 - q
      · obtain ⟨M5, e5, c5, k5, -⟩ := a_note_c (o := o) hI.1.I hI.1.2.1.abs hc
        generalize hsn : q_noted s = sn at c5
        have row5 : sn.2.1 = s.2.1 := by rw [← hsn]; rfl
        have con5 : sn.1 = s.1 := by rw [← hsn]; rfl
        have ht5 : t < q_T sn.1 := by rw [con5]; exact ht
        have hT5 : q_T sn.1 ≤ 4 := by rw [con5]; exact hT
        generalize hs1 : q_up sn (18 + 40 * t) (s.2.1 (18 + 40 * t) + q) = s1
        have c6 : c_all o (z_wI M5 (o + 5 + 4 + 3 * t) 11 (s.2.1 (18 + 40 * t) + q)) s1 := by
          rw [← hs1]
          exact c5.wt ht5 hT5 (idx := 18) (by unfold q_tmap; omega)
        have con6 : s1.1 = s.1 := by rw [← hs1, ← con5]; rfl
        generalize hs2 : q_up s1 (19 + 40 * t) (s1.2.1 (19 + 40 * t) + q) = s2
        have c7 : c_all o (z_wI (z_wI M5 (o + 5 + 4 + 3 * t) 11 (s.2.1 (18 + 40 * t) + q)) (o + 5 + 4 + 3 * t) 12 (s1.2.1 (19 + 40 * t) + q)) s2 := by
          rw [← hs2]
          exact c6.wt (by rw [con6]; exact ht) (by rw [con6]; exact hT) (idx := 19) (by unfold q_tmap; omega)
        have con7 : s2.1 = s.1 := by rw [← hs2, ← con6]; rfl
        have r11 : M5.1 (o + 5 + 4 + 3 * t) 11 = s.2.1 (18 + 40 * t) := by
          rw [(c5.2.1.2.2.2.2.2.2.2.1 t ht5).2.2.2.2.2.2.2.2.2.1, row5]
        have r12 : (z_wI M5 (o + 5 + 4 + 3 * t) 11 (s.2.1 (18 + 40 * t) + q)).1 (o + 5 + 4 + 3 * t) 12 = s1.2.1 (19 + 40 * t) := (c6.2.1.2.2.2.2.2.2.2.1 t (by rw [con6]; exact ht)).2.2.2.2.2.2.2.2.2.2.1
        have r13 : (z_wI (z_wI M5 (o + 5 + 4 + 3 * t) 11 (s.2.1 (18 + 40 * t) + q)) (o + 5 + 4 + 3 * t) 12 (s1.2.1 (19 + 40 * t) + q)).1 (o + 5 + 4 + 3 * t) 11 = s2.2.1 (18 + 40 * t) := (c7.2.1.2.2.2.2.2.2.2.1 t (by rw [con7]; exact ht)).2.2.2.2.2.2.2.2.2.1
        have hI2 : q_Inv s2 := by
          rw [← hs2, ← hs1, ← hsn]
          exact (hI.noted.upT (by omega) (by omega)).upT (by omega) (by omega)
        obtain ⟨M', e, g1, g2⟩ := k_tip (S := S) (c := c) (y := .ok (s2.2.1 (18 + 40 * t))) (s' := s2) q_c2n hm h1 h2 (l_of (c_ok (by
          rw [hp, hq]
          unfold F_Sys_tip
          simp only [zxm, zb, (ct _).2 t ht rfl, (a_range_c q 1 2000000000 M).2 hr]
          rw [x11, if_pos hle, e5]
          simp only [zl]
          rw [r11, r12, r13]) c7 ((k5.tr (q_C.w (Or.inl ⟨by omega, by omega⟩))).tr (q_C.w (Or.inl ⟨by omega, by omega⟩)))) (fun e M1 he => by cases he)) (fun N hN => by
          have hN0 := hN.thr 0
          obtain ⟨N5, f5, m5, q5, n5, -⟩ := a_note_m hN0
          rw [hsn] at m5
          have m6 := m5.w (k := 18 + 40 * t) (v := s.2.1 (18 + 40 * t) + q)
          rw [hs1] at m6
          have m7 := m6.w (k := 19 + 40 * t) (v := s1.2.1 (19 + 40 * t) + q)
          rw [hs2] at m7
          refine m_ok (N' := _) (b := s2.2.1 (18 + 40 * t)) ?_ rfl m7 ?_ ((q5.tr (q_M.w ⟨by omega, by omega⟩)).tr (q_M.w ⟨by omega, by omega⟩))
          · rw [hp, hq]
            unfold F_Model_tip
            simp only [zl]
            rw [zb2_ok ((mt N hN _).2 gt), if_pos rfl, mr, if_neg hr, if_pos rfl, zb_ok (in5 _ _ hN0), if_pos (hrich.mp hle), zb_ok f5, zb_ok (m_grows (kl := 5) (k := 5) m5 (by omega) (by omega) rfl), row5, show 13 + 40 * t + 5 = 18 + 40 * t by omega, zb_ok (m_grows (kl := 6) (k := 6) m6 (by omega) (by omega) rfl), show 13 + 40 * t + 6 = 19 + 40 * t by omega, zb_ok (in5 _ _ m7)]
          · rw [w_addr _ (by omega), w_addr _ (by omega), n5 0 (by decide), w_same])
        exact ⟨M', s2, e, g1, g2, hI2⟩
      · obtain ⟨M', e, g1, g2⟩ := k_tip (S := S) (c := c) (y := .ok (-5)) (s' := s) q_c2n hm h1 h2 (l_of (c_ok (M' := M) (by
          rw [hp, hq]
          unfold F_Sys_tip
          simp only [zxm, zb, (ct _).2 t ht rfl, (a_range_c q 1 2000000000 M).2 hr]
          rw [x11, if_neg hle]) hc q_C.rfl') (fun e M1 he => by cases he)) (fun N hN => m_val hN (b := -5) rfl (by
          rw [hp, hq]
          unfold F_Model_tip
          simp only [zl]
          rw [zb2_ok ((mt N hN _).2 gt), if_pos rfl, mr, if_neg hr, if_pos rfl, zb_ok (in5 _ _ (hN.thr 0)), if_neg (fun z => hle (hrich.mpr z))]))
        exact ⟨M', s, e, g1, g2, hI⟩
  · obtain ⟨M', e, g1, g2⟩ := k_tip (S := S) (c := c) (y := .error 1) q_c2n hm h1 h2 (l_of (c_thr hc (by
      rw [hp, hq]
      unfold F_Sys_tip
      simp only [zxm, zb, (ct _).1 hb])) (fun e M1 he => by cases he; rfl)) (fun N hN => m_err hN (b := 0) (v := 1) rfl (by
      rw [hp, hq]
      unfold F_Model_tip
      simp only [zl]
      rw [zb2_ok ((mt N hN _).1 hb)]
      rfl))
    exact ⟨M', s, e, g1, g2, hI⟩
theorem a_setRate {o L : Nat} {S : Nat → Int32} {i : Int32} {M : z_Mem} {s : q_S} {c : z_Mem → Option (Int32 × z_Mem)} (hI : q_Inv s) (hc : c_all o M s) (hm : m_all (o + 548) M s) (h1 : z_inb (i + (1 : Int32)) L) : ∃ M' s', Fc_1777 o L S i M c = c M' ∧ c_all o M' s' ∧ m_all (o + 548) M' s' ∧ q_Inv s' := by
  generalize hp : S (i + 1).toNatClampNeg = p
  have mr := fun (N : z_Mem) (f : Int32 → z_Mem → Option (Int32 × z_Mem)) => p_infx (o + 548) p 0 999 1 N (lo := 0) (hi := 999) (by decide) (by decide) f
  by_cases hr : p < 0 ∨ (999 : Int32) < p
  · obtain ⟨M', e, g1, g2⟩ := k_setRate (S := S) (c := c) (y := .error 2) q_c1n hm h1 (l_of (c_thr hc (by
      rw [hp]
      unfold F_Sys_setRate
      simp only [zxm, zb, (a_range_c p 0 999 M).1 hr])) (g_two (fun e he => by cases he; rfl))) (fun N hN => m_err hN (b := 0) (v := 1) rfl (by
      rw [hp]
      unfold F_Model_setRate
      simp only [zl]
      rw [mr, if_pos hr]
      rfl))
    exact ⟨M', s, e, g1, g2, hI⟩
  · obtain ⟨M5, e5, c5, k5, -⟩ := a_note_c (o := o) hI.1.I hI.1.2.1.abs hc
    have c6 := c5.wd (k := 2) (v := p) (Or.inr rfl)
    have r2 : M5.1 (o + 5) 2 = s.2.1 2 := c5.2.1.2.2.2.1
    have hI2 : q_Inv (q_up (q_noted s) 2 p) := by
      refine hI.noted.up (by omega) (fun t ht => by omega) (fun r hr j hj => by omega) ⟨?_, fun k hk => ?_⟩
      · obtain ⟨v, hv, rfl⟩ := i_ex2 (N := 1000) (fun z => hr (Or.inl z)) (by
          have h2 : ¬ (999 : Int32) < p := fun z => hr (Or.inr z)
          rw [Int32.lt_iff_toInt_lt] at h2 ⊢
          have b1 : (999 : Int32).toInt = 999 := rfl
          have b2 : (Int32.ofNat 1000).toInt = 1000 := rfl
          omega) (by omega)
        exact ⟨v, by omega, q_w_same _ _ _⟩
      · obtain ⟨v, hv, e⟩ := hI.1.2.1.2.1.2 k hk
        exact ⟨v, hv, (q_w_ne (by omega)).trans e⟩
    obtain ⟨M', e, g1, g2⟩ := k_setRate (S := S) (c := c) (y := .ok (s.2.1 2)) (s' := q_up (q_noted s) 2 p) q_c1n hm h1 (l_of (c_ok (by
      rw [hp]
      unfold F_Sys_setRate
      simp only [zxm, zb, (a_range_c p 0 999 M).2 hr]
      rw [e5]
      simp only [zl]
      rw [r2]) c6 (k5.tr (q_C.w (Or.inl ⟨by omega, by omega⟩)))) (fun e M1 he => by cases he)) (fun N hN => by
      have hN0 := hN.thr 0
      obtain ⟨N5, f5, m5, q5, n5, -⟩ := a_note_m hN0
      have m6 := m5.w (k := 2) (v := p)
      refine m_ok (N' := _) (b := s.2.1 2) ?_ rfl m6 ?_ (q5.tr (q_M.w ⟨by omega, by omega⟩))
      · have r2' : N5.1 (o + 548 + 1) 2 = s.2.1 2 := m_at m5 (by omega)
        have hz : z_inb (2 : Int32) 581 := by decide
        rw [hp]
        unfold F_Model_setRate
        simp only [zl]
        rw [mr, if_neg hr, if_pos rfl, zb_ok f5, if_pos hz, if_pos hz]
        exact congrArg (fun z => some (z, _)) r2'
      · rw [w_addr _ (by omega), n5 0 (by decide), w_same])
    exact ⟨M', _, e, g1, g2, hI2⟩
theorem a_setEnd {o L : Nat} {S : Nat → Int32} {i : Int32} {M : z_Mem} {s : q_S} {c : z_Mem → Option (Int32 × z_Mem)} (hI : q_Inv s) (hc : c_all o M s) (hm : m_all (o + 548) M s) (h1 : z_inb (i + (1 : Int32)) L) (h2 : z_inb (i + (2 : Int32)) L) : ∃ M' s', Fc_1833 o L S i M c = c M' ∧ c_all o M' s' ∧ m_all (o + 548) M' s' ∧ q_Inv s' := by
  generalize hp : S (i + 1).toNatClampNeg = p
  generalize hq : S (i + 2).toNatClampNeg = q
  have hT := hI.1.I.taxis4
  have ct := a_taxi_c hI.1.I hc
  have mt := fun (N : z_Mem) (hN : m_all (o + 548) N s) p => a_taxi_m (m := o + 548) (N := z_wI N (o + 548) 0 0) (T := q_T s.1) (by omega) (m_taxis hI.1.I (hN.thr 0)) p
  rcases q_split (q_T s.1) (by omega) p with ⟨t, ht, rfl⟩ | hb
  · have gt := q_good (n := q_T s.1) (by omega) ht
    have mr := fun (N : z_Mem) (f : Int32 → z_Mem → Option (Int32 × z_Mem)) => p_infx (o + 548) q (s.1 (80 + t) + 1) 2879 2 N (lo := (s.1 (80 + t) + 1).toInt64) (hi := 2879) rfl (by decide) f
    have x3 := (hc.2.1.2.2.2.2.2.2.2.1 t ht).2.2.2.1
    have hz4 : z_inb (Int32.ofNat t) 4 := (i_inb (by omega)).mpr (by omega)
    have b11 : ∀ N, m_all (o + 548) N s → N.1 (o + 548 + 11) (Int32.ofNat t).toNatClampNeg = s.1 (80 + t) := fun N hN => by
      rw [i_cl (by omega)]
      exact (hN.1.2.2.2.2.2 t (by omega)).2
    by_cases hr : q < s.1 (80 + t) + 1 ∨ (2879 : Int32) < q
    · obtain ⟨M', e, g1, g2⟩ := k_setEnd (S := S) (c := c) (y := .error 2) q_c2n hm h1 h2 (l_of (c_thr hc (by
        rw [hp, hq]
        unfold F_Sys_setEnd
        simp only [zxm, zb, (ct _).2 t ht rfl]
        rw [x3, (a_range_c q _ 2879 M).1 hr])) (fun e M1 he => by cases he; rfl)) (fun N hN => m_err hN (b := 0) (v := 2) rfl (by
        rw [hp, hq]
        unfold F_Model_setEnd
        simp only [zl]
        rw [zb2_ok ((mt N hN _).2 gt), if_pos rfl, if_pos hz4, b11 _ (hN.thr 0), mr, if_pos hr]
        rfl))
      exact ⟨M', s, e, g1, g2, hI⟩
    · obtain ⟨M5, e5, c5, k5, -⟩ := a_note_c (o := o) hI.1.I hI.1.2.1.abs hc
      have c6 := c5.wt (t := t) ht hT (k := 4) (idx := 17) (v := q) (by unfold q_tmap; omega)
      have r4 : M5.1 (o + 5 + 4 + 3 * t) 4 = s.2.1 (17 + 40 * t) := (c5.2.1.2.2.2.2.2.2.2.1 t ht).2.2.2.2.1
      have hI2 : q_Inv (q_up (q_noted s) (17 + 40 * t) q) := hI.noted.upT (by omega) (by omega)
      obtain ⟨M', e, g1, g2⟩ := k_setEnd (S := S) (c := c) (y := .ok (s.2.1 (17 + 40 * t))) (s' := q_up (q_noted s) (17 + 40 * t) q) q_c2n hm h1 h2 (l_of (c_ok (by
        rw [hp, hq]
        unfold F_Sys_setEnd
        simp only [zxm, zb, (ct _).2 t ht rfl]
        rw [x3, (a_range_c q _ 2879 M).2 hr]
        simp only
        rw [e5]
        simp only [zl]
        rw [r4]) c6 (k5.tr (q_C.w (Or.inl ⟨by omega, by omega⟩)))) (fun e M1 he => by cases he)) (fun N hN => by
        have hN0 := hN.thr 0
        obtain ⟨N5, f5, m5, q5, n5, -⟩ := a_note_m hN0
        have m6 := m5.w (k := 17 + 40 * t) (v := q)
        refine m_ok (N' := _) (b := s.2.1 (17 + 40 * t)) ?_ rfl m6 ?_ (q5.tr (q_M.w ⟨by omega, by omega⟩))
        · have in4 : F_Model_in2 (o + 548) (Int32.ofNat t) 4 N5 = some (s.2.1 (17 + 40 * t)) := by
            rw [m_in2L (kl := 4) m5 4 (by omega) (by omega) rfl]
            exact congrArg some (congrArg s.2.1 (by omega))
          rw [hp, hq]
          unfold F_Model_setEnd
          simp only [zl]
          rw [zb2_ok ((mt N hN _).2 gt), if_pos rfl, if_pos hz4, b11 _ hN0, mr, if_neg hr, if_pos rfl, zb_ok f5, zb_ok in4, zb_ok (m_lays2 (kl := 4) (k := 4) (by omega) (by omega) rfl), show 13 + 40 * t + 4 = 17 + 40 * t by omega]
        · rw [w_addr _ (by omega), n5 0 (by decide), w_same])
      exact ⟨M', _, e, g1, g2, hI2⟩
  · obtain ⟨M', e, g1, g2⟩ := k_setEnd (S := S) (c := c) (y := .error 1) q_c2n hm h1 h2 (l_of (c_thr hc (by
      rw [hp, hq]
      unfold F_Sys_setEnd
      simp only [zxm, zb, (ct _).1 hb])) (fun e M1 he => by cases he; rfl)) (fun N hN => m_err hN (b := 0) (v := 1) rfl (by
      rw [hp, hq]
      unfold F_Model_setEnd
      simp only [zl]
      rw [zb2_ok ((mt N hN _).1 hb)]
      rfl))
    exact ⟨M', s, e, g1, g2, hI⟩
