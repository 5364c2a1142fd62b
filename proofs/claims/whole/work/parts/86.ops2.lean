/-! ===== PURE: setRule, decline ===== -/
theorem i_rules : ∀ k, k < 10 → (∀ N, F_Model_least (Int32.ofNat k) N = some (z_sv 1 k)) ∧ (∀ N, F_Model_most (Int32.ofNat k) N = some (z_sv 2 k)) ∧ (7 ≤ k → z_sv 1 k = 0 ∧ z_sv 2 k = 90) := by
  intro k hk
  rcases (show k = 0 ∨ k = 1 ∨ k = 2 ∨ k = 3 ∨ k = 4 ∨ k = 5 ∨ k = 6 ∨ k = 7 ∨ k = 8 ∨ k = 9 by omega) with rfl | rfl | rfl | rfl | rfl | rfl | rfl | rfl | rfl | rfl <;> refine ⟨fun _ => rfl, fun _ => rfl, fun h => ?_⟩ <;> first | omega | exact ⟨rfl, rfl⟩
theorem a_setRule {o L : Nat} {S : Nat → Int32} {i : Int32} {M : z_Mem} {s : q_S} {c : z_Mem → Option (Int32 × z_Mem)} (hI : q_Inv s) (hc : c_all o M s) (hm : m_all (o + 548) M s) (h1 : z_inb (i + (1 : Int32)) L) (h2 : z_inb (i + (2 : Int32)) L) : ∃ M' s', Fc_1901 o L S i M c = c M' ∧ c_all o M' s' ∧ m_all (o + 548) M' s' ∧ q_Inv s' := by
  generalize hp : S (i + 1).toNatClampNeg = p
  generalize hq : S (i + 2).toNatClampNeg = q
  have mk := fun (N : z_Mem) (f : Int32 → z_Mem → Option (Int32 × z_Mem)) => p_upto (o + 548) 9 p 1 N (by omega) (lo := 0) (hi := 9) (by decide) (by decide) f
  rcases q_split 10 (by omega) p with ⟨k, hk, rfl⟩ | hb
  · have gk := q_good (n := 10) (by omega) hk
    obtain ⟨el, em, e7⟩ := i_rules k hk
    have ck : (Int32.ofNat k).toNatClampNeg = k := i_cl (by omega)
    have hzk : z_inb (Int32.ofNat k) 10 := (i_inb (by omega)).mpr hk
    have mr := fun (N : z_Mem) (f : Int32 → z_Mem → Option (Int32 × z_Mem)) => p_infx (o + 548) q (z_sv 1 k) (z_sv 2 k) 2 N (lo := (z_sv 1 k).toInt64) (hi := (z_sv 2 k).toInt64) rfl rfl f
    have ecr : F_Sys_checkRule (Int32.ofNat k) M = some (.ok ()) := by
      unfold F_Sys_checkRule
      rw [if_neg (i_nn (by omega)), if_pos (i_ltN10 hk)]
    by_cases hr : q < z_sv 1 k ∨ z_sv 2 k < q
    · obtain ⟨M', e, g1, g2⟩ := k_setRule (S := S) (c := c) (y := .error 2) q_c2n hm h1 h2 (l_of (c_thr hc (by
        rw [hp, hq]
        unfold F_Sys_setRule
        simp only [zxm, zb, ecr, ck]
        rw [if_pos hzk, if_pos hzk, (a_range_c q _ _ M).1 hr])) (fun e M1 he => by cases he; rfl)) (fun N hN => m_err hN (b := 0) (v := 2) rfl (by
        rw [hp, hq]
        unfold F_Model_setRule
        simp only [zl]
        rw [(mk _ _).2 gk, if_pos rfl, zb_ok (el _), zb_ok (em _), mr, if_pos hr]
        rfl))
      exact ⟨M', s, e, g1, g2, hI⟩
    · obtain ⟨M5, e5, c5, k5, -⟩ := a_note_c (o := o) hI.1.I hI.1.2.1.abs hc
      have c6 := c5.wu (k := k) (v := q) hk
      have erv : F_Desk_ruleValue (o + 5) (Int32.ofNat k) M5 = some (s.2.1 (3 + k)) := a_ruleV (k := k) c5 hk rfl
      have ecv : F_Desk_changeRule (o + 5) (Int32.ofNat k) q M5 = some (z_wI M5 (o + 5 + 1) k q) := by
        unfold F_Desk_changeRule
        rw [if_neg (i_nn (by omega)), if_neg (i_nle10 hk), if_pos hzk, ck]
        rfl
      have hI2 : q_Inv (q_up (q_noted s) (3 + k) q) := by
        refine hI.noted.up (by omega) (fun t ht => by omega) (fun r hr j hj => by omega) ⟨?_, fun j hj => ?_⟩
        · obtain ⟨v, hv, e⟩ := hI.1.2.1.2.1.1
          exact ⟨v, hv, (q_w_ne (by omega)).trans e⟩
        · by_cases hjk : 10 + j = 3 + k
          · rw [hjk, q_w_same]
            obtain ⟨z1, z2⟩ := e7 (by omega)
            rw [z1, z2] at hr
            obtain ⟨v, hv, rfl⟩ := i_ex2 (N := 91) (fun z => hr (Or.inl z)) (by
              have h2 : ¬ (90 : Int32) < q := fun z => hr (Or.inr z)
              rw [Int32.lt_iff_toInt_lt] at h2 ⊢
              have b1 : (90 : Int32).toInt = 90 := rfl
              have b2 : (Int32.ofNat 91).toInt = 91 := rfl
              omega) (by omega)
            exact ⟨v, by omega, rfl⟩
          · obtain ⟨v, hv, e⟩ := hI.1.2.1.2.1.2 j hj
            exact ⟨v, hv, (q_w_ne hjk).trans e⟩
      obtain ⟨M', e, g1, g2⟩ := k_setRule (S := S) (c := c) (y := .ok (s.2.1 (3 + k))) (s' := q_up (q_noted s) (3 + k) q) q_c2n hm h1 h2 (l_of (c_ok (by
        rw [hp, hq]
        unfold F_Sys_setRule
        simp only [zxm, zb, ecr, ck]
        rw [if_pos hzk, if_pos hzk, (a_range_c q _ _ M).2 hr]
        simp only
        rw [e5]
        simp only [erv, ecv]) c6 (k5.tr (q_C.w (Or.inl ⟨by omega, by omega⟩)))) (fun e M1 he => by cases he)) (fun N hN => by
        have hN0 := hN.thr 0
        obtain ⟨N5, f5, m5, q5, n5, -⟩ := a_note_m hN0
        have m6 := m5.w (k := 3 + k) (v := q)
        refine m_ok (N' := _) (b := s.2.1 (3 + k)) ?_ rfl m6 ?_ (q5.tr (q_M.w ⟨by omega, by omega⟩))
        · have e3 : 3 + Int32.ofNat k = Int32.ofNat (3 + k) := i_add 3 k
          rw [hp, hq]
          unfold F_Model_setRule
          simp only [zl]
          rw [(mk _ _).2 gk, if_pos rfl, zb_ok (el _), zb_ok (em _), mr, if_neg hr, if_pos rfl, zb_ok f5, zb_ok (m_ruledL m5 k hk rfl), e3, if_pos ((i_inb (by omega)).mpr (by omega)), i_cl (by omega)]
          rfl
        · rw [w_addr _ (by omega), n5 0 (by decide), w_same])
      exact ⟨M', _, e, g1, g2, hI2⟩
  · have ecr : F_Sys_checkRule p M = some (.error 1) := by
      unfold F_Sys_checkRule F_Sys_checkRule_J10
      rcases hb with h | h
      · rw [if_pos h]
      · by_cases h0 : p < 0
        · rw [if_pos h0]
        · rw [if_neg h0, if_neg (show ¬ p < (10 : Int32) from h)]
    obtain ⟨M', e, g1, g2⟩ := k_setRule (S := S) (c := c) (y := .error 1) q_c2n hm h1 h2 (l_of (c_thr hc (by
      rw [hp, hq]
      unfold F_Sys_setRule
      simp only [zxm, zb, ecr])) (fun e M1 he => by cases he; rfl)) (fun N hN => m_err hN (b := 0) (v := 1) rfl (by
      rw [hp, hq]
      unfold F_Model_setRule
      simp only [zl]
      rw [(mk _ _).1 hb]
      rfl))
    exact ⟨M', s, e, g1, g2, hI⟩
/-- a ride that no taxi has gets another state that no taxi has -/
theorem q_Inv.close {s : q_S} {r : Nat} {v : Int32} (h : q_Inv s) (hr : r < q_N s.2.1) (h0 : ¬ (s.2.1 (173 + 17 * r) = 1 ∨ s.2.1 (173 + 17 * r) = 2)) (h1 : v ≠ 0 ∧ v ≠ 1 ∧ v ≠ 2) : q_Inv (q_up s (173 + 17 * r) v) := by
  have hN := h.1.I.rides24
  have hT4 := h.1.I.taxis4
  have eN : q_N (q_w s.2.1 (173 + 17 * r) v) = q_N s.2.1 := q_N_w (by omega)
  have hsR : ∀ r', r' ≠ r → r' < q_N s.2.1 → q_sameR s.2.1 (q_w s.2.1 (173 + 17 * r) v) r' := fun r' hrr hr' => ⟨fun j q1 q2 => q_w_ne (by omega), q_w_ne (by omega), q_w_ne (by omega)⟩
  refine h.row (h.1.2.1.quiet ⟨?_, by rw [eN]; exact hN⟩ (h.1.2.1.2.1.w (by omega) (by omega)) (by rw [eN]; exact Nat.le_refl _) (fun t ht => ?_) (fun r' hr' => ?_)) (fun r' hr' h0' => ?_)
  · rw [eN, q_w_ne (by omega)]
    exact h.1.I.rides
  · exact ⟨q_w_ne (by omega), q_w_ne (by omega), fun j q1 q2 => q_w_ne (by omega)⟩
  · rw [eN] at hr'
    by_cases hrr : r' = r
    · subst hrr
      refine Or.inr ⟨?_, ?_, fun _ => h0⟩
      · have hJ := h.1.2.1.2.2.1 r' hr'
        unfold q_rideJ at hJ ⊢
        rw [q_w_ne (show 174 + 17 * r' ≠ 173 + 17 * r' by omega), q_w_ne (show 175 + 17 * r' ≠ 173 + 17 * r' by omega), q_w_ne (show 184 + 17 * r' ≠ 173 + 17 * r' by omega), q_w_ne (show 176 + 17 * r' ≠ 173 + 17 * r' by omega), q_w_same]
        refine ⟨hJ.1, hJ.2.1, fun q => ?_⟩
        rcases q with q | q
        · exact absurd q h1.2.1
        · exact absurd q h1.2.2
      · rw [q_w_same]
        rintro (q | q)
        · exact h1.2.1 q
        · exact h1.2.2 q
    · exact Or.inl ⟨hr', hsR r' hrr hr'⟩
  · rw [eN] at hr'
    by_cases hrr : r' = r
    · subst hrr
      rw [q_w_same] at h0'
      exact absurd h0' h1.1
    · rw [q_w_ne (by omega)] at h0'
      rw [q_w_ne (show 185 + 17 * r' ≠ 173 + 17 * r by omega), q_w_ne (show 184 + 17 * r' ≠ 173 + 17 * r by omega)]
      exact h.2.1 r' hr' h0'
theorem a_cnt_c2 {o : Nat} {M : z_Mem} {s : q_S} (hI : q_In s) (hc : c_all o M s) (st : Int32) : F_Desk_countInState (o + 5) st M = some (y_cnt s.2.1 st) := a_cnt_c hI.I hc st
theorem a_decline {o L : Nat} {S : Nat → Int32} {i : Int32} {M : z_Mem} {s : q_S} {c : z_Mem → Option (Int32 × z_Mem)} (hI : q_Inv s) (hc : c_all o M s) (hm : m_all (o + 548) M s) (h1 : z_inb (i + (1 : Int32)) L) : ∃ M' s', Fc_1485 o L S i M c = c M' ∧ c_all o M' s' ∧ m_all (o + 548) M' s' ∧ q_Inv s' := by
  generalize hp : S (i + 1).toNatClampNeg = p
  have hN24 := hI.1.I.rides24
  have ct := a_ride_c hI.1.I hc
  have mt := fun (N : z_Mem) (hN : m_all (o + 548) N s) p => a_ride_m (m := o + 548) (N := z_wI N (o + 548) 0 0) (R := q_N s.2.1) (by omega) (m_rides hI.1.I (hN.thr 0)) p
  rcases q_split (q_N s.2.1) (by omega) p with ⟨r, hr, rfl⟩ | hb
  · have gr := q_good (n := q_N s.2.1) (by omega) hr
    have x0 := (hc.2.1.2.2.2.2.2.2.2.2 r hr).1
    have of0 : ∀ N, m_all (o + 548) N s → F_Model_of (o + 548) (Int32.ofNat r) 0 N = some (s.2.1 (173 + 17 * r)) := fun N hN => m_ofL (kl := 0) hN 0 (by omega) (by omega) rfl
    by_cases h0 : s.2.1 (173 + 17 * r) = 0
    · obtain ⟨M5, e5, c5, k5, -⟩ := a_note_c (o := o) hI.1.I hI.1.2.1.abs hc
      have c6 := c5.wr (r := r) (k := 0) (v := 4) hr (Or.inr ⟨rfl, by decide⟩)
      rw [if_pos rfl] at c6
      have hI2 : q_Inv (q_up (q_noted s) (173 + 17 * r) 4) := hI.noted.close hr (by rintro (q | q) <;> (rw [show (q_noted s).2.1 = s.2.1 from rfl, h0] at q; revert q; decide)) (by decide)
      obtain ⟨M', e, g1, g2⟩ := k_decline (S := S) (c := c) (y := .ok (y_cnt (q_up (q_noted s) (173 + 17 * r) 4).2.1 0)) (s' := q_up (q_noted s) (173 + 17 * r) 4) q_c1n hm h1 (l_of (c_ok (by
        rw [hp]
        unfold F_Sys_decline
        simp only [zxm, zb, (ct _).2 r hr rfl]
        rw [x0, if_pos h0, e5]
        simp only [zl]
        rw [a_cnt_c hI2.1.I c6 0]) c6 (k5.tr (q_C.w (Or.inl ⟨by omega, by omega⟩)))) (fun e M1 he => by cases he)) (fun N hN => by
        have hN0 := hN.thr 0
        obtain ⟨N5, f5, m5, q5, n5, -⟩ := a_note_m hN0
        have m6 := m5.w (k := 173 + 17 * r) (v := 4)
        refine m_ok (N' := _) (b := y_cnt (q_up (q_noted s) (173 + 17 * r) 4).2.1 0) ?_ rfl m6 ?_ (q5.tr (q_M.w ⟨by omega, by omega⟩))
        · rw [hp]
          unfold F_Model_decline
          simp only [zl]
          rw [zb2_ok ((mt N hN _).2 gr), if_pos rfl, zb_ok (of0 _ hN0), if_pos h0, zb_ok f5, zb_ok (m_sets (kl := 0) (k := 0) (by omega) (by omega) rfl), show 173 + 17 * r + 0 = 173 + 17 * r from rfl, zb_ok (a_cnt_m hI2.1.I m6 0)]
        · rw [w_addr _ (by omega), n5 0 (by decide), w_same])
      exact ⟨M', _, e, g1, g2, hI2⟩
    · obtain ⟨M', e, g1, g2⟩ := k_decline (S := S) (c := c) (y := .ok (-2)) (s' := s) q_c1n hm h1 (l_of (c_ok (M' := M) (by
        rw [hp]
        unfold F_Sys_decline
        simp only [zxm, zb, (ct _).2 r hr rfl]
        rw [x0, if_neg h0]) hc q_C.rfl') (fun e M1 he => by cases he)) (fun N hN => m_val hN (b := -2) rfl (by
        rw [hp]
        unfold F_Model_decline
        simp only [zl]
        rw [zb2_ok ((mt N hN _).2 gr), if_pos rfl, zb_ok (of0 _ (hN.thr 0)), if_neg h0]))
      exact ⟨M', s, e, g1, g2, hI⟩
  · obtain ⟨M', e, g1, g2⟩ := k_decline (S := S) (c := c) (y := .error 1) q_c1n hm h1 (l_of (c_thr hc (by
      rw [hp]
      unfold F_Sys_decline
      simp only [zxm, zb, (ct _).1 hb])) (fun e M1 he => by cases he; rfl)) (fun N hN => m_err hN (b := 0) (v := 1) rfl (by
      rw [hp]
      unfold F_Model_decline
      simp only [zl]
      rw [zb2_ok ((mt N hN _).1 hb)]
      rfl))
    exact ⟨M', s, e, g1, g2, hI⟩
/-! ===== PURE: undo, restoreSnapshot ===== -/
theorem a_undo_L {m : Nat} {A : q_R} {n : Nat} (hn : n < 10) : ∀ (k i f : Nat) (N : z_Mem), i + k = 581 → k < f → N.1 m 6 = Int32.ofNat n → m_row N (m + 4) (581 * n) A → (∀ j, j < i → N.1 (m + 1) j = A j) → ∃ N', F_Model_undo_L26 m f (Int32.ofNat i) N = some (Int32.ofNat n, N') ∧ (∀ j, j < 581 → N'.1 (m + 1) j = A j) ∧ (∀ x, x ≠ m + 1 → N'.1 x = N.1 x) ∧ N'.2 = N.2 := by
  intro k
  induction k with
  | zero =>
    intro i f N hi hf h6 hr hA
    obtain ⟨f, rfl⟩ : ∃ g, f = g + 1 := ⟨f - 1, by omega⟩
    have hi' : i = 581 := by omega
    subst hi'
    unfold F_Model_undo_L26 F_Model_undo_B26
    rw [if_pos (by decide), h6]
    exact ⟨N, rfl, hA, fun _ _ => rfl, rfl⟩
  | succ k ih =>
    intro i f N hi hf h6 hr hA
    obtain ⟨f, rfl⟩ : ∃ g, f = g + 1 := ⟨f - 1, by omega⟩
    unfold F_Model_undo_L26 F_Model_undo_B26
    have hn2 : ¬ (581 : Int32) ≤ Int32.ofNat i := i_nle (a := 581) (by decide) (by omega) (by omega)
    have hz : z_inb (Int32.ofNat i) 581 := (i_inb (by omega)).mpr (by omega)
    have hz2 : z_inb (Int32.ofNat (581 * n + i)) 5810 := (i_inb (by omega)).mpr (by omega)
    have ci : (Int32.ofNat i).toNatClampNeg = i := i_cl (by omega)
    have cn : (Int32.ofNat (581 * n + i)).toNatClampNeg = 581 * n + i := i_cl (by omega)
    rw [if_neg hn2, h6, i_at581, if_pos hz2, if_pos hz, ci, cn, hr i (by omega)]
    simp only [zl, i_succ]
    obtain ⟨N', e, g1, g2, g3⟩ := ih (i + 1) f (z_wI N (m + 1) i (A i)) (by omega) (by omega) ((w_addr _ (by omega)).trans h6) (hr.keep (funext fun j => w_addr j (by omega))) (fun j hj => by
      by_cases hji : j = i
      · rw [hji, w_same]
      · rw [w_slot _ hji]
        exact hA j (by omega))
    exact ⟨N', e, g1, fun x hx => (g2 x hx).trans (funext fun j => w_addr j hx), g3⟩
theorem a_undo {o L : Nat} {S : Nat → Int32} {i : Int32} {M : z_Mem} {s : q_S} {c : z_Mem → Option (Int32 × z_Mem)} (hI : q_Inv s) (hc : c_all o M s) (hm : m_all (o + 548) M s) : ∃ M' s', Fc_2063 o L S i M c = c M' ∧ c_all o M' s' ∧ m_all (o + 548) M' s' ∧ q_Inv s' := by
  unfold Fc_2063
  have hcnt := hc.2.2.1.2.1
  have hm0 := hm.thr 0
  cases hh : s.2.2.1 with
  | nil =>
    rw [hh] at hcnt
    have e1 : F_Sys_undo o M = some (-1, M) := by
      unfold F_Sys_undo
      rw [hcnt, if_pos (by rfl)]
    have e2 : F_Model_undo (o + 548) M = some (-1, z_wI M (o + 548) 0 0) := by
      have h6 := hm0.2.2.1.2.1
      rw [hh] at h6
      unfold F_Model_undo
      simp only [zl]
      rw [h6, if_pos (by rfl)]
    rw [zb2_ok e1, zb2_ok e2, if_pos rfl]
    exact ⟨_, s, rfl, hc.keep q_M.thr, hm0, hI⟩
  | cons A h =>
    have hJA : q_J s.1 A := hI.1.2.2.1 A (by rw [hh]; exact List.mem_cons_self ..)
    obtain ⟨M1, e1, c1, k1⟩ := a_take_c (o := o) hh hI.1.I.taxis hJA.1.1 hJA.abs hc
    have hlen : (A :: h).length ≤ 10 := by rw [← hh]; exact hc.2.2.1.1
    rw [List.length_cons] at hlen
    rw [hh, List.length_cons] at hcnt
    have cnt1 : M1.1 (o + 45) 0 = Int32.ofNat h.length := c1.2.2.1.2.1
    have eC : F_Sys_undo o M = some (Int32.ofNat h.length, M1) := by
      unfold F_Sys_undo
      rw [hcnt, if_neg (i_ne0 (by omega) (by omega)), zb_ok e1, cnt1]
    have hm1 := (hm.keep k1).thr 0
    have h6 := hm1.2.2.1.2.1
    rw [hh, List.length_cons] at h6
    obtain ⟨hl, hcount, hj⟩ := hm1.2.2.1
    rw [hh] at hj
    have row0 := hj 0 A rfl
    have e6 : Int32.ofNat (h.length + 1) - 1 = Int32.ofNat h.length := i_sub (b := 1) (by omega)
    generalize hN2 : z_wI (z_wI M1 (o + 548) 0 0) (o + 548) 6 (Int32.ofNat h.length) = N2
    obtain ⟨N', f1, g1, g2, g3⟩ := a_undo_L (m := o + 548) (A := A) (n := h.length) (by omega) 581 0 10000 N2 (by omega) (by omega) (by rw [← hN2]; exact w_same _ _ _ _) (by
      rw [← hN2]
      have : 581 * ((A :: h).length - 1 - 0) = 581 * h.length := by rw [List.length_cons]; omega
      rw [this] at row0
      exact row0.keep (funext fun j => w_addr j (by omega))) (fun j hj => by omega)
    have eM : F_Model_undo (o + 548) M1 = some (Int32.ofNat h.length, N') := by
      unfold F_Model_undo
      simp only [zl]
      rw [h6, if_neg (i_ne0 (by omega) (by omega)), e6, hN2, i_0]
      exact f1
    rw [zb2_ok eC, zb2_ok eM, if_pos rfl]
    have sl : ∀ k, k ≠ 0 → k ≠ 6 → N'.1 (o + 548) k = M1.1 (o + 548) k := fun k h1 h2 => by
      rw [g2 _ (by omega), ← hN2, w_slot _ h2, w_slot _ h1]
    have ad : ∀ x, x ≠ o + 548 → x ≠ o + 549 → N'.1 x = M1.1 x := fun x h1 h2 => by
      rw [g2 x (by omega), ← hN2]
      exact funext fun k => (w_addr k h1).trans (w_addr k h1)
    have hmk := hm.keep k1
    refine ⟨N', (s.1, A, h, s.2.2.2), rfl, c1.keep (fun a ha => ⟨ad a (by unfold q_inC at ha; omega) (by unfold q_inC at ha; omega), by rw [g3, ← hN2]; rfl⟩), ?_, ⟨⟨hI.1.1, hJA, fun B hB => hI.1.2.2.1 B (by rw [hh]; exact List.mem_cons_of_mem _ hB), hI.1.2.2.2⟩, hI.2.2.1 A (by rw [hh]; exact List.mem_cons_self ..), fun B hB => hI.2.2.1 B (by rw [hh]; exact List.mem_cons_of_mem _ hB), hI.2.2.2⟩⟩
    refine hmk.upd (fun k hk => sl k (by omega) (by omega)) (fun j hj => ad _ (by omega) (by omega)) (fun k hk => by rw [Nat.zero_add]; exact g1 k hk) ⟨by omega, ?_, fun j B hB => ?_⟩
    · rw [g2 _ (by omega), ← hN2, w_same]
    · have := hmk.2.2.1.2.2 (j + 1) B (by rw [hh, List.getElem?_cons_succ]; exact hB)
      rw [hh, List.length_cons, show h.length + 1 - 1 - (j + 1) = h.length - 1 - j by omega] at this
      exact this.keep (ad _ (by omega) (by omega))
theorem a_rest_L {m : Nat} {A : q_R} : ∀ (k i f : Nat) (N : z_Mem), i + k = 581 → k < f → m_row N (m + 3) 0 A → (∀ j, j < i → N.1 (m + 1) j = A j) → ∃ N', F_Model_restoreSnapshot_L16 m f (Int32.ofNat i) N = some (1, N') ∧ (∀ j, j < 581 → N'.1 (m + 1) j = A j) ∧ N'.1 m 6 = 0 ∧ (∀ k, k ≠ 6 → N'.1 m k = N.1 m k) ∧ (∀ x, x ≠ m → x ≠ m + 1 → N'.1 x = N.1 x) ∧ N'.2 = N.2 := by
  intro k
  induction k with
  | zero =>
    intro i f N hi hf hr hA
    obtain ⟨f, rfl⟩ : ∃ g, f = g + 1 := ⟨f - 1, by omega⟩
    have hi' : i = 581 := by omega
    subst hi'
    unfold F_Model_restoreSnapshot_L16 F_Model_restoreSnapshot_B16
    rw [if_pos (by decide)]
    exact ⟨_, rfl, fun j hj => (w_addr _ (by omega)).trans (hA j hj), w_same _ _ _ _, fun k hk => w_slot _ hk, fun x hx _ => funext fun k => w_addr k hx, rfl⟩
  | succ k ih =>
    intro i f N hi hf hr hA
    obtain ⟨f, rfl⟩ : ∃ g, f = g + 1 := ⟨f - 1, by omega⟩
    unfold F_Model_restoreSnapshot_L16 F_Model_restoreSnapshot_B16
    have hn2 : ¬ (581 : Int32) ≤ Int32.ofNat i := i_nle (a := 581) (by decide) (by omega) (by omega)
    have hz : z_inb (Int32.ofNat i) 581 := (i_inb (by omega)).mpr (by omega)
    have hA0 := hr i (by omega)
    rw [Nat.zero_add] at hA0
    rw [if_neg hn2, if_pos hz, if_pos hz, i_cl (by omega), hA0]
    simp only [zl, i_succ]
    obtain ⟨N', e, g1, g2, g3, g4, g5⟩ := ih (i + 1) f (z_wI N (m + 1) i (A i)) (by omega) (by omega) (hr.keep (funext fun j => w_addr j (by omega))) (fun j hj => by
      by_cases hji : j = i
      · rw [hji, w_same]
      · rw [w_slot _ hji]
        exact hA j (by omega))
    exact ⟨N', e, g1, g2, fun k hk => (g3 k hk).trans (w_addr _ (by omega)), fun x h1 h2 => (g4 x h1 h2).trans (funext fun j => w_addr j h2), g5⟩
theorem a_restore {o L : Nat} {S : Nat → Int32} {i : Int32} {M : z_Mem} {s : q_S} {c : z_Mem → Option (Int32 × z_Mem)} (hI : q_Inv s) (hc : c_all o M s) (hm : m_all (o + 548) M s) : ∃ M' s', Fc_2087 o L S i M c = c M' ∧ c_all o M' s' ∧ m_all (o + 548) M' s' ∧ q_Inv s' := by
  unfold Fc_2087
  have hm0 := hm.thr 0
  have hsc := hc.2.2.2.1
  have hsm := hm0.2.2.2.1
  cases hs : s.2.2.2.1 with
  | none =>
    rw [hs] at hsc hsm
    have e1 : F_Sys_restoreSnapshot o M = some (0, M) := by
      unfold F_Sys_restoreSnapshot
      rw [show M.1 o 9 = 0 from hsc, if_pos rfl]
    have e2 : F_Model_restoreSnapshot (o + 548) M = some (0, z_wI M (o + 548) 0 0) := by
      unfold F_Model_restoreSnapshot
      simp only [zl]
      rw [show (z_wI M (o + 548) 0 0).1 (o + 548) 5 = 0 from hsm, if_pos rfl]
    rw [zb2_ok e1, zb2_ok e2, if_pos rfl]
    exact ⟨_, s, rfl, hc.keep q_M.thr, hm0, hI⟩
  | some A =>
    rw [hs] at hsc
    have hJA : q_J s.1 A := hI.1.2.2.2 A hs
    obtain ⟨M1, e1, d1, k1, k2⟩ := a_copy (a := o + 5) (b := o + 447) (by omega) hsc.2 hI.1.I.taxis hJA.1.1 hJA.abs
    have ex : ∀ x, x ≠ o + 45 → (x < o + 5 ∨ o + 45 ≤ x) → (z_wI (z_wI M1 (o + 45) 0 0) (o + 45) 1 0).1 x = M.1 x := fun x h1 h2 => by
      rw [← k1 x (by omega)]
      exact funext fun k => (w_addr k h1).trans (w_addr k h1)
    generalize hM2 : z_wI (z_wI M1 (o + 45) 0 0) (o + 45) 1 0 = M2 at ex
    have eC : F_Sys_restoreSnapshot o M = some (1, M2) := by
      unfold F_Sys_restoreSnapshot
      rw [hsc.1, if_neg (by decide), zb_ok e1]
      unfold F_History_clear
      simp only [zl]
      rw [hM2]
      rfl
    have c2 : c_all o M2 (s.1, A, [], s.2.2.2) := by
      refine hc.upd (fun k _ => by rw [ex o (by omega) (by omega)]) (fun x hx => ex x (by omega) (by omega)) (d1.keep (fun a q1 q2 => ?_)) ⟨by rw [List.length_nil]; omega, ?_, 0, by omega, ?_, fun j B hB => ?_⟩
      · rw [← hM2]
        exact funext fun k => (w_addr k (by omega)).trans (w_addr k (by omega))
      · rw [← hM2, w_slot _ (by decide), w_same]
        rfl
      · rw [← hM2, w_same]
        rfl
      · rw [List.getElem?_nil] at hB
        cases hB
    have kC : q_C o M M2 := fun a ha => ⟨ex a (by unfold q_inM at ha; omega) (by unfold q_inM at ha; omega), by rw [← hM2]; exact congrFun k2 a⟩
    have hmk := hm.keep kC
    have hmk0 := hmk.thr 0
    have hsm := hmk0.2.2.2.1
    rw [hs] at hsm
    obtain ⟨N', f1, g1, g2, g3, g4, g5⟩ := a_rest_L (m := o + 548) (A := A) 581 0 10000 (z_wI M2 (o + 548) 0 0) (by omega) (by omega) hsm.2 (fun j hj => by omega)
    have eM : F_Model_restoreSnapshot (o + 548) M2 = some (1, N') := by
      unfold F_Model_restoreSnapshot
      simp only [zl]
      rw [hsm.1, if_neg (by decide), i_0]
      exact f1
    rw [zb2_ok eC, zb2_ok eM, if_pos rfl]
    have sl : ∀ k, k ≠ 0 → k ≠ 6 → N'.1 (o + 548) k = M2.1 (o + 548) k := fun k h1 h2 => (g3 k h2).trans (w_slot _ h1)
    have ad : ∀ x, x ≠ o + 548 → x ≠ o + 549 → N'.1 x = M2.1 x := fun x h1 h2 => (g4 x h1 (by omega)).trans (funext fun k => w_addr k h1)
    refine ⟨N', (s.1, A, [], s.2.2.2), rfl, c2.keep (fun a ha => ⟨ad a (by unfold q_inC at ha; omega) (by unfold q_inC at ha; omega), by rw [g5]; rfl⟩), ?_, ⟨⟨hI.1.1, hJA, fun B hB => (by cases hB), hI.1.2.2.2⟩, hI.2.2.2 A hs, fun B hB => (by cases hB), hI.2.2.2⟩⟩
    refine hmk.upd (fun k hk => sl k (by omega) (by omega)) (fun j hj => ad _ (by omega) (by omega)) (fun k hk => by rw [Nat.zero_add]; exact g1 k hk) ⟨by rw [List.length_nil]; omega, ?_, fun j B hB => ?_⟩
    · rw [g2]
      rfl
    · rw [List.getElem?_nil] at hB
      cases hB
