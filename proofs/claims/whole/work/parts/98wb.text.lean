/-! ===== PURE: both readers side by side: the taxi, the clause, the text ===== -/
theorem j_taxi {o n q Z : Nat} {M N : z_Mem} {T : Nat → Nat} {R : Int32} {c A : q_R} {W : q_W} (hT : ∀ k, T k < 256) (hg : z_g o M N T n q) (hD : r_D o M N Z R c A W) (ht4 : q_T c < 4) : ∃ M' N', F_TextReader_readTaxi o M = some M' ∧ F_Model_taxiRead (o + 548) N = some N' ∧ c_kp o M M' ∧ n_kp (o + 548) N N' ∧ r_out o M' N' T n q Z := by
  have hI := hD.2.2
  have hZ := hI.1
  unfold F_TextReader_readTaxi F_Model_taxiRead
  obtain ⟨x2, y2, M1, N1, e1, f1, c1, d1, h1⟩ := j_number (a := 1) (b := 6) hT (by decide) (by decide) hg
  rw [zb2_ok (show F_Tokens_takeNumber o 1 6 M = some (x2, M1) from e1), zb2_ok (show F_Model_number (o + 548) 1 6 N = some (y2, N1) from f1)]
  rcases h1 with hb1 | ⟨s, q1, -, hs, rfl, rfl, hq1, hg1⟩
  · obtain ⟨M', e, cc⟩ := t_taxiC o x2 M1
    refine ⟨M', N1, e, ?_, c1.kp.tr cc, d1.kp, Or.inl (hb1.kp cc)⟩
    rw [zb2_ok (b_number hb1.n _ _), zb2_ok (b_number hb1.n _ _), zb_ok (b_good hb1.n), if_pos rfl, b_taxi73 hb1.n]
  have hD1 := hD.ks c1 d1
  obtain ⟨x4, y4, M3, N3, e3, f3, c3, d3, h3⟩ := j_number (a := 0) (b := Z - 1) hT (by omega) (by omega) hg1
  rw [hD1.1.z hZ.1, hD1.2.1.z hZ.1, zb2_ok (show F_Tokens_takeNumber o 0 (Int32.ofNat (Z - 1)) M1 = some (x4, M3) from e3), zb2_ok (show F_Model_number (o + 548) 0 (Int32.ofNat (Z - 1)) N1 = some (y4, N3) from f3)]
  rcases h3 with hb3 | ⟨z, q3, -, hz, rfl, rfl, hq3, hg3⟩
  · obtain ⟨M', e, cc⟩ := t_taxiB o (Int32.ofNat s) x4 M3
    refine ⟨M', N3, e, ?_, c1.kp.tr (c3.kp.tr cc), d1.kp.tr d3.kp, Or.inl (hb3.kp cc)⟩
    rw [zb2_ok (b_number hb3.n _ _), zb_ok (b_good hb3.n), if_pos rfl, b_taxi73 hb3.n]
  have hD3 := hD1.ks c3 d3
  obtain ⟨x6, y6, M5, N5, e5, f5, c5, d5, h5⟩ := j_number (a := 0) (b := 2879) hT (by decide) (by decide) hg3
  rw [zb2_ok (show F_Tokens_takeNumber o 0 2879 M3 = some (x6, M5) from e5), zb2_ok (show F_Model_number (o + 548) 0 2879 N3 = some (y6, N5) from f5)]
  rcases h5 with hb5 | ⟨b, q5, -, hb, rfl, rfl, hq5, hg5⟩
  · obtain ⟨M', e, cc⟩ := t_taxiA o (Int32.ofNat s) (Int32.ofNat z) x6 M5
    refine ⟨M', N5, e, ?_, c1.kp.tr (c3.kp.tr (c5.kp.tr cc)), d1.kp.tr (d3.kp.tr d5.kp), Or.inl (hb5.kp cc)⟩
    rw [zb_ok (b_good hb5.n), if_pos rfl, b_taxi73 hb5.n]
  have hD5 := hD3.ks c5 d5
  have cN := c1.kp.tr (c3.kp.tr c5.kp)
  have dN := d1.kp.tr (d3.kp.tr d5.kp)
  rw [zb_ok (b_ok hg5.1.2.2.1), if_neg ne10]
  rcases j_check (a := 0) (b := 2879) hT (by decide) (by decide) hg5 with ⟨e, M7, N7, -, he, hq5n, e7, f28, f27, fin, e8, f8, hg7, c7, d7⟩ | ⟨M7, N7, e7, f7, hb7, c7, d7, hin⟩
  · rw [e_i0, e_2879] at fin
    rw [zb2_ok (show F_Tokens_checkNumber o 0 2879 M5 = some (Int32.ofNat e, M5) from e7), if_pos f27, zb_ok fin, if_neg ne10, f28]
    by_cases hbe : b < e
    · have hlt : Int32.ofNat b < Int32.ofNat e := (i_lt (by omega) (by omega)).mpr hbe
      rw [if_pos hlt, if_pos hlt]
      have hD7 := hD5.ks c7 d7
      obtain ⟨⟨C1, C2, C3, C4⟩, ⟨m1, m2, m3, m4, m5, m6, m7⟩, -⟩ := hD7
      obtain ⟨i1, i2, ⟨i3, i3'⟩, i4, ⟨i5, i6⟩, i7, i8⟩ := hI
      obtain ⟨t, et⟩ : ∃ t, t = q_T c := ⟨_, rfl⟩
      rw [← et] at i3 i3' i7 i8 ht4 m6
      have e3 : M7.1 (o + 507) 3 = Int32.ofNat t := C4.2.2.2.2.1.trans i3
      have n9 : N7.1 (o + 548) 9 = Int32.ofNat t := m3.trans i3
      have ib4 : z_inb (Int32.ofNat t) 4 := (i_inb (by omega)).mpr ht4
      -- the class
      unfold F_TextReader_readTaxi_J68
      rw [zb_ok e8, e3, if_neg (i_nn (by omega)), if_neg (show ¬ (4 : Int32) ≤ Int32.ofNat t from i_nle (a := 4) (by decide) (by omega) ht4), if_pos ib4, zl_eq, i_cl (by omega)]
      obtain ⟨M8, e9, hS, hx8, hl8⟩ := t_startShift (o + 507 + 4 + 3 * t) (Int32.ofNat s) (Int32.ofNat z) (Int32.ofNat b) (Int32.ofNat e) M7
      rw [zb_ok e9, zl_eq, hx8 (o + 507) (by omega), e3, i_succ]
      have hC' := C4.more i4 et ht4 i8 hS hx8
      -- the reference
      unfold F_Model_taxiRead_J73
      rw [zb2_ok (show F_Model_number (o + 548) 0 2879 N5 = some (Int32.ofNat e, N7) from f8), zb_ok (b_ok hg7.1.2.2.1), if_neg ne10, n9, zl_eq, if_pos ib4, i_cl (by omega), zl_eq, w_addr _ (show o + 548 ≠ o + 548 + 6 by omega), n9, if_pos ib4, i_cl (by omega), zl_eq]
      have e13 : ∀ j, (13 : Int32) + 40 * Int32.ofNat t + Int32.ofNat j = Int32.ofNat (13 + 40 * t + j) := fun j => by
        rw [show (40 : Int32) = Int32.ofNat 40 from rfl, show (13 : Int32) = Int32.ofNat 13 from rfl, i_mul, i_add, i_add]
      have e130 : (13 : Int32) + 40 * Int32.ofNat t + 0 = Int32.ofNat (13 + 40 * t) := e13 0
      have e131 : (13 : Int32) + 40 * Int32.ofNat t + 1 = Int32.ofNat (14 + 40 * t) := by rw [show 14 + 40 * t = 13 + 40 * t + 1 by omega]; exact e13 1
      have e133 : (13 : Int32) + 40 * Int32.ofNat t + 3 = Int32.ofNat (16 + 40 * t) := by rw [show 16 + 40 * t = 13 + 40 * t + 3 by omega]; exact e13 3
      have e134 : (13 : Int32) + 40 * Int32.ofNat t + 4 = Int32.ofNat (17 + 40 * t) := by rw [show 17 + 40 * t = 13 + 40 * t + 4 by omega]; exact e13 4
      rw [e130, e131, e133, e134, if_pos ((i_inb (by omega)).mpr (by omega)), i_cl (by omega), zl_eq, if_pos ((i_inb (by omega)).mpr (by omega)), i_cl (by omega), zl_eq, if_pos ((i_inb (by omega)).mpr (by omega)), i_cl (by omega), zl_eq, if_pos ((i_inb (by omega)).mpr (by omega)), i_cl (by omega), zl_eq, zl_eq]
      obtain ⟨N8, eN8⟩ : ∃ N8, N8 = z_wI (z_wI (z_wI (z_wI (z_wI (z_wI N7 (o + 548 + 6) t (Int32.ofNat s)) (o + 548 + 7) t (Int32.ofNat b)) (o + 548 + 2) (13 + 40 * t) (Int32.ofNat z)) (o + 548 + 2) (14 + 40 * t) (Int32.ofNat b)) (o + 548 + 2) (16 + 40 * t) (-1)) (o + 548 + 2) (17 + 40 * t) (Int32.ofNat e) := ⟨_, rfl⟩
      rw [← eN8]
      have s8 : ∀ k, N8.1 (o + 548) k = N7.1 (o + 548) k := fun k => by
        rw [eN8, w_addr _ (by omega), w_addr _ (by omega), w_addr _ (by omega), w_addr _ (by omega), w_addr _ (by omega), w_addr _ (by omega)]
      have x8 : ∀ x, x ≠ o + 548 + 2 → x ≠ o + 548 + 6 → x ≠ o + 548 + 7 → N8.1 x = N7.1 x := fun x h2 h6 h7 => funext fun k => by
        rw [eN8, w_addr _ (by omega), w_addr _ (by omega), w_addr _ (by omega), w_addr _ (by omega), w_addr _ (by omega), w_addr _ (by omega)]
      have r2 : ∀ k, k < 581 → N8.1 (o + 548 + 2) k = r_tA A t (Int32.ofNat z) (Int32.ofNat b) (Int32.ofNat e) k := fun k hk => by
        have h7 := m5 k hk
        have w2 : ∀ (X : z_Mem) (B : q_R) (j : Nat) (v : Int32), X.1 (o + 548 + 2) k = B k → (z_wI X (o + 548 + 2) j v).1 (o + 548 + 2) k = q_w B j v k := fun X B j v h => by
          by_cases hkj : k = j
          · rw [hkj, w_same, q_w_same]
          · rw [w_slot _ hkj, q_w_ne hkj, h]
        rw [eN8]
        exact w2 _ _ _ _ (w2 _ _ _ _ (w2 _ _ _ _ (w2 _ _ _ _ ((w_addr _ (by omega)).trans ((w_addr _ (by omega)).trans h7)))))
      have r6 : ∀ u, N8.1 (o + 548 + 6) u = if u = t then Int32.ofNat s else N7.1 (o + 548 + 6) u := fun u => by
        rw [eN8, w_addr _ (by omega), w_addr _ (by omega), w_addr _ (by omega), w_addr _ (by omega), w_addr _ (by omega)]
        by_cases hu : u = t
        · rw [hu, w_same, if_pos rfl]
        · rw [w_slot _ hu, if_neg hu]
      have r7 : ∀ u, N8.1 (o + 548 + 7) u = if u = t then Int32.ofNat b else N7.1 (o + 548 + 7) u := fun u => by
        rw [eN8, w_addr _ (by omega), w_addr _ (by omega), w_addr _ (by omega), w_addr _ (by omega)]
        by_cases hu : u = t
        · rw [hu, w_same, if_pos rfl]
        · rw [w_slot _ hu, if_neg hu, w_addr _ (by omega)]
      have l8 : N8.2 = N7.2 := by rw [eN8]; rfl
      rw [s8 9, n9, i_succ]
      have kx : ∀ x, x < o + 505 → (z_wI M8 (o + 507) 3 (Int32.ofNat (t + 1))).1 x = M7.1 x := fun x hx => (funext fun k => w_addr _ (by omega)).trans (hx8 x (by omega))
      obtain ⟨e66, eT⟩ := r_tc_66 c t (Int32.ofNat s) (Int32.ofNat b) ht4
      obtain ⟨a13, a14, a16, a17⟩ := r_tA_at (A := A) (t := t) (z := Int32.ofNat z) (b := Int32.ofNat b) (e := Int32.ofNat e)
      obtain ⟨c70, c80⟩ := r_tc_70 (c := c) (n := Int32.ofNat s) (b := Int32.ofNat b) ht4
      refine ⟨_, _, rfl, rfl, cN.tr (c7.kp.tr ((c_kp.in (fun x hx => hx8 x (by omega)) hl8).tr (c_kp.w (by omega) (by omega)))), dN.tr (d7.kp.tr (n_kp.tr (N' := N8) ⟨fun x h1 h2 h3 => x8 x h2 (by omega) (by omega), fun k _ _ => s8 k, fun x k _ => by rw [l8]⟩ (n_kp.s (by omega)))), Or.inr ⟨x_to T n q5, R, r_tc c t (Int32.ofNat s) (Int32.ofNat b), r_tA A t (Int32.ofNat z) (Int32.ofNat b) (Int32.ofNat e), W, ?_, hg7.kw kx ((funext fun k => w_addr _ (by omega)).trans (x8 _ (by omega) (by omega) (by omega))) (fun k hk => (w_slot _ (by omega)).trans (s8 k)) l8, ⟨?_, ?_, ?_, hC'⟩, ⟨?_, ?_, ?_, ?_, ?_, ?_, ?_⟩, ⟨i1, i2, ⟨?_, ?_⟩, ?_, ⟨?_, ?_⟩, ?_, ?_⟩⟩⟩
      · have := (x_to_le hg5.le.1 (fun g => (hg5.le.2.2 g).1)).1
        omega
      · rw [w_addr _ (by omega), hx8 _ (by omega)]; exact C1
      · rw [w_addr _ (by omega), hx8 _ (by omega)]; exact C2
      · intro a b' ha hb'
        rw [w_addr _ (by omega), hx8 _ (by omega)]
        exact C3 a b' ha hb'
      · rw [w_slot _ (by decide), s8]; exact m1
      · rw [w_slot _ (by decide), s8]; exact m2
      · rw [w_same]; exact e66.symm
      · rw [w_slot _ (by decide), s8, r_tc_ne (by omega) (by omega) (by omega)]; exact m4
      · intro k hk
        rw [w_addr _ (by omega)]
        exact r2 k hk
      · intro u hu
        rw [eT] at hu
        rw [w_addr _ (by omega), w_addr _ (by omega), r6, r7]
        by_cases hut : u = t
        · rw [if_pos hut, if_pos hut, hut]
          exact ⟨c70.symm, c80.symm⟩
        · rw [if_neg hut, if_neg hut, r_tc_ne (by omega) (by omega) (by omega), r_tc_ne (by omega) (by omega) (by omega)]
          exact m6 u (by omega)
      · intro a b' ha hb' hab
        rw [w_addr _ (by omega), x8 _ (by omega) (by omega) (by omega)]
        exact m7 a b' ha hb' hab
      · rw [eT]; exact e66
      · rw [eT]; omega
      · exact (r_tA_ne (by omega)).trans i4
      · rw [r_tA_ne (by omega)]; exact i5
      · intro k hk
        rw [r_tA_ne (by omega)]
        exact i6 k hk
      · intro u hu
        rw [eT] at hu
        by_cases hut : u = t
        · rw [hut, a13, c70, a16, r_tA_ne (by omega), r_tA_ne (by omega)]
          exact ⟨⟨z, by omega, rfl⟩, ⟨s, hs, rfl⟩, rfl, i8 _ (by omega) (by omega), i8 _ (by omega) (by omega)⟩
        · rw [r_tA_ne (by omega), r_tc_ne (by omega) (by omega) (by omega), r_tA_ne (by omega), r_tA_ne (by omega), r_tA_ne (by omega)]
          exact i7 u (by omega)
      · intro k h1 h2
        rw [eT] at h1
        rw [r_tA_ne (by omega)]
        exact i8 k (by omega) h2
    · have hnlt : ¬ Int32.ofNat b < Int32.ofNat e := fun k => hbe ((i_lt (by omega) (by omega)).mp k)
      rw [if_neg hnlt, if_neg hnlt]
      obtain ⟨M9, N9, e9, f9, hb9, c9, d9⟩ := j_fail (e := 4) (by decide) hg5
      obtain ⟨M', e', cc⟩ := t_taxi68 o (Int32.ofNat s) (Int32.ofNat z) (Int32.ofNat b) (Int32.ofNat e) M9
      rw [zb_ok e9, zb2_ok f9, b_taxi73 hb9.n]
      exact ⟨M', N9, e', rfl, cN.tr (c9.kp.tr cc), dN.tr d9.kp, Or.inl (hb9.kp cc)⟩
  · rw [zb2_ok (show F_Tokens_checkNumber o 0 2879 M5 = some (-1, M7) from e7)]
    have cl : ∃ M', (if Int32.ofNat b < -1 then F_TextReader_readTaxi_J68 o (Int32.ofNat s) (Int32.ofNat z) (Int32.ofNat b) (-1) M7 else zb (F_Tokens_fail o 4 M7) fun M9 => F_TextReader_readTaxi_J68 o (Int32.ofNat s) (Int32.ofNat z) (Int32.ofNat b) (-1) M9) = some M' ∧ c_kp o M7 M' := by
      by_cases k : Int32.ofNat b < -1
      · rw [if_pos k]
        exact t_taxi68 o _ _ _ _ M7
      · rw [if_neg k]
        obtain ⟨M9, e9, c9⟩ := t_fail o 4 M7
        obtain ⟨M', e', cc⟩ := t_taxi68 o (Int32.ofNat s) (Int32.ofNat z) (Int32.ofNat b) (-1) M9
        rw [zb_ok e9]
        exact ⟨M', e', c9.kp.tr cc⟩
    obtain ⟨M', e', cc⟩ := cl
    have rf : F_Model_taxiRead_J73 (o + 548) (Int32.ofNat s) (Int32.ofNat z) (Int32.ofNat b) N5 = some N7 := by
      unfold F_Model_taxiRead_J73
      rw [zb2_ok (show F_Model_number (o + 548) 0 2879 N5 = some (Int32.ofNat 0, N7) from f7), zb_ok (b_good hb7.n), if_pos rfl]
    refine ⟨M', N7, e', ?_, cN.tr (c7.kp.tr cc), dN.tr d7.kp, Or.inl (hb7.kp cc)⟩
    by_cases k : N5.1 (o + 548) 27 = 2
    · have := hin k
      rw [e_i0, e_2879] at this
      rw [if_pos k, zb_ok this, if_pos rfl]
      exact rf
    · rw [if_neg k]
      exact rf
/-! the clause -/
theorem b_clause41 {m : Nat} {N : z_Mem} (h : N.1 m 30 ≠ 0) : F_Model_clauseRead_J41 m N = some N := by
  unfold F_Model_clauseRead_J41
  rw [zb2_ok (b_passes h _), if_pos rfl, b_end h]
theorem j_clause {o n q Z : Nat} {M N : z_Mem} {T : Nat → Nat} {R : Int32} {c A : q_R} {W : q_W} (hT : ∀ k, T k < 256) (hg : z_g o M N T n q) (hD : r_D o M N Z R c A W) : ∃ M' N', F_TextReader_readClause o M = some M' ∧ F_Model_clauseRead (o + 548) N = some N' ∧ c_kp o M M' ∧ n_kp (o + 548) N N' ∧ r_out o M' N' T n (q + 1) Z := by
  have hI := hD.2.2
  have w5 := j_isWord (j := 5) hT (by decide) hg
  have w5c : F_Tokens_isWord o 5 M = _ := w5.1
  have w5m : F_Model_isWord (o + 548) 395046 N = _ := w5.2
  have p1 : F_Model_passes (o + 548) 365260 N = _ := j_passes (j := 1) hT (by decide) hg
  have p2 : F_Model_passes (o + 548) 287870604 N = _ := j_passes (j := 2) hT (by decide) hg
  have p3 : F_Model_passes (o + 548) 45602731721 N = _ := j_passes (j := 3) hT (by decide) hg
  have p4 : F_Model_passes (o + 548) 369932 N = _ := j_passes (j := 4) hT (by decide) hg
  have p5 : F_Model_passes (o + 548) 395046 N = _ := j_passes (j := 5) hT (by decide) hg
  have e3 : M.1 (o + 507) 3 = Int32.ofNat (q_T c) := hD.1.2.2.2.2.2.2.2.1.trans hI.2.2.1.1
  have n9 : N.1 (o + 548) 9 = Int32.ofNat (q_T c) := hD.2.1.2.2.1.trans hI.2.2.1.1
  have hT4 := hI.2.2.1.2
  have wk : ∀ {M' N' : z_Mem}, r_out o M' N' T n (x_to T n q + 1) Z → r_out o M' N' T n (q + 1) Z := fun h => by
    have := (x_to_le hg.le.1 (fun g => (hg.le.2.2 g).1)).1
    rcases h with hb | ⟨q2, R2, c', A', W', hq2, hr2⟩
    · exact Or.inl hb
    · exact Or.inr ⟨q2, R2, c', A', W', by omega, hr2⟩
  unfold F_TextReader_readClause F_Model_clauseRead
  rw [zb_ok w5c]
  rcases j_takeWord (a := 1) (b := 5) hT (by decide) (by decide) hg with ⟨j, M1, N1, h1, h5, hv, hq, e1, f1, hg1, c1, d1⟩ | ⟨M1, N1, hno, e1, f1, hb1, c1, d1⟩
  · have hD1 := hD.ks c1 d1
    have one : ∀ k, k < 26 → k ≠ j → ¬ v_is T n q k := fun k hk hne z => hne (v_is.one hk (by omega) z hv)
    have c30 : F_TextReader_readClause_J30 o M = (if Int32.ofNat j = 1 then zb (F_TextReader_readRoad o M1) fun M18 => F_TextReader_readClause_J167 o M18 else if Int32.ofNat j = 2 then zb2 (F_Tokens_takeNumber o 0 9999 M1) fun x13 M12 => zl (z_wI M12 (o + 507) 1 x13) fun M14 => zb2 (F_Tokens_takeNumber o 0 999 M14) fun x16 M15 => zl (z_wI M15 (o + 507) 2 x16) fun M17 => F_TextReader_readClause_J167 o M17 else if Int32.ofNat j = 3 then zb2 (F_Tokens_takeNumber o 2 4 M1) fun x10 M9 => zb (F_TextReader_readRuleValue o ((7 + x10) - 2) M9) fun M11 => F_TextReader_readClause_J167 o M11 else if Int32.ofNat j = 4 then zb2 (F_Tokens_takeWord o 14 20 M1) fun x7 M6 => zb (F_TextReader_readRuleValue o (x7 - 14) M6) fun M8 => F_TextReader_readClause_J167 o M8 else if Int32.ofNat j = 5 then zb (F_TextReader_readTaxi o M1) fun M5 => F_TextReader_readClause_J167 o M5 else F_TextReader_readClause_J167 o M1) := by
      unfold F_TextReader_readClause_J30
      rw [zb2_ok (show F_Tokens_takeWord o 1 5 M = some (Int32.ofNat j, M1) from e1)]
    rcases (show j = 1 ∨ j = 2 ∨ j = 3 ∨ j = 4 ∨ j = 5 by omega) with rfl | rfl | rfl | rfl | rfl
    · rw [if_neg (one 5 (by decide) (by decide)), if_pos rfl, c30, if_pos (show Int32.ofNat 1 = (1 : Int32) from rfl), p1, if_pos hv, zb_ok f1, zb2_ok rfl, if_neg (by decide)]
      obtain ⟨M2, N2, e2, f2, c2, d2, ho⟩ := j_road hT hg1 hD1
      obtain ⟨M', N', e, f, cc, dd, ho'⟩ := j_end hT ho
      rw [zb_ok e2, zb_ok f2]
      exact ⟨M', N', e, f, c1.kp.tr (c2.tr cc), d1.kp.tr (d2.tr dd), wk ho'⟩
    · rw [if_neg (one 5 (by decide) (by decide)), if_pos rfl, c30, if_neg (show ¬ Int32.ofNat 2 = (1 : Int32) by decide), if_pos (show Int32.ofNat 2 = (2 : Int32) from rfl), p1, if_neg (one 1 (by decide) (by decide)), zb2_ok rfl, if_pos rfl, zb_ok w5m, if_neg (one 5 (by decide) (by decide)), if_pos rfl, p2, if_pos hv, zb_ok f1, zb2_ok rfl, if_neg (by decide)]
      obtain ⟨M', N', e, f, cc, dd, ho⟩ := j_tariff hT hg1 hD1
      exact ⟨M', N', e, f, c1.kp.tr cc, d1.kp.tr dd, wk ho⟩
    · rw [if_neg (one 5 (by decide) (by decide)), if_pos rfl, c30, if_neg (show ¬ Int32.ofNat 3 = (1 : Int32) by decide), if_neg (show ¬ Int32.ofNat 3 = (2 : Int32) by decide), if_pos (show Int32.ofNat 3 = (3 : Int32) from rfl), p1, if_neg (one 1 (by decide) (by decide)), zb2_ok rfl, if_pos rfl, zb_ok w5m, if_neg (one 5 (by decide) (by decide)), if_pos rfl, p2, if_neg (one 2 (by decide) (by decide)), zb2_ok rfl, if_pos rfl, p3, if_pos hv, zb_ok f1, zb2_ok rfl, if_neg (by decide)]
      obtain ⟨M', N', e, f, cc, dd, ho⟩ := j_disc hT hg1 hD1
      exact ⟨M', N', e, f, c1.kp.tr cc, d1.kp.tr dd, wk ho⟩
    · rw [if_neg (one 5 (by decide) (by decide)), if_pos rfl, c30, if_neg (show ¬ Int32.ofNat 4 = (1 : Int32) by decide), if_neg (show ¬ Int32.ofNat 4 = (2 : Int32) by decide), if_neg (show ¬ Int32.ofNat 4 = (3 : Int32) by decide), if_pos (show Int32.ofNat 4 = (4 : Int32) from rfl), p1, if_neg (one 1 (by decide) (by decide)), zb2_ok rfl, if_pos rfl, zb_ok w5m, if_neg (one 5 (by decide) (by decide)), if_pos rfl, p2, if_neg (one 2 (by decide) (by decide)), zb2_ok rfl, if_pos rfl, p3, if_neg (one 3 (by decide) (by decide)), zb2_ok rfl, if_pos rfl, p4, if_pos hv, zb_ok f1, zb2_ok rfl, if_neg (by decide)]
      obtain ⟨M', N', e, f, cc, dd, ho⟩ := j_rule hT hg1 hD1
      exact ⟨M', N', e, f, c1.kp.tr cc, d1.kp.tr dd, wk ho⟩
    · rw [if_pos hv, if_neg ne10, e3, p1, if_neg (one 1 (by decide) (by decide)), zb2_ok rfl, if_pos rfl, zb_ok w5m, if_pos hv, if_neg ne10, n9]
      by_cases h4 : q_T c = 4
      · rw [if_neg (show ¬ Int32.ofNat (q_T c) < (4 : Int32) by rw [h4]; decide), if_pos (by rw [h4]; rfl)]
        obtain ⟨M2, N2, e2, f2, hb2, c2, d2⟩ := j_fail (e := 3) (by decide) hg
        obtain ⟨M', e, cc⟩ := t_clause30 o M2
        rw [zb_ok e2, zb2_ok f2, b_clause41 hb2.n]
        exact ⟨M', N2, e, rfl, c2.kp.tr cc, d2.kp, Or.inl (hb2.kp cc)⟩
      · rw [if_pos (show Int32.ofNat (q_T c) < (4 : Int32) from (i_lt (b := 4) (by omega) (by decide)).mpr (by omega)), if_neg (show ¬ Int32.ofNat (q_T c) = (4 : Int32) from fun k => h4 ((i_eq (b := 4) (by omega) (by decide)).mp k)), c30, if_neg (show ¬ Int32.ofNat 5 = (1 : Int32) by decide), if_neg (show ¬ Int32.ofNat 5 = (2 : Int32) by decide), if_neg (show ¬ Int32.ofNat 5 = (3 : Int32) by decide), if_neg (show ¬ Int32.ofNat 5 = (4 : Int32) by decide), if_pos (show Int32.ofNat 5 = (5 : Int32) from rfl)]
        unfold F_Model_clauseRead_J41
        rw [p5, if_pos hv, zb_ok f1, zb2_ok rfl, if_neg (by decide)]
        obtain ⟨M2, N2, e2, f2, c2, d2, ho⟩ := j_taxi hT hg1 hD1 (by omega)
        obtain ⟨M', N', e, f, cc, dd, ho'⟩ := j_end hT ho
        rw [zb_ok e2, zb_ok f2]
        exact ⟨M', N', e, f, c1.kp.tr (c2.tr cc), d1.kp.tr (d2.tr dd), wk ho'⟩
  · have c30 : F_TextReader_readClause_J30 o M = F_TextReader_readClause_J167 o M1 := by
      unfold F_TextReader_readClause_J30
      rw [zb2_ok (show F_Tokens_takeWord o 1 5 M = some (-1, M1) from e1), if_neg (by decide), if_neg (by decide), if_neg (by decide), if_neg (by decide), if_neg (by decide)]
    rw [if_neg (hno 5 (by decide) (by decide)), if_pos rfl, c30, p1, if_neg (hno 1 (by decide) (by decide)), zb2_ok rfl, if_pos rfl, zb_ok w5m, if_neg (hno 5 (by decide) (by decide)), if_pos rfl, p2, if_neg (hno 2 (by decide) (by decide)), zb2_ok rfl, if_pos rfl, p3, if_neg (hno 3 (by decide) (by decide)), zb2_ok rfl, if_pos rfl, p4, if_neg (hno 4 (by decide) (by decide)), zb2_ok rfl, if_pos rfl, zb2_ok f1, b_end hb1.n]
    obtain ⟨M', e, cc⟩ := t_end o M1
    exact ⟨M', N1, e, rfl, c1.kp.tr cc, d1.kp, Or.inl (hb1.kp cc)⟩
/-! the clauses, one after another -/
/-- what is left when all has been read -/
def r_fin (o : Nat) (M N : z_Mem) (Z : Nat) : Prop := z_b o M N ∨ (M.1 (o + 499) 0 = 0 ∧ M.1 (o + 499) 1 = -1 ∧ N.1 (o + 548) 30 = 0 ∧ N.1 (o + 548) 31 = -1) ∧ ∃ R c A W, r_D o M N Z R c A W
theorem c_loop_b {o f : Nat} {v : Int32} {M : z_Mem} (h : M.1 (o + 499) 0 ≠ 0) : F_TextReader_readText_L45 o (f + 1) v M = F_TextReader_readText_J72 o M := by
  unfold F_TextReader_readText_L45 F_TextReader_readText_B45 F_Tokens_hasMore
  rw [if_neg h, zb_ok rfl, if_pos rfl]
  split <;> rfl
theorem m_loop_b {m f : Nat} {N : z_Mem} (h : N.1 m 30 ≠ 0) : F_Model_load_L64 m (f + 1) N = F_Model_load_J85 m N := by
  unfold F_Model_load_L64 F_Model_load_B64
  rw [zb_ok (b_good h), if_pos rfl]
theorem j_loop {o n Z : Nat} {T : Nat → Nat} (hT : ∀ k, T k < 256) (hn : n ≤ 800) : ∀ (r q v f g : Nat) (M N : z_Mem) (R : Int32) (c A : q_R) (W : q_W), n - q ≤ r → r + 1 < f → r + 1 < g → v ≤ q → z_g o M N T n q → r_D o M N Z R c A W → ∃ M1 N1, F_TextReader_readText_L45 o f (Int32.ofNat v) M = F_TextReader_readText_J72 o M1 ∧ F_Model_load_L64 (o + 548) g N = F_Model_load_J85 (o + 548) N1 ∧ c_kp o M M1 ∧ n_kp (o + 548) N N1 ∧ r_fin o M1 N1 Z := by
  intro r
  induction r with
  | zero =>
    intro q v f g M N R c A W hr hf hgf hv hg hD
    obtain ⟨f, rfl⟩ : ∃ k, f = k + 1 := ⟨f - 1, by omega⟩
    obtain ⟨g, rfl⟩ : ∃ k, g = k + 1 := ⟨g - 1, by omega⟩
    have hend := hg.end
    have hqn : ¬ q < n := by omega
    refine ⟨M, N, ?_, ?_, c_kp.rfl', n_kp.rfl', Or.inr ⟨hg.1, R, c, A, W, hD⟩⟩
    · unfold F_TextReader_readText_L45 F_TextReader_readText_B45 F_Tokens_hasMore
      rw [if_pos hg.1.1, if_pos (hend.1.mpr hqn), zb_ok rfl, if_pos rfl]
      split <;> rfl
    · unfold F_Model_load_L64 F_Model_load_B64
      rw [zb_ok (b_ok hg.1.2.2.1), if_neg ne10, if_pos (hend.2.mpr hqn)]
  | succ r ih =>
    intro q v f g M N R c A W hr hf hgf hv hg hD
    obtain ⟨f, rfl⟩ : ∃ k, f = k + 1 := ⟨f - 1, by omega⟩
    obtain ⟨g, rfl⟩ : ∃ k, g = k + 1 := ⟨g - 1, by omega⟩
    have hend := hg.end
    by_cases hqn : q < n
    · obtain ⟨M2, N2, e2, f2, c2, d2, ho⟩ := j_clause hT hg hD
      have eC : F_TextReader_readText_L45 o (f + 1) (Int32.ofNat v) M = F_TextReader_readText_L45 o f (Int32.ofNat (v + 1)) M2 := by
        have eU : F_TextReader_readText_L45 o (f + 1) (Int32.ofNat v) M = F_TextReader_readText_B45 o (F_TextReader_readText_L45 o f) (Int32.ofNat v) M := rfl
        rw [eU]
        unfold F_TextReader_readText_B45 F_Tokens_hasMore
        rw [if_neg (show ¬ (800 : Int32) ≤ Int32.ofNat v from i_nle (a := 800) (by decide) (by omega) (by omega)), if_pos hg.1.1, if_neg (fun k => hend.1.mp k hqn), zb_ok rfl, if_neg (by decide), zb_ok e2, zl_eq, i_succ]
      have eM : F_Model_load_L64 (o + 548) (g + 1) N = F_Model_load_L64 (o + 548) g N2 := by
        have eU : F_Model_load_L64 (o + 548) (g + 1) N = F_Model_load_B64 (o + 548) (F_Model_load_L64 (o + 548) g) N := rfl
        rw [eU]
        unfold F_Model_load_B64
        rw [zb_ok (b_ok hg.1.2.2.1), if_neg ne10, if_neg (fun k => hend.2.mp k hqn), zb_ok f2]
      rw [eC, eM]
      rcases ho with hb | ⟨q2, R2, c', A', W', hq2, hg2, hD2⟩
      · obtain ⟨f, rfl⟩ : ∃ k, f = k + 1 := ⟨f - 1, by omega⟩
        obtain ⟨g, rfl⟩ : ∃ k, g = k + 1 := ⟨g - 1, by omega⟩
        exact ⟨M2, N2, c_loop_b hb.1, m_loop_b hb.n, c2, d2, Or.inl hb⟩
      · obtain ⟨M1, N1, e, fN, cc, dd, hf'⟩ := ih q2 (v + 1) f g M2 N2 R2 c' A' W' (by omega) (by omega) (by omega) (by omega) hg2 hD2
        exact ⟨M1, N1, e, fN, c2.tr cc, d2.tr dd, hf'⟩
    · refine ⟨M, N, ?_, ?_, c_kp.rfl', n_kp.rfl', Or.inr ⟨hg.1, R, c, A, W, hD⟩⟩
      · unfold F_TextReader_readText_L45 F_TextReader_readText_B45 F_Tokens_hasMore
        rw [if_pos hg.1.1, if_pos (hend.1.mpr hqn), zb_ok rfl, if_pos rfl]
        split <;> rfl
      · unfold F_Model_load_L64 F_Model_load_B64
        rw [zb_ok (b_ok hg.1.2.2.1), if_neg ne10, if_pos (hend.2.mpr hqn)]
