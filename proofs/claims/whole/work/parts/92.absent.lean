theorem a_absent {o L : Nat} {S : Nat → Int32} {i : Int32} {M : z_Mem} {s : q_S} {c : z_Mem → Option (Int32 × z_Mem)} (hI : q_Inv s) (hc : c_all o M s) (hm : m_all (o + 548) M s) (h1 : z_inb (i + (1 : Int32)) L) : ∃ M' s', Fc_1597 o L S i M c = c M' ∧ c_all o M' s' ∧ m_all (o + 548) M' s' ∧ q_Inv s' := by
  generalize hp : S (i + 1).toNatClampNeg = p
  have hN24 := hI.1.I.rides24
  have hT4 := hI.1.I.taxis4
  have ct := a_ride_c hI.1.I hc
  have mt := fun (N : z_Mem) (hN : m_all (o + 548) N s) p => a_ride_m (m := o + 548) (N := z_wI N (o + 548) 0 0) (R := q_N s.2.1) (by omega) (m_rides hI.1.I (hN.thr 0)) p
  rcases q_split (q_N s.2.1) (by omega) p with ⟨r, hr, rfl⟩ | hb
  · have gr := q_good (n := q_N s.2.1) (by omega) hr
    obtain ⟨x0, -, -, -, -, -, -, -, -, x9, -, -, -, x13, -⟩ := hc.2.1.2.2.2.2.2.2.2.2 r hr
    have of0 : ∀ N, m_all (o + 548) N s → F_Model_of (o + 548) (Int32.ofNat r) 0 N = some (s.2.1 (173 + 17 * r)) := fun N hN => m_ofL (kl := 0) hN 0 (by omega) (by omega) rfl
    have of11 : ∀ N, m_all (o + 548) N s → F_Model_of (o + 548) (Int32.ofNat r) 11 N = some (s.2.1 (184 + 17 * r)) := fun N hN => by
      rw [m_ofL (kl := 11) hN 11 (by omega) (by omega) rfl]
      exact congrArg some (congrArg s.2.1 (by omega))
    by_cases h0 : s.2.1 (173 + 17 * r) = 1
    · rcases hI.1.2.1.abs r hr with hab | hab
      · obtain ⟨t, ht, et⟩ := (hI.1.2.1.2.2.1 r hr).2.2 (Or.inl h0)
        obtain ⟨n, rt, pt, hn, en, hL⟩ := hI.1.L ht
        have hl12 := hL.1.2.1
        rw [et] at x9
        have hz4 : z_inb (Int32.ofNat t) 4 := (i_inb (by omega)).mpr (by omega)
        have ctt : (Int32.ofNat t).toNatClampNeg = t := i_cl (by omega)
        have e2r0 : ∀ r : Nat, (2 * Int32.ofNat r : Int32) = Int32.ofNat (2 * r) := fun r => by rw [show (2 : Int32) = Int32.ofNat 2 from rfl, i_mul]
        obtain ⟨M8, e8, c8, k8, fr8⟩ := a_note_c (o := o) hI.1.I hI.1.2.1.abs hc
        have x98 : M8.1 (o + 5 + 16 + r) 9 = Int32.ofNat t := by
          obtain ⟨-, -, -, -, -, -, -, -, -, y9, -⟩ := c8.2.1.2.2.2.2.2.2.2.2 r hr
          exact y9.trans et
        have hst48 : ∀ x ∈ rt, x < 48 := fun x hx => by have := hL.1.2.2.1 x hx; omega
        have l1 := g_no_len (s := 2 * r) (L := rt)
        obtain ⟨h78, hl8⟩ := c_route c8 ht (show q_li (q_noted s).2.1 _ _ rt from hL.1.1) hl12
        obtain ⟨M10, e10, i1, i2, i3, i4, i5⟩ := c_remove (s := 2 * r) hl12 (by omega) hst48 h78 hl8
        have c10 := c8.rt (M' := M10) ht hT4 (by omega) i1 i2 i3 i4
        have hrN : r < q_N (q_setL s.2.1 (24 + 40 * t) (25 + 40 * t) (rt.filter (g_no (2 * r)))) := by
          unfold q_N
          rw [q_setL_out (by omega) (by omega)]
          exact hr
        have c13 := c10.wr (r := r) (k := 13) (v := 1) hrN (Or.inl (by omega))
        have c13' : c_all o (z_wI M10 (o + 5 + 16 + r) 13 1) (q_row (q_noted s) (q_abs s.2.1 t r rt)) := c13
        have hJ := hI.1.2.1.absent hI.1.1.2 hT4 ht hL hn en hr h0 et hab
        have hI2 : q_Inv (q_row (q_noted s) (q_abs s.2.1 t r rt)) := hI.noted.row hJ (fun u hu hu0 => by
          have eN : q_N (q_abs s.2.1 t r rt) = q_N s.2.1 := by unfold q_N; rw [q_abs_out hl12 (by omega) (by omega)]
          rw [eN] at hu
          rw [q_abs_out hl12 (by omega) (by omega)] at hu0
          by_cases hur : u = r
          · subst hur
            rw [h0] at hu0
            exact absurd hu0 (by decide)
          · rw [q_abs_out hl12 (by omega) (by omega), q_abs_out hl12 (by omega) (by omega)]
            exact hI.2.1 u hu hu0)
        obtain ⟨M', e, g1, g2⟩ := k_absent (S := S) (c := c) (y := .ok (Int32.ofNat (rt.filter (g_no (2 * r))).length)) (s' := q_row (q_noted s) (q_abs s.2.1 t r rt)) q_c1n hm h1 (l_of (c_ok (by
          rw [hp]
          unfold F_Sys_absent
          simp only [zxm, zb, (ct _).2 r hr rfl]
          rw [x0, if_pos h0, x13, if_pos hab, x9, a_hasTaxi hI.1.I hc ht]
          simp only
          rw [if_neg (by decide), e8]
          simp only
          rw [x98, if_pos hz4, ctt]
          simp only [zl]
          rw [a_dropOf]
          simp only
          rw [e10]
          simp only
          rw [w_addr _ (show o + 5 + 4 + 3 * t ≠ o + 5 + 16 + r by omega), i1]) c13' ((k8.tr (fun a ha => ⟨i4 a (by unfold q_inM at ha; omega) (by unfold q_inM at ha; omega), by rw [i5]⟩)).tr (q_C.w (Or.inl ⟨by omega, by omega⟩)))) (fun e M1 he => by cases he)) (fun N hN => by
          have hN0 := hN.thr 0
          obtain ⟨N8, f8, m8, q8, n8, n8'⟩ := a_note_m hN0
          obtain ⟨N9, f9, m9, n9, n9'⟩ := m_drops (m := o + 548) (t := t) (s' := 2 * r) (s := q_noted s) (by omega) hl12 (by omega) hst48 hL.1.1 m8
          have m11 := m9.w (k := 184 + 17 * r) (v := 1)
          have m11' : m_all (o + 548) (z_wI N9 (o + 548 + 1) (184 + 17 * r) 1) (q_row (q_noted s) (q_abs s.2.1 t r rt)) := m11
          have of78 : F_Model_of (o + 548) (Int32.ofNat r) 7 N8 = some (Int32.ofNat t) := by
            rw [m_ofL (kl := 7) m8 7 (by omega) (by omega) rfl, show 173 + 17 * r + 7 = 180 + 17 * r by omega]
            exact congrArg some et
          have of711 : F_Model_of (o + 548) (Int32.ofNat r) 7 (z_wI N9 (o + 548 + 1) (184 + 17 * r) 1) = some (Int32.ofNat t) := by
            rw [m_ofL (kl := 7) m11' 7 (by omega) (by omega) rfl, show 173 + 17 * r + 7 = 180 + 17 * r by omega]
            show some (q_abs s.2.1 t r rt (180 + 17 * r)) = _
            rw [q_abs_out hl12 (by omega) (by omega), et]
          have in11 : F_Model_in2 (o + 548) (Int32.ofNat t) 11 (z_wI N9 (o + 548 + 1) (184 + 17 * r) 1) = some (Int32.ofNat (rt.filter (g_no (2 * r))).length) := by
            rw [m_in2L (kl := 11) m11' 11 (by omega) (by omega) rfl, show 13 + 40 * t + 11 = 24 + 40 * t by omega]
            show some (q_abs s.2.1 t r rt (24 + 40 * t)) = _
            unfold q_abs q_setL
            rw [q_w_ne (by omega), q_w_same]
          refine m_ok (N' := z_wI N9 (o + 548 + 1) (184 + 17 * r) 1) (b := Int32.ofNat (rt.filter (g_no (2 * r))).length) ?_ rfl m11' ?_ (q8.tr (fun a ha => ⟨?_, ?_⟩))
          · rw [hp]
            unfold F_Model_absent
            simp only [zl]
            rw [zb2_ok ((mt N hN _).2 gr), if_pos rfl, zb_ok (of0 _ hN0), if_pos h0, zb_ok (of11 _ hN0), if_neg (by rw [hab]; decide), zb_ok f8, zb_ok of78, e2r0, zb_ok f9, zb_ok (m_sets (kl := 11) (k := 11) (by omega) (by omega) rfl), show 173 + 17 * r + 11 = 184 + 17 * r by omega, zb_ok of711, zb_ok in11]
          · rw [w_addr _ (by omega), n9 _ (by omega), n8 0 (by decide), w_same]
          · unfold q_inC at ha
            rw [← n9 a (by omega)]
            exact funext fun k => w_addr k (by omega)
          · rw [← n9']
            rfl)
        exact ⟨M', _, e, g1, g2, hI2⟩
      · obtain ⟨M', e, g1, g2⟩ := k_absent (S := S) (c := c) (y := .ok (-2)) (s' := s) q_c1n hm h1 (l_of (c_ok (M' := M) (by
          rw [hp]
          unfold F_Sys_absent
          simp only [zxm, zb, (ct _).2 r hr rfl]
          rw [x0, if_pos h0, x13, if_neg (by rw [hab]; decide)]) hc q_C.rfl') (fun e M1 he => by cases he)) (fun N hN => m_val hN (b := -2) rfl (by
          rw [hp]
          unfold F_Model_absent
          simp only [zl]
          rw [zb2_ok ((mt N hN _).2 gr), if_pos rfl, zb_ok (of0 _ (hN.thr 0)), if_pos h0, zb_ok (of11 _ (hN.thr 0)), if_pos hab]))
        exact ⟨M', s, e, g1, g2, hI⟩
    · obtain ⟨M', e, g1, g2⟩ := k_absent (S := S) (c := c) (y := .ok (-2)) (s' := s) q_c1n hm h1 (l_of (c_ok (M' := M) (by
        rw [hp]
        unfold F_Sys_absent
        simp only [zxm, zb, (ct _).2 r hr rfl]
        rw [x0, if_neg h0]) hc q_C.rfl') (fun e M1 he => by cases he)) (fun N hN => m_val hN (b := -2) rfl (by
        rw [hp]
        unfold F_Model_absent
        simp only [zl]
        rw [zb2_ok ((mt N hN _).2 gr), if_pos rfl, zb_ok (of0 _ (hN.thr 0)), if_neg h0]))
      exact ⟨M', s, e, g1, g2, hI⟩
  · obtain ⟨M', e, g1, g2⟩ := k_absent (S := S) (c := c) (y := .error 1) q_c1n hm h1 (l_of (c_thr hc (by
      rw [hp]
      unfold F_Sys_absent
      simp only [zxm, zb, (ct _).1 hb])) (fun e M1 he => by cases he; rfl)) (fun N hN => m_err hN (b := 0) (v := 1) rfl (by
      rw [hp]
      unfold F_Model_absent
      simp only [zl]
      rw [zb2_ok ((mt N hN _).1 hb)]
      rfl))
    exact ⟨M', s, e, g1, g2, hI⟩
