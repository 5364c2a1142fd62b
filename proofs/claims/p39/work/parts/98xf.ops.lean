/-! ===== PURE: tip, absent, accept ===== -/
theorem i_X.row {s : q_S} {w n : Nat} {A' : q_R} (h : i_X w n s) (h0 : A' 0 = s.2.1 0) (h4 : A' 4 = s.2.1 4) (h6 : A' 6 = s.2.1 6) (hN : q_N A' = q_N s.2.1) (hR : ∀ r, r < q_N s.2.1 → i_R s.2.1 r → i_R A' r) (hT : ∀ t, t < q_T s.1 → i_S s.1 s.2.1 t ∧ i_D n s.2.1 t ∧ i_W s.2.1 t → i_S s.1 A' t ∧ i_D n A' t ∧ i_W A' t) : i_X w n (q_row s A') := by
  obtain ⟨⟨a, ha, ea⟩, ⟨b, hb, eb⟩, ⟨c, hc, ec⟩, hxR, hxT⟩ := h
  refine ⟨⟨a, ha, h0.trans ea⟩, ⟨b, hb, h4.trans eb⟩, ⟨c, hc, h6.trans ec⟩, fun r hr => ?_, fun t ht => hT t ht (hxT t ht)⟩
  have hr : r < q_N A' := hr
  rw [hN] at hr
  exact hR r hr (hxR r hr)
theorem i_S.tip {c A : q_R} {t u : Nat} {q : Int32} (ht : t < 4) (hu : u < 4) (h : i_S c A u) : i_S c (q_w (q_w A (18 + 40 * t) (A (18 + 40 * t) + q)) (19 + 40 * t) (A (19 + 40 * t) + q)) u := by
  have o : ∀ j, j ≠ 18 + 40 * t → j ≠ 19 + 40 * t → q_w (q_w A (18 + 40 * t) (A (18 + 40 * t) + q)) (19 + 40 * t) (A (19 + 40 * t) + q) j = A j := fun j h1 h2 => (q_w_ne h2).trans (q_w_ne h1)
  by_cases htu : u = t
  · subst htu
    have hN : q_N (q_w (q_w A (18 + 40 * u) (A (18 + 40 * u) + q)) (19 + 40 * u) (A (19 + 40 * u) + q)) = q_N A := by
      unfold q_N
      rw [o 1 (by omega) (by omega)]
    have e18 : q_w (q_w A (18 + 40 * u) (A (18 + 40 * u) + q)) (19 + 40 * u) (A (19 + 40 * u) + q) (18 + 40 * u) = A (18 + 40 * u) + q := (q_w_ne (by omega)).trans (q_w_same _ _ _)
    have e19 : q_w (q_w A (18 + 40 * u) (A (18 + 40 * u) + q)) (19 + 40 * u) (A (19 + 40 * u) + q) (19 + 40 * u) = A (19 + 40 * u) + q := q_w_same _ _ _
    have e23 := o (23 + 40 * u) (by omega) (by omega)
    generalize hB : q_w (q_w A (18 + 40 * u) (A (18 + 40 * u) + q)) (19 + 40 * u) (A (19 + 40 * u) + q) = B at o hN e18 e19 e23 ⊢
    have eP : k_sum (i_P B u) (q_N A) = k_sum (i_P A u) (q_N A) := k_sum_eq _ (fun r hr => by
      unfold i_P
      rw [o _ (by omega) (by omega), o _ (by omega) (by omega)])
    have eF : k_sum (i_F (c 67) B u) (q_N A) = k_sum (i_F (c 67) A u) (q_N A) := k_sum_eq _ (fun r hr => by
      unfold i_F
      rw [o (180 + 17 * r) (by omega) (by omega), o (173 + 17 * r) (by omega) (by omega)])
    have eE : k_sum (i_E B u) (q_N A) = k_sum (i_E A u) (q_N A) := k_sum_eq _ (fun r hr => by
      unfold i_E
      rw [o (180 + 17 * r) (by omega) (by omega), o (173 + 17 * r) (by omega) (by omega), o 7 (by omega) (by omega)])
    unfold i_S
    rw [hN, eP, eF, eE, e18, e19, e23]
    refine ⟨?_, h.2⟩
    rw [← h.1]
    ac_rfl
  · exact h.same rfl (by unfold q_N; rw [o 1 (by omega) (by omega)]) (o 7 (by omega) (by omega)) (fun j hj => o _ (by omega) (by omega)) (fun r hr => ⟨o _ (by omega) (by omega), o _ (by omega) (by omega), o _ (by omega) (by omega)⟩)
theorem d_tip {o t w n : Nat} {q : Nat} {s : q_S} {M : z_Mem} (hI : q_Inv s) (hX : i_X w n s) (ht : t < q_T s.1) (h1 : 1 ≤ q) (h2 : q ≤ 2000000000) (hc : c_all o M s) :
    ∃ s' v M', F_Sys_tip o (Int32.ofNat t) (Int32.ofNat q) M = some (v, M') ∧ c_all o M' s' ∧ i_lo o M M' ∧ q_Inv s' ∧ i_kp s s' ∧ i_X w n s' := by
  have hT := hI.1.I.taxis4
  have x11 := (hc.2.1.2.2.2.2.2.2.2.1 t ht).2.2.2.2.2.2.2.2.2.1
  have er : F_Sys_checkRange (Int32.ofNat q) 1 2000000000 M = some () := e_rangeN (p := q) (lo := 1) (hi := 2000000000) M (by omega) (by decide) (by decide) h1 h2
  by_cases hle : s.2.1 (18 + 40 * t) ≤ 2000000000 - Int32.ofNat q
  · obtain ⟨M5, e5, c5, k5, l5⟩ := a_note_c (o := o) hI.1.I hI.1.2.1.abs hc
    have c6 : c_all o (z_wI M5 (o + 5 + 4 + 3 * t) 11 (s.2.1 (18 + 40 * t) + Int32.ofNat q)) (q_up (q_noted s) (18 + 40 * t) (s.2.1 (18 + 40 * t) + Int32.ofNat q)) := c5.wt ht hT (idx := 18) (by unfold q_tmap; omega)
    have c7 : c_all o (z_wI (z_wI M5 (o + 5 + 4 + 3 * t) 11 (s.2.1 (18 + 40 * t) + Int32.ofNat q)) (o + 5 + 4 + 3 * t) 12 (s.2.1 (19 + 40 * t) + Int32.ofNat q)) (q_up (q_up (q_noted s) (18 + 40 * t) (s.2.1 (18 + 40 * t) + Int32.ofNat q)) (19 + 40 * t) (s.2.1 (19 + 40 * t) + Int32.ofNat q)) := c6.wt ht hT (idx := 19) (by unfold q_tmap; omega)
    have r11 : M5.1 (o + 5 + 4 + 3 * t) 11 = s.2.1 (18 + 40 * t) := (c5.2.1.2.2.2.2.2.2.2.1 t ht).2.2.2.2.2.2.2.2.2.1
    have r12 : M5.1 (o + 5 + 4 + 3 * t) 12 = s.2.1 (19 + 40 * t) := (c5.2.1.2.2.2.2.2.2.2.1 t ht).2.2.2.2.2.2.2.2.2.2.1
    have hI2 : q_Inv (q_up (q_up (q_noted s) (18 + 40 * t) (s.2.1 (18 + 40 * t) + Int32.ofNat q)) (19 + 40 * t) (s.2.1 (19 + 40 * t) + Int32.ofNat q)) := (hI.noted.upT (by omega) (by omega)).upT (by omega) (by omega)
    have qo : ∀ j, j ≠ 18 + 40 * t → j ≠ 19 + 40 * t → q_w (q_w s.2.1 (18 + 40 * t) (s.2.1 (18 + 40 * t) + Int32.ofNat q)) (19 + 40 * t) (s.2.1 (19 + 40 * t) + Int32.ofNat q) j = s.2.1 j := fun j h1 h2 => (q_w_ne h2).trans (q_w_ne h1)
    refine ⟨_, s.2.1 (18 + 40 * t) + Int32.ofNat q, _, ?_, c7, fun y hy => ?_, hI2, ⟨rfl, qo 1 (by omega) (by omega), qo 7 (by omega) (by omega)⟩, ?_⟩
    · unfold F_Sys_tip
      rw [zb_ok (e_taxi hI.1.I hc ht), zb_ok er, x11, if_pos hle, zb_ok e5]
      simp only [zl]
      rw [r11, w_slot _ (show (12 : Nat) ≠ 11 by decide), r12, w_slot _ (show (11 : Nat) ≠ 12 by decide), w_same]
    · exact (funext fun j => (w_addr _ (by omega)).trans (w_addr _ (by omega))).trans (l5 y (by omega))
    · refine (i_noted hX).row (A' := q_w (q_w s.2.1 (18 + 40 * t) (s.2.1 (18 + 40 * t) + Int32.ofNat q)) (19 + 40 * t) (s.2.1 (19 + 40 * t) + Int32.ofNat q)) (qo 0 (by omega) (by omega)) (qo 4 (by omega) (by omega)) (qo 6 (by omega) (by omega)) (by unfold q_N; rw [qo 1 (by omega) (by omega)]; rfl) (fun r hr h => h.same (fun u hu => qo _ (by omega) (by omega)) (fun j hj => qo _ (by omega) (by omega))) (fun u hu h => ⟨h.1.tip (by omega) (by have hu : u < q_T s.1 := hu; omega), h.2.1.same (fun j g1 g2 => qo _ (by omega) (by omega)), h.2.2.same (qo _ (by omega) (by omega)) (qo _ (by omega) (by omega))⟩)
  · refine ⟨s, -5, M, ?_, hc, fun _ _ => rfl, hI, i_kp.rfl', hX⟩
    unfold F_Sys_tip
    rw [zb_ok (e_taxi hI.1.I hc ht), zb_ok er, x11, if_neg hle]
theorem d_absent {o r w n : Nat} {s : q_S} {M : z_Mem} (hI : q_Inv s) (hX : i_X w n s) (hr : r < q_N s.2.1) (hc : c_all o M s) :
    ∃ s' v M', F_Sys_absent o (Int32.ofNat r) M = some (v, M') ∧ c_all o M' s' ∧ i_lo o M M' ∧ q_Inv s' ∧ i_kp s s' ∧ i_X w n s' := by
  have hN24 := hI.1.I.rides24
  have hT4 := hI.1.I.taxis4
  obtain ⟨x0, -, -, -, -, -, -, -, -, x9, -, -, -, x13, -⟩ := hc.2.1.2.2.2.2.2.2.2.2 r hr
  by_cases h0 : s.2.1 (173 + 17 * r) = 1
  · rcases hI.1.2.1.abs r hr with hab | hab
    · obtain ⟨t, ht, et⟩ := (hI.1.2.1.2.2.1 r hr).2.2 (Or.inl h0)
      obtain ⟨m, rt, pt, hm, en, hL⟩ := hI.1.L ht
      have hl12 := hL.1.2.1
      rw [et] at x9
      have hz4 : z_inb (Int32.ofNat t) 4 := (i_inb (by omega)).mpr (by omega)
      have ctt : (Int32.ofNat t).toNatClampNeg = t := i_cl (by omega)
      obtain ⟨M8, e8, c8, k8, fr8⟩ := a_note_c (o := o) hI.1.I hI.1.2.1.abs hc
      have x98 : M8.1 (o + 5 + 16 + r) 9 = Int32.ofNat t := by
        obtain ⟨-, -, -, -, -, -, -, -, -, y9, -⟩ := c8.2.1.2.2.2.2.2.2.2.2 r hr
        exact y9.trans et
      have hst48 : ∀ x ∈ rt, x < 48 := fun x hx => by have := hL.1.2.2.1 x hx; omega
      have l1 := g_no_len (s := 2 * r) (L := rt)
      obtain ⟨h78, hl8⟩ := c_route c8 ht (show q_li (q_noted s).2.1 _ _ rt from hL.1.1) hl12
      obtain ⟨M10, e10, i1, i2, i3, i4, i5⟩ := c_remove (s := 2 * r) hl12 (by omega) hst48 h78 hl8
      have c10 := c8.rt (M' := M10) ht hT4 (by omega) i1 i2 i3 i4
      have hrN : r < q_N (q_setL s.2.1 (24 + 40 * t) (25 + 40 * t) (rt.filter (g_no (2 * r)))) := by
        unfold q_N
        rw [q_setL_out (by omega) (by omega)]
        exact hr
      have c13 := c10.wr (r := r) (k := 13) (v := 1) hrN (Or.inl (by omega))
      have c13' : c_all o (z_wI M10 (o + 5 + 16 + r) 13 1) (q_row (q_noted s) (q_abs s.2.1 t r rt)) := c13
      have hJ := hI.1.2.1.absent hI.1.1.2 hT4 ht hL hm en hr h0 et hab
      have eN : q_N (q_abs s.2.1 t r rt) = q_N s.2.1 := by unfold q_N; rw [q_abs_out hl12 (by omega) (by omega)]
      have hI2 : q_Inv (q_row (q_noted s) (q_abs s.2.1 t r rt)) := hI.noted.row hJ (fun u hu hu0 => by
        rw [eN] at hu
        rw [q_abs_out hl12 (by omega) (by omega)] at hu0
        by_cases hur : u = r
        · subst hur
          rw [h0] at hu0
          exact absurd hu0 (by decide)
        · rw [q_abs_out hl12 (by omega) (by omega), q_abs_out hl12 (by omega) (by omega)]
          exact hI.2.1 u hu hu0)
      refine ⟨_, Int32.ofNat (rt.filter (g_no (2 * r))).length, _, ?_, c13', fun y hy => ?_, hI2, ⟨rfl, q_abs_out hl12 (by omega) (by omega), q_abs_out hl12 (by omega) (by omega)⟩, ?_⟩
      · unfold F_Sys_absent
        rw [zb_ok (e_ride hI.1.I hc hr), x0, if_pos h0, x13, if_pos hab, x9, zb_ok (e_has hI.1.I hc ht), if_neg (by decide), zb_ok e8, x98, if_pos hz4, ctt]
        simp only [zl]
        rw [zb_ok (a_dropOf ..), zb_ok e10, w_addr _ (show o + 5 + 4 + 3 * t ≠ o + 5 + 16 + r by omega), i1]
      · exact (funext fun j => w_addr _ (by omega)).trans ((i4 y (by omega) (by omega)).trans (fr8 y (by omega)))
      · exact (i_noted hX).row (A' := q_abs s.2.1 t r rt) (q_abs_out hl12 (by omega) (by omega)) (q_abs_out hl12 (by omega) (by omega)) (q_abs_out hl12 (by omega) (by omega)) eN (fun u hu h => h.same (fun v hv => q_abs_out hl12 (by omega) (by omega)) (fun j hj => q_abs_out hl12 (by omega) (by omega))) (fun u hu h => by
          have hu : u < q_T s.1 := hu
          exact ⟨h.1.same rfl eN (q_abs_out hl12 (by omega) (by omega)) (fun j hj => q_abs_out hl12 (by omega) (by omega)) (fun v hv => ⟨q_abs_out hl12 (by omega) (by omega), q_abs_out hl12 (by omega) (by omega), q_abs_out hl12 (by omega) (by omega)⟩), h.2.1.same (fun j g1 g2 => q_abs_out hl12 (by omega) (by omega)), h.2.2.same (q_abs_out hl12 (by omega) (by omega)) (q_abs_out hl12 (by omega) (by omega))⟩)
    · refine ⟨s, -2, M, ?_, hc, fun _ _ => rfl, hI, i_kp.rfl', hX⟩
      unfold F_Sys_absent
      rw [zb_ok (e_ride hI.1.I hc hr), x0, if_pos h0, x13, if_neg (by rw [hab]; decide)]
  · refine ⟨s, -2, M, ?_, hc, fun _ _ => rfl, hI, i_kp.rfl', hX⟩
    unfold F_Sys_absent
    rw [zb_ok (e_ride hI.1.I hc hr), x0, if_neg h0]
theorem i_X.acc {s : q_S} {w n t r : Nat} {L : List Nat} (h : i_X w n s) (hT4 : q_T s.1 ≤ 4) (hN24 : q_N s.2.1 ≤ 24) (ht : t < 4) (hr : r < q_N s.2.1) (hl : L.length ≤ 12) (h0 : s.2.1 (173 + 17 * r) = 0) : i_X w n (q_row s (q_acc s.2.1 t r L)) := by
  have o : ∀ j, ¬ (24 + 40 * t ≤ j ∧ j < 37 + 40 * t) → j ≠ 173 + 17 * r → j ≠ 180 + 17 * r → q_acc s.2.1 t r L j = s.2.1 j := fun j h1 h2 h3 => q_acc_out hl h1 h2 h3
  have e173 : q_acc s.2.1 t r L (173 + 17 * r) = 1 := by
    unfold q_acc
    rw [q_w_ne (by omega), q_w_same]
  have e180 : q_acc s.2.1 t r L (180 + 17 * r) = Int32.ofNat t := by
    unfold q_acc
    rw [q_w_same]
  have hRr := h.2.2.2.1 r hr
  obtain ⟨g1, g2⟩ := hRr.2.2.1 h0
  have hN : q_N (q_acc s.2.1 t r L) = q_N s.2.1 := by unfold q_N; rw [o 1 (by omega) (by omega) (by omega)]
  generalize hB : q_acc s.2.1 t r L = B at o e173 e180 hN ⊢
  refine h.row (o 0 (by omega) (by omega) (by omega)) (o 4 (by omega) (by omega) (by omega)) (o 6 (by omega) (by omega) (by omega)) hN (fun u hu hR => ?_) (fun u hu hT => ?_)
  · by_cases hur : u = r
    · rw [hur] at hR ⊢
      obtain ⟨⟨x, hx, ex⟩, -⟩ := hR
      unfold i_R
      rw [e173, o (183 + 17 * r) (by omega) (by omega) (by omega)]
      exact ⟨⟨x, hx, (o _ (by omega) (by omega) (by omega)).trans ex⟩, ⟨1, by omega, rfl⟩, fun q => absurd q (by decide), fun _ => g2, fun q => absurd q (by decide), fun q => absurd q (by decide)⟩
    · exact hR.same (fun v hv => o _ (by omega) (by omega) (by omega)) (fun j hj => o _ (by omega) (by omega) (by omega))
  · have hne : ¬ (-1 : Int32) = Int32.ofNat u := fun q => by
      have h1 := congrArg Int32.toInt q
      rw [i_toInt (by omega)] at h1
      have : ((-1 : Int32)).toInt = -1 := by decide
      omega
    obtain ⟨⟨s1, s2⟩, b, c⟩ := hT
    have eP : k_sum (i_P B u) (q_N s.2.1) = k_sum (i_P s.2.1 u) (q_N s.2.1) := k_sum_eq _ (fun v hv => by
      unfold i_P
      rw [o (183 + 17 * v) (by omega) (by omega) (by omega)]
      by_cases hvr : v = r
      · rw [hvr, g1, if_neg hne, g2, ite_self]
      · rw [o (180 + 17 * v) (by omega) (by omega) (by omega)])
    have eF : k_sum (i_F (s.1 67) B u) (q_N s.2.1) = k_sum (i_F (s.1 67) s.2.1 u) (q_N s.2.1) := k_sum_eq _ (fun v hv => by
      unfold i_F
      by_cases hvr : v = r
      · rw [hvr, g1, if_neg hne, e173, if_neg (show ¬ (1 : Int32) = 2 by decide), if_neg (show ¬ (1 : Int32) = 3 by decide), ite_self]
      · rw [o (180 + 17 * v) (by omega) (by omega) (by omega), o (173 + 17 * v) (by omega) (by omega) (by omega)])
    have eE : k_sum (i_E B u) (q_N s.2.1) = k_sum (i_E s.2.1 u) (q_N s.2.1) := k_sum_eq _ (fun v hv => by
      unfold i_E
      by_cases hvr : v = r
      · rw [hvr, g1, if_neg hne, e173, if_neg (show ¬ (1 : Int32) = 5 by decide), ite_self]
      · rw [o (180 + 17 * v) (by omega) (by omega) (by omega), o (173 + 17 * v) (by omega) (by omega) (by omega), o 7 (by omega) (by omega) (by omega)])
    refine ⟨?_, b.same (fun j h1 h2 => o _ (by omega) (by omega) (by omega)), c.same (o _ (by omega) (by omega) (by omega)) (o _ (by omega) (by omega) (by omega))⟩
    unfold i_S
    rw [hN, eP, eF, eE, o (19 + 40 * u) (by omega) (by omega) (by omega), o (18 + 40 * u) (by omega) (by omega) (by omega), o (23 + 40 * u) (by omega) (by omega) (by omega)]
    exact ⟨s1, s2⟩
theorem d_accept {o r w n : Nat} {s : q_S} {M : z_Mem} (hI : q_Inv s) (hX : i_X w n s) (hr : r < q_N s.2.1) (hc : c_all o M s) :
    ∃ s' v M', F_Sys_accept o (Int32.ofNat r) M = some (v, M') ∧ c_all o M' s' ∧ i_lo o M M' ∧ q_Inv s' ∧ i_kp s s' ∧ i_X w n s' := by
  have hN24 := hI.1.I.rides24
  have hT4 := hI.1.I.taxis4
  obtain ⟨x0, -, -, -, -, -, -, -, -, -, -, -, -, -, xo, -⟩ := hc.2.1.2.2.2.2.2.2.2.2 r hr
  by_cases h0 : s.2.1 (173 + 17 * r) = 0
  · obtain ⟨⟨t, ht, et⟩, hab⟩ := hI.2.1 r hr h0
    obtain ⟨m, rt, pt, hm, en, hL⟩ := hI.1.L ht
    have x14 : M.1 (o + 5 + 16 + r) 14 = Int32.ofNat t := (xo h0).1.trans et
    obtain ⟨M6, v, e6, p6, b6⟩ := c_findBest (o := o) (r := r) hI.1 ht hL hr hc
    have hst := s_best_found (c := s.1) (A := s.2.1) (t := t) (r := r) (L := rt)
    have eht := e_has hI.1.I hc ht
    have hz4 : z_inb (Int32.ofNat t) 4 := (i_inb (by omega)).mpr (by omega)
    have ctt : (Int32.ofNat t).toNatClampNeg = t := i_cl (by omega)
    cases hbs : s_best s.1 s.2.1 t r rt with
    | none =>
      rw [hbs] at b6
      refine ⟨s, -3, M6, ?_, p6.all hc, fun y hy => p6.1 y (by omega), hI, i_kp.rfl', hX⟩
      unfold F_Sys_accept
      rw [zb_ok (e_ride hI.1.I hc hr), x0, if_pos h0, x14, zb_ok eht, if_neg (by decide), if_pos hz4, ctt]
      simp only [zl]
      rw [zb2_ok e6, if_pos (show v = 0 from b6)]
    | some f =>
      rw [hbs] at b6 hst
      obtain ⟨p, d, hf, hpd, hd, hleft, hok⟩ := hst.1 f rfl
      have h12 := hst.2 (by simp)
      obtain ⟨v1, w0, w1, w2, w3, w4⟩ := b6
      have w3 : M6.1 (o + 494) 3 = Int32.ofNat p := by rw [w3, hf]; rfl
      have w4 : M6.1 (o + 494) 4 = Int32.ofNat d := by rw [w4, hf]; rfl
      have hlen := g_ins_len (L := rt) (r := r) hpd hd
      obtain ⟨M8, e8, c8, k8, fr8⟩ := a_note_c (o := o) hI.1.I hI.1.2.1.abs (p6.all hc)
      have tx := c8.2.1.2.2.2.2.2.2.2.1 t ht
      have h7 := tx.2.2.2.2.2.2.2.1.trans hL.1.1.1
      obtain ⟨M10, M12, e10, e12, i1, i2, i3, i4, i5, i6, i7⟩ := c_ins2 (a := o + 5 + 4 + 3 * t) (r := r) h12 hpd hd h7 (fun j hj => (tx.2.2.2.2.2.2.2.2.2.2.2.2.2.2.2.1 j (by omega) (by
        show Int32.ofNat j < s.2.1 (24 + 40 * t)
        rw [hL.1.1.1]
        exact (i_lt (by omega) (by omega)).mpr hj)).trans (hL.1.1.2 j _ (g_l_get hj)))
      have c12 := c8.rt (M' := M12) ht hT4 (by omega) i3 i4 i5 i6
      have c13 := c12.wr (r := r) (k := 0) (v := 1) (by
        show r < q_N (q_setL s.2.1 (24 + 40 * t) (25 + 40 * t) (g_ins rt r p d))
        unfold q_N
        rw [q_setL_out (by omega) (by omega)]
        exact hr) (Or.inr ⟨rfl, by decide⟩)
      have x14' : (z_wI M12 (o + 5 + 16 + r) 0 1).1 (o + 5 + 16 + r) 14 = Int32.ofNat t := by
        obtain ⟨-, -, -, -, -, -, -, -, -, -, -, -, -, -, xo8, -⟩ := c8.2.1.2.2.2.2.2.2.2.2 r hr
        rw [w_slot _ (by decide), i6 _ (by omega) (by omega)]
        exact (xo8 h0).1.trans et
      have c14 := c13.wr (r := r) (k := 9) (v := Int32.ofNat t) (by
        show r < q_N (q_w (q_setL s.2.1 (24 + 40 * t) (25 + 40 * t) (g_ins rt r p d)) (173 + 17 * r) 1)
        unfold q_N
        rw [q_w_ne (by omega), q_setL_out (by omega) (by omega)]
        exact hr) (Or.inl (by omega))
      have c15 : c_all o (z_wI (z_wI M12 (o + 5 + 16 + r) 0 1) (o + 5 + 16 + r) 9 (Int32.ofNat t)) (q_row (q_noted s) (q_acc s.2.1 t r (g_ins rt r p d))) := c14
      have hJ := hI.1.2.1.accept hT4 ht hL hm en hr h0 hab hpd hd h12 hok
      have eN : q_N (q_acc s.2.1 t r (g_ins rt r p d)) = q_N s.2.1 := by unfold q_N; rw [q_acc_out (by omega) (by omega) (by omega) (by omega)]
      have hI2 : q_Inv (q_row (q_noted s) (q_acc s.2.1 t r (g_ins rt r p d))) := hI.noted.row hJ (fun u hu hu0 => by
        rw [eN] at hu
        by_cases hur : u = r
        · subst hur
          have : q_acc s.2.1 t u (g_ins rt u p d) (173 + 17 * u) = 1 := by
            unfold q_acc
            rw [q_w_ne (by omega), q_w_same]
          rw [this] at hu0
          exact absurd hu0 (by decide)
        · rw [q_acc_out (by omega) (by omega) (by omega) (by omega)] at hu0
          rw [q_acc_out (by omega) (by omega) (by omega) (by omega), q_acc_out (by omega) (by omega) (by omega) (by omega)]
          exact hI.2.1 u hu hu0)
      have epk : F_Desk_pickupOf (Int32.ofNat r) M8 = some (Int32.ofNat (2 * r + 1)) := by
        unfold F_Desk_pickupOf
        rw [show (2 : Int32) = Int32.ofNat 2 from rfl, show (1 : Int32) = Int32.ofNat 1 from rfl, i_mul, i_add, Nat.mul_comm]
      have edr : F_Desk_dropOf (Int32.ofNat r) M10 = some (Int32.ofNat (2 * r)) := by
        unfold F_Desk_dropOf
        rw [show (2 : Int32) = Int32.ofNat 2 from rfl, i_mul, Nat.mul_comm]
      have w3' : M8.1 (o + 494) 3 = Int32.ofNat p := by rw [fr8 _ (by omega), w3]
      have w4' : M10.1 (o + 494) 4 = Int32.ofNat d := by rw [i2 _ (by omega) (by omega), fr8 _ (by omega), w4]
      refine ⟨_, f.2.1, _, ?_, c15, fun y hy => ?_, hI2, ⟨rfl, q_acc_out (by omega) (by omega) (by omega) (by omega), q_acc_out (by omega) (by omega) (by omega) (by omega)⟩, (i_noted hX).acc hT4 hN24 (by omega) hr (by omega) h0⟩
      · unfold F_Sys_accept
        rw [zb_ok (e_ride hI.1.I hc hr), x0, if_pos h0, x14, zb_ok eht, if_neg (by decide), if_pos hz4, ctt]
        simp only [zl]
        rw [zb2_ok e6, if_neg (show ¬ v = 0 by rw [v1]; decide), zb_ok e8, zb_ok epk, w3', zb_ok e10, zb_ok edr, w4', zb_ok e12, x14', w_addr _ (show o + 494 ≠ o + 5 + 16 + r by omega), w_addr _ (show o + 494 ≠ o + 5 + 16 + r by omega), i6 _ (by omega) (by omega), fr8 _ (by omega), w1]
      · exact (funext fun j => (w_addr _ (by omega)).trans (w_addr _ (by omega))).trans ((i6 y (by omega) (by omega)).trans ((fr8 y (by omega)).trans (p6.1 y (by omega))))
  · refine ⟨s, -2, M, ?_, hc, fun _ _ => rfl, hI, i_kp.rfl', hX⟩
    unfold F_Sys_accept
    rw [zb_ok (e_ride hI.1.I hc hr), x0, if_neg h0]
