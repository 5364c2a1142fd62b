/-! ===== PURE: advance ===== -/
def s_close (A : q_R) (till : Int32) : Nat → q_R
  | 0 => A
  | i + 1 => if (s_close A till i) (173 + 17 * i) = 0 ∧ ¬ till ≤ (s_close A till i) (189 + 17 * i) then q_w (s_close A till i) (173 + 17 * i) 4 else s_close A till i
theorem s_close_inv {s : q_S} {till : Int32} (h : q_Inv s) : ∀ i, i ≤ q_N s.2.1 → q_Inv (q_row s (s_close s.2.1 till i)) ∧ q_N (s_close s.2.1 till i) = q_N s.2.1 ∧ s_close s.2.1 till i 0 = s.2.1 0 := by
  intro i
  induction i with
  | zero => exact fun _ => ⟨h, rfl, rfl⟩
  | succ i ih =>
    intro hi
    obtain ⟨i1, i2, i3⟩ := ih (by omega)
    show q_Inv (q_row s (if _ then _ else _)) ∧ q_N (if _ then _ else _) = _ ∧ (if _ then _ else _ : q_R) 0 = _
    by_cases hc : (s_close s.2.1 till i) (173 + 17 * i) = 0 ∧ ¬ till ≤ (s_close s.2.1 till i) (189 + 17 * i)
    · rw [if_pos hc]
      refine ⟨?_, by rw [q_N_w (by omega)]; exact i2, by rw [q_w_ne (by omega)]; exact i3⟩
      exact i1.close (by show i < q_N (s_close s.2.1 till i); rw [i2]; omega) (by
        show ¬ (s_close s.2.1 till i (173 + 17 * i) = 1 ∨ s_close s.2.1 till i (173 + 17 * i) = 2)
        rw [hc.1]
        decide) (by decide)
    · rw [if_neg hc]
      exact ⟨i1, i2, i3⟩
theorem c_close_L {o : Nat} {s : q_S} {till : Int32} (hI : q_Inv s) (h0 : s.2.1 0 = till) : ∀ (k i f : Nat) (N : z_Mem), i + k = q_N s.2.1 → k < f → c_all o N (q_row s (s_close s.2.1 till i)) → ∃ N', F_Traffic_closeOffers_L2 o f (Int32.ofNat i) N = some N' ∧ c_all o N' (q_row s (s_close s.2.1 till (q_N s.2.1))) ∧ c_go o N N' := by
  have hN := hI.1.I.rides24
  intro k
  induction k with
  | zero =>
    intro i f N hi hf hc
    obtain ⟨f, rfl⟩ : ∃ g, f = g + 1 := ⟨f - 1, by omega⟩
    have hi' : i = q_N s.2.1 := by omega
    subst hi'
    obtain ⟨j1, j2, j3⟩ := s_close_inv (till := till) hI (q_N s.2.1) (Nat.le_refl _)
    have r4 : N.1 (o + 5) 4 = Int32.ofNat (q_N s.2.1) := by
      refine hc.2.1.2.2.2.2.2.1.trans (j1.1.I.rides.trans ?_)
      exact congrArg Int32.ofNat j2
    unfold F_Traffic_closeOffers_L2 F_Traffic_closeOffers_B2
    rw [r4, if_pos ((i_le (by omega) (by omega)).mpr (Nat.le_refl _))]
    exact ⟨N, rfl, hc, c_go.rfl'⟩
  | succ k ih =>
    intro i f N hi hf hc
    obtain ⟨f, rfl⟩ : ∃ g, f = g + 1 := ⟨f - 1, by omega⟩
    have hiN : i < q_N s.2.1 := by omega
    obtain ⟨j1, j2, j3⟩ := s_close_inv (till := till) hI i (by omega)
    have r4 : N.1 (o + 5) 4 = Int32.ofNat (q_N s.2.1) := by
      refine hc.2.1.2.2.2.2.2.1.trans (j1.1.I.rides.trans ?_)
      exact congrArg Int32.ofNat j2
    have r0 : N.1 (o + 5) 0 = till := hc.2.1.2.1.trans (j3.trans h0)
    have hiN' : i < q_N (s_close s.2.1 till i) := by rw [j2]; exact hiN
    obtain ⟨x0, -, -, -, -, -, -, -, -, -, -, -, -, -, -, x18⟩ := hc.2.1.2.2.2.2.2.2.2.2 i hiN'
    have ci : (Int32.ofNat i).toNatClampNeg = i := i_cl (by omega)
    have estep : s_close s.2.1 till (i + 1) = if (s_close s.2.1 till i) (173 + 17 * i) = 0 ∧ ¬ till ≤ (s_close s.2.1 till i) (189 + 17 * i) then q_w (s_close s.2.1 till i) (173 + 17 * i) 4 else s_close s.2.1 till i := rfl
    have x0' : N.1 (o + 5 + 16 + i) 0 = s_close s.2.1 till i (173 + 17 * i) := x0
    have x18' : N.1 (o + 5 + 16 + i) 18 = s_close s.2.1 till i (189 + 17 * i) := x18
    unfold F_Traffic_closeOffers_L2 F_Traffic_closeOffers_B2
    rw [r4, if_neg (i_nle (by omega) (by omega) hiN), if_neg (i_nle24 (by omega)), if_pos ((i_inb (by omega)).mpr (by omega)), ci]
    simp only [zl, Nat.one_mul]
    rw [x0', r0, x18', i_succ]
    by_cases h1 : s_close s.2.1 till i (173 + 17 * i) = 0
    · rw [if_pos h1]
      by_cases h2 : till ≤ s_close s.2.1 till i (189 + 17 * i)
      · rw [if_pos h2]
        rw [if_neg (fun q => q.2 h2)] at estep
        rw [← estep] at hc
        exact ih (i + 1) f N (by omega) (by omega) hc
      · rw [if_neg h2]
        rw [if_pos ⟨h1, h2⟩] at estep
        have c2 := hc.wr (r := i) (k := 0) (v := 4) hiN' (Or.inr ⟨rfl, by decide⟩)
        have c2' : c_all o (z_wI N (o + 5 + 16 + i) 0 4) (q_row s (s_close s.2.1 till (i + 1))) := by rw [estep]; exact c2
        obtain ⟨N', e, g1, g2⟩ := ih (i + 1) f _ (by omega) (by omega) c2'
        exact ⟨N', e, g1, c_go.tr ⟨fun x hx => funext fun j => w_addr j (by omega), rfl⟩ g2⟩
    · rw [if_neg h1]
      rw [if_neg (fun q => h1 q.1)] at estep
      rw [← estep] at hc
      exact ih (i + 1) f N (by omega) (by omega) hc
theorem m_close_L {m : Nat} {s : q_S} {till v3 : Int32} (hI : q_Inv s) : ∀ (k i f : Nat) (N : z_Mem), i + k = q_N s.2.1 → k < f → m_all m N (q_row s (s_close s.2.1 till i)) → ∃ N', F_Model_advance_L87 m f till v3 (Int32.ofNat i) N = some (v3, N') ∧ m_all m N' (q_row s (s_close s.2.1 till (q_N s.2.1))) ∧ m_go m N N' := by
  have hN := hI.1.I.rides24
  have hz1 : z_inb (1 : Int32) 581 := by decide
  intro k
  induction k with
  | zero =>
    intro i f N hi hf hm
    obtain ⟨f, rfl⟩ : ∃ g, f = g + 1 := ⟨f - 1, by omega⟩
    have hi' : i = q_N s.2.1 := by omega
    subst hi'
    obtain ⟨j1, j2, j3⟩ := s_close_inv (till := till) hI (q_N s.2.1) (Nat.le_refl _)
    have r4 : N.1 (m + 1) (1 : Int32).toNatClampNeg = Int32.ofNat (q_N s.2.1) := (m_rides j1.1.I hm).trans (congrArg Int32.ofNat j2)
    unfold F_Model_advance_L87 F_Model_advance_B87
    rw [if_pos hz1, r4, if_pos ((i_le (by omega) (by omega)).mpr (Nat.le_refl _))]
    exact ⟨N, rfl, hm, m_go.rfl'⟩
  | succ k ih =>
    intro i f N hi hf hm
    obtain ⟨f, rfl⟩ : ∃ g, f = g + 1 := ⟨f - 1, by omega⟩
    have hiN : i < q_N s.2.1 := by omega
    obtain ⟨j1, j2, j3⟩ := s_close_inv (till := till) hI i (by omega)
    have r4 : N.1 (m + 1) (1 : Int32).toNatClampNeg = Int32.ofNat (q_N s.2.1) := (m_rides j1.1.I hm).trans (congrArg Int32.ofNat j2)
    have of0 : F_Model_of m (Int32.ofNat i) 0 N = some (s_close s.2.1 till i (173 + 17 * i)) := m_ofL (kl := 0) hm 0 (by omega) (by omega) rfl
    have of16 : F_Model_of m (Int32.ofNat i) 16 N = some (s_close s.2.1 till i (189 + 17 * i)) := by
      rw [m_ofL (kl := 16) hm 16 (by omega) (by omega) rfl, show 173 + 17 * i + 16 = 189 + 17 * i by omega]
      rfl
    have estep : s_close s.2.1 till (i + 1) = if (s_close s.2.1 till i) (173 + 17 * i) = 0 ∧ ¬ till ≤ (s_close s.2.1 till i) (189 + 17 * i) then q_w (s_close s.2.1 till i) (173 + 17 * i) 4 else s_close s.2.1 till i := rfl
    unfold F_Model_advance_L87 F_Model_advance_B87
    rw [if_pos hz1, r4, if_neg (i_nle (by omega) (by omega) hiN), zb_ok of0]
    by_cases h1 : s_close s.2.1 till i (173 + 17 * i) = 0
    · rw [if_pos h1, zb_ok of16]
      by_cases h2 : till ≤ s_close s.2.1 till i (189 + 17 * i)
      · rw [if_pos h2, i_succ]
        rw [if_neg (fun q => q.2 h2)] at estep
        rw [← estep] at hm
        exact ih (i + 1) f N (by omega) (by omega) hm
      · rw [if_neg h2, zb_ok (m_sets (kl := 0) (k := 0) (by omega) (by omega) rfl), show 173 + 17 * i + 0 = 173 + 17 * i from rfl, i_succ]
        rw [if_pos ⟨h1, h2⟩] at estep
        have m2 := hm.w (k := 173 + 17 * i) (v := 4)
        have m2' : m_all m (z_wI N (m + 1) (173 + 17 * i) 4) (q_row s (s_close s.2.1 till (i + 1))) := by rw [estep]; exact m2
        obtain ⟨N', e, g1, g2⟩ := ih (i + 1) f _ (by omega) (by omega) m2'
        exact ⟨N', e, g1, (m_go.one (fun x hx => funext fun j => w_addr j hx) rfl).tr g2⟩
    · rw [if_neg h1, i_succ]
      rw [if_neg (fun q => h1 q.1)] at estep
      rw [← estep] at hm
      exact ih (i + 1) f N (by omega) (by omega) hm
theorem q_Inv.now {s : q_S} {v : Int32} (h : q_Inv s) : q_Inv (q_up s 0 v) := h.up (by omega) (fun t ht => by omega) (fun r hr j hj => by omega) (h.1.2.1.2.1.w (by omega) (by omega))
theorem a_pass {o : Nat} {till : Int32} : ∀ (k i : Nat) (s : q_S), i + k = q_T s.1 → q_Inv s → ∀ (f : Nat) (M : z_Mem) (v3 : Int32), k < f → c_all o M s →
    ∃ s' v, (∃ M', F_Traffic_passMinutes_L15 o f till v3 (Int32.ofNat i) M = some (v, M') ∧ c_all o M' s' ∧ c_go o M M') ∧ q_Inv s' ∧ ∀ (N : z_Mem) (g : Nat), k < g → m_all (o + 548) N s → ∃ N', F_Model_advance_L52 (o + 548) g till v3 (Int32.ofNat i) N = some (v, N') ∧ m_all (o + 548) N' s' ∧ m_go (o + 548) N N' := by
  intro k
  induction k with
  | zero =>
    intro i s hi hI f M v3 hf hc
    obtain ⟨f, rfl⟩ : ∃ g, f = g + 1 := ⟨f - 1, by omega⟩
    have hT4 := hI.1.I.taxis4
    have hi' : i = q_T s.1 := by omega
    subst hi'
    have hN := hI.1.I.rides24
    have c2 := hc.wd (k := 0) (v := till) (Or.inl rfl)
    have hI2 := hI.now (v := till)
    have eN : q_N (q_up s 0 till).2.1 = q_N s.2.1 := q_N_w (by omega)
    have h00 : (q_up s 0 till).2.1 0 = till := q_w_same s.2.1 0 till
    obtain ⟨M', e, c', g'⟩ := c_close_L (o := o) (till := till) hI2 h00 (q_N (q_up s 0 till).2.1) 0 10000 _ (by omega) (by omega) c2
    obtain ⟨hI3, -⟩ := s_close_inv (till := till) hI2 (q_N (q_up s 0 till).2.1) (Nat.le_refl _)
    refine ⟨_, v3, ⟨M', ?_, c', c_go.tr ⟨fun x hx => funext fun j => w_addr j (by omega), rfl⟩ g'⟩, hI3, fun N g hg hm => ?_⟩
    · have r3 : M.1 (o + 5) 3 = Int32.ofNat (q_T s.1) := hc.2.1.2.2.2.2.1.trans hI.1.I.taxis
      unfold F_Traffic_passMinutes_L15 F_Traffic_passMinutes_B15 F_Traffic_passMinutes_J57 F_Traffic_closeOffers
      rw [r3, if_pos ((i_le (by omega) (by omega)).mpr (Nat.le_refl _))]
      simp only [zl]
      rw [i_0, zb_ok e]
    · obtain ⟨g, rfl⟩ : ∃ g', g = g' + 1 := ⟨g - 1, by omega⟩
      have m2 := hm.w (k := 0) (v := till)
      obtain ⟨N', e2, m', h'⟩ := m_close_L (m := o + 548) (till := till) (v3 := v3) hI2 (q_N (q_up s 0 till).2.1) 0 10000 _ (by omega) (by omega) m2
      have hz0 : z_inb (0 : Int32) 581 := by decide
      refine ⟨N', ?_, m', (m_go.one (fun x hx => funext fun j => w_addr j hx) rfl).tr h'⟩
      unfold F_Model_advance_L52 F_Model_advance_B52
      rw [m_taxis hI.1.I hm, if_pos ((i_le (by omega) (by omega)).mpr (Nat.le_refl _)), if_pos hz0]
      simp only [zl]
      rw [show (0 : Int32).toNatClampNeg = 0 from rfl, i_0]
      exact e2
  | succ k ih =>
    intro i s hi hI f M v3 hf hc
    obtain ⟨f, rfl⟩ : ∃ g, f = g + 1 := ⟨f - 1, by omega⟩
    have hT4 := hI.1.I.taxis4
    have hiT : i < q_T s.1 := by omega
    obtain ⟨n, rt, pt, hn, en, hL⟩ := hI.1.L hiT
    obtain ⟨s1, v1, ⟨M1, e1, c1, g1⟩, ⟨hI1, hs1, hs2⟩, hM1⟩ := a_drive (o := o) (till := till) hn rt.length s rt pt rfl hI hiT en hL 0 10000 M 0 (by have := hL.1.2.1; omega) (by have := hL.1.2.1; omega) hc
    obtain ⟨s', v, ⟨M', e2, c2, g2⟩, hI2, hM2⟩ := ih (i + 1) s1 (by rw [hs1]; omega) hI1 f M1 (v3 + v1) (by omega) c1
    refine ⟨s', v, ⟨M', ?_, c2, g1.tr g2⟩, hI2, fun N g hg hm => ?_⟩
    · have r3 : M.1 (o + 5) 3 = Int32.ofNat (q_T s.1) := hc.2.1.2.2.2.2.1.trans hI.1.I.taxis
      have ci : (Int32.ofNat i).toNatClampNeg = i := i_cl (by omega)
      have ed : F_Traffic_driveTill o (o + 5 + 4 + 3 * i) till M = some (v1, M1) := e1
      unfold F_Traffic_passMinutes_L15 F_Traffic_passMinutes_B15
      rw [r3, if_neg (i_nle (by omega) (by omega) hiT), if_neg (show ¬ (4 : Int32) ≤ Int32.ofNat i from i_nle (a := 4) (by decide) (by omega) (by omega)), if_pos ((i_inb (by omega)).mpr (by omega)), ci]
      simp only [zl]
      rw [zb2_ok ed, i_succ]
      exact e2
    · obtain ⟨g, rfl⟩ : ∃ g', g = g' + 1 := ⟨g - 1, by omega⟩
      obtain ⟨N1, f1, m1, h1⟩ := hM1 N 10000 (by have := hL.1.2.1; omega) hm
      obtain ⟨N', f2, m2, h2⟩ := hM2 N1 g (by omega) m1
      refine ⟨N', ?_, m2, h1.tr h2⟩
      have ed : F_Model_goesOn (o + 548) (Int32.ofNat i) till N = some (v1, N1) := f1
      unfold F_Model_advance_L52 F_Model_advance_B52
      rw [m_taxis hI.1.I hm, if_neg (i_nle (by omega) (by omega) hiT), zb2_ok ed, i_succ]
      exact f2
theorem a_advance {o L : Nat} {S : Nat → Int32} {i : Int32} {M : z_Mem} {s : q_S} {c : z_Mem → Option (Int32 × z_Mem)} (hI : q_Inv s) (hc : c_all o M s) (hm : m_all (o + 548) M s) (h1 : z_inb (i + (1 : Int32)) L) : ∃ M' s', Fc_1653 o L S i M c = c M' ∧ c_all o M' s' ∧ m_all (o + 548) M' s' ∧ q_Inv s' := by
  generalize hp : S (i + 1).toNatClampNeg = p
  have hT4 := hI.1.I.taxis4
  have mr := fun (N : z_Mem) (f : Int32 → z_Mem → Option (Int32 × z_Mem)) => p_infx (o + 548) p 1 1440 1 N (lo := 1) (hi := 1440) (by decide) (by decide) f
  have hz0 : z_inb (0 : Int32) 581 := by decide
  by_cases hr : p < 1 ∨ (1440 : Int32) < p
  · obtain ⟨M', e, g1, g2⟩ := k_advance (S := S) (c := c) (y := .error 2) q_c1n hm h1 (l_of (c_thr hc (by
      rw [hp]
      unfold F_Sys_advance
      simp only [zxm, zb, (a_range_c p 1 1440 M).1 hr])) (g_two (fun e he => by cases he; rfl))) (fun N hN => m_err hN (b := 0) (v := 1) rfl (by
      rw [hp]
      unfold F_Model_advance
      simp only [zl]
      rw [mr, if_pos hr]
      rfl))
    exact ⟨M', s, e, g1, g2, hI⟩
  · have r0 : M.1 (o + 5) 0 = s.2.1 0 := hc.2.1.2.1
    have rN : ∀ N, m_all (o + 548) N s → N.1 (o + 548 + 1) (0 : Int32).toNatClampNeg = s.2.1 0 := fun N hN => m_at hN (k := 0) (by omega)
    by_cases hle : s.2.1 0 + p ≤ 9999
    · obtain ⟨M5, e5, c5, k5, -⟩ := a_note_c (o := o) hI.1.I hI.1.2.1.abs hc
      obtain ⟨s', v, ⟨M', e6, c6, g6⟩, hI6, hM⟩ := a_pass (o := o) (till := s.2.1 0 + p) (q_T s.1) 0 (q_noted s) (by show 0 + q_T s.1 = q_T s.1; omega) hI.noted 10000 M5 0 (by omega) c5
      obtain ⟨M2, e, g1, g2⟩ := k_advance (S := S) (c := c) (y := .ok v) (s' := s') q_c1n hm h1 (l_of (c_ok (M' := M') (by
        have r5 : M5.1 (o + 5) 0 = s.2.1 0 := c5.2.1.2.1
        rw [hp]
        unfold F_Sys_advance
        simp only [zxm, zb, (a_range_c p 1 1440 M).2 hr]
        rw [r0, if_pos hle, e5]
        simp only
        have ep : F_Traffic_passMinutes o p M5 = some (v, M') := by
          unfold F_Traffic_passMinutes
          rw [r5]
          exact e6
        rw [zb2_ok ep]) c6 (k5.tr g6.C)) (fun e M1 he => by cases he)) (fun N hN => by
        have hN0 := hN.thr 0
        obtain ⟨N5, f5, m5, q5, n5, -⟩ := a_note_m hN0
        obtain ⟨N', f6, m6, h6⟩ := hM N5 10000 (by omega) m5
        refine m_ok (N' := N') (b := v) ?_ rfl m6 (by rw [h6.2.1 0 (by decide), n5 0 (by decide), w_same]) (q5.tr h6.M)
        rw [hp]
        unfold F_Model_advance
        simp only [zl]
        rw [mr, if_neg hr, if_pos rfl, if_pos hz0, rN _ hN0, if_pos hle, zb_ok f5]
        exact f6)
      exact ⟨M2, s', e, g1, g2, hI6⟩
    · obtain ⟨M', e, g1, g2⟩ := k_advance (S := S) (c := c) (y := .ok (-2)) (s' := s) q_c1n hm h1 (l_of (c_ok (M' := M) (by
        rw [hp]
        unfold F_Sys_advance
        simp only [zxm, zb, (a_range_c p 1 1440 M).2 hr]
        rw [r0, if_neg hle]) hc q_C.rfl') (fun e M1 he => by cases he)) (fun N hN => m_val hN (b := -2) rfl (by
        rw [hp]
        unfold F_Model_advance
        simp only [zl]
        rw [mr, if_neg hr, if_pos rfl, if_pos hz0, rN _ (hN.thr 0), if_neg hle]))
      exact ⟨M', s, e, g1, g2, hI⟩
