/-! ===== PURE: the first stop is done: the reference ===== -/
theorem f_amt_same {A A' : q_R} {w : Int32} {n : Nat} (h2 : A' 2 = A 2) (hd : ∀ k, 10 ≤ k → k < 13 → A' k = A k) : f_amt A' w n = f_amt A w n := by
  have e : f_disc A' n = f_disc A n := by
    unfold f_disc
    by_cases h : n < 2
    · rw [if_pos h, if_pos h]
    · rw [if_neg h, if_neg h]
      refine hd _ ?_ ?_ <;> split <;> omega
  unfold f_amt
  rw [h2, e]
theorem m_pays_L {m t : Nat} {s : q_S} {pt : List Nat} {amt : Int32} {C : q_R} (ht : t < 4) (h6 : pt.length ≤ 6) (hnd : pt.Nodup) (hm24 : ∀ u ∈ pt, u < 24) (hli : q_li C (37 + 40 * t) (38 + 40 * t) pt) : ∀ (j i f : Nat) (N : z_Mem), i + j = pt.length → j < f → m_all m N (q_row s (q_pd C amt pt.length pt i)) →
    ∃ N', F_Model_pays_L70 m f (Int32.ofNat t) (Int32.ofNat pt.length) amt (Int32.ofNat i) N = some N' ∧ m_all m N' (q_row s (q_pd C amt pt.length pt pt.length)) ∧ (∀ x, x ≠ m + 1 → N'.1 x = N.1 x) ∧ N'.2 = N.2 := by
  intro j
  induction j with
  | zero =>
    intro i f N hi hf hm
    obtain ⟨f, rfl⟩ : ∃ g, f = g + 1 := ⟨f - 1, by omega⟩
    have hi' : i = pt.length := by omega
    subst hi'
    unfold F_Model_pays_L70 F_Model_pays_B70
    rw [if_pos ((i_le (by omega) (by omega)).mpr (Nat.le_refl _))]
    exact ⟨N, rfl, hm, fun _ _ => rfl, rfl⟩
  | succ j ih =>
    intro i f N hi hf hm
    obtain ⟨f, rfl⟩ : ∃ g, f = g + 1 := ⟨f - 1, by omega⟩
    have hip : i < pt.length := by omega
    have hu := hm24 _ (g_l_mem hip)
    have in25 : F_Model_in2 m (Int32.ofNat t) (25 + Int32.ofNat i) N = some (Int32.ofNat (g_l pt i)) := by
      rw [m_in2L (kl := 25 + Int32.ofNat i) hm (25 + i) ht (by omega) (i_add 25 i), show 13 + 40 * t + (25 + i) = 38 + 40 * t + i by omega]
      show some (q_pd C amt pt.length pt i (38 + 40 * t + i)) = _
      rw [q_pd_out (Or.inl (by omega)), hli.2 i _ (g_l_get hip)]
    have of10 : F_Model_of m (Int32.ofNat (g_l pt i)) 10 N = some (C (183 + 17 * g_l pt i)) := by
      rw [m_ofL (kl := 10) hm 10 hu (by omega) rfl, show 173 + 17 * g_l pt i + 10 = 183 + 17 * g_l pt i by omega]
      show some (q_pd C amt pt.length pt i (183 + 17 * g_l pt i)) = _
      rw [q_pd_ride, if_neg (g_nodup_take hnd hip)]
    have m2 := hm.w (k := 183 + 17 * g_l pt i) (v := C (183 + 17 * g_l pt i) + f_part amt pt.length i)
    have erow : q_up (q_row s (q_pd C amt pt.length pt i)) (183 + 17 * g_l pt i) (C (183 + 17 * g_l pt i) + f_part amt pt.length i) = q_row s (q_pd C amt pt.length pt (i + 1)) := by
      show q_row s (q_w (q_pd C amt pt.length pt i) _ _) = _
      rw [q_pd_step hnd hip]
    rw [erow] at m2
    obtain ⟨N', e, g1, g2, g3⟩ := ih (i + 1) f _ (by omega) (by omega) m2
    unfold F_Model_pays_L70 F_Model_pays_B70
    rw [if_neg (i_nle (by omega) (by omega) hip), zb_ok in25, zb_ok of10, zb_ok (m_part (by omega) (by omega)), zb_ok (m_sets (kl := 10) (k := 10) hu (by omega) rfl), show 173 + 17 * g_l pt i + 10 = 183 + 17 * g_l pt i by omega, i_succ]
    exact ⟨N', e, g1, fun x hx => (g2 x hx).trans (funext fun k => w_addr k hx), g3⟩
theorem m_pays {m t : Nat} {s : q_S} {n : Nat} {rt pt : List Nat} {N : z_Mem} {w : Int32} (hI : q_In s) (ht : t < q_T s.1) (hL : q_taxiL s.1 s.2.1 t n rt pt) (hm : m_all m N s) : ∃ N', F_Model_pays m (Int32.ofNat t) w N = some N' ∧ m_all m N' (q_row s (q_py s.2.1 t w pt)) ∧ (∀ x, x ≠ m + 1 → N'.1 x = N.1 x) ∧ N'.2 = N.2 := by
  have hN24 := hI.I.rides24
  have hT4 := hI.I.taxis4
  have h6 := hL.2.1.2.1
  have hm24 : ∀ u ∈ pt, u < 24 := fun u hu' => by have := ((hL.2.1.2.2.2 u).mp hu').1; omega
  have in24 : F_Model_in2 m (Int32.ofNat t) 24 N = some (Int32.ofNat pt.length) := by
    rw [m_in2L (kl := 24) hm 24 (by omega) (by omega) rfl, show 13 + 40 * t + 24 = 37 + 40 * t by omega, hL.2.1.1.1]
  have m1 := hm.w (k := 20 + 40 * t) (v := s.2.1 (20 + 40 * t) + w)
  have g7 : F_Model_grows m (Int32.ofNat t) 7 w N = some (z_wI N (m + 1) (20 + 40 * t) (s.2.1 (20 + 40 * t) + w)) := by
    rw [m_grows (kl := 7) (k := 7) hm (by omega) (by omega) rfl, show 13 + 40 * t + 7 = 20 + 40 * t by omega]
  unfold F_Model_pays
  rw [zb_ok in24, zb_ok g7]
  by_cases h0 : pt.length = 0
  · have hnil := List.length_eq_zero_iff.mp h0
    rw [if_pos (show Int32.ofNat pt.length = 0 by rw [h0]; rfl)]
    refine ⟨_, rfl, ?_, fun x hx => funext fun k => w_addr k hx, rfl⟩
    have erow : q_py s.2.1 t w pt = q_w s.2.1 (20 + 40 * t) (s.2.1 (20 + 40 * t) + w) := by
      unfold q_py
      rw [h0, if_pos rfl, if_pos rfl, if_pos (by omega), Int32.add_zero, Int32.add_zero, Int32.add_zero, Int32.add_zero, q_pd_0, q_w_id (P := s.2.1) rfl, q_w_id (P := s.2.1) rfl]
      rw [q_w_id (by rw [q_w_id (by rw [q_w_ne (by omega)])]; rw [q_w_ne (by omega)]), q_w_id (by rw [q_w_ne (by omega)])]
    rw [erow]
    exact m1
  · have m2 := m1.w (k := 21 + 40 * t) (v := s.2.1 (21 + 40 * t) + w)
    have g8 : F_Model_grows m (Int32.ofNat t) 8 w (z_wI N (m + 1) (20 + 40 * t) (s.2.1 (20 + 40 * t) + w)) = some (z_wI (z_wI N (m + 1) (20 + 40 * t) (s.2.1 (20 + 40 * t) + w)) (m + 1) (21 + 40 * t) (s.2.1 (21 + 40 * t) + w)) := by
      rw [m_grows (kl := 8) (k := 8) m1 (by omega) (by omega) rfl, show 13 + 40 * t + 8 = 21 + 40 * t by omega]
      show some (z_wI _ _ _ (q_w s.2.1 (20 + 40 * t) _ (21 + 40 * t) + w)) = _
      rw [q_w_ne (by omega)]
    rw [if_neg (i_ne0 (by omega) h0), zb_ok g8]
    -- the amounts, and who pays
    have go : ∀ (N2 : z_Mem) (C : q_R), m_all m N2 (q_row s C) → (∀ j, (j < 18 + 40 * t ∨ 23 + 40 * t ≤ j ∨ j = 18 + 40 * t) → C j = s.2.1 j) → (∀ x, x ≠ m + 1 → N2.1 x = N.1 x) → N2.2 = N.2 → q_py s.2.1 t w pt = q_pd (q_w (q_w C (23 + 40 * t) (s.2.1 (23 + 40 * t) + f_amt s.2.1 w pt.length)) (18 + 40 * t) (s.2.1 (18 + 40 * t) + f_amt s.2.1 w pt.length)) (f_amt s.2.1 w pt.length) pt.length pt pt.length → ∃ N', F_Model_pays_J42 m (Int32.ofNat t) w (Int32.ofNat pt.length) N2 = some N' ∧ m_all m N' (q_row s (q_py s.2.1 t w pt)) ∧ (∀ x, x ≠ m + 1 → N'.1 x = N.1 x) ∧ N'.2 = N.2 := fun N2 C hm2 hC hx2 h22 eC => by
      have ea : F_Model_amountFor m w (Int32.ofNat pt.length) N2 = some (f_amt s.2.1 w pt.length) := by
        rw [m_amt hm2 (by omega)]
        exact congrArg some (f_amt_same (hC 2 (by omega)) (fun k h1 h2 => hC k (by omega)))
      have g10 : F_Model_grows m (Int32.ofNat t) 10 (f_amt s.2.1 w pt.length) N2 = some (z_wI N2 (m + 1) (23 + 40 * t) (s.2.1 (23 + 40 * t) + f_amt s.2.1 w pt.length)) := by
        rw [m_grows (kl := 10) (k := 10) hm2 (by omega) (by omega) rfl, show 13 + 40 * t + 10 = 23 + 40 * t by omega]
        show some (z_wI _ _ _ (C (23 + 40 * t) + _)) = _
        rw [hC _ (by omega)]
      have m3 := hm2.w (k := 23 + 40 * t) (v := s.2.1 (23 + 40 * t) + f_amt s.2.1 w pt.length)
      have g5 : F_Model_grows m (Int32.ofNat t) 5 (f_amt s.2.1 w pt.length) (z_wI N2 (m + 1) (23 + 40 * t) (s.2.1 (23 + 40 * t) + f_amt s.2.1 w pt.length)) = some (z_wI (z_wI N2 (m + 1) (23 + 40 * t) (s.2.1 (23 + 40 * t) + f_amt s.2.1 w pt.length)) (m + 1) (18 + 40 * t) (s.2.1 (18 + 40 * t) + f_amt s.2.1 w pt.length)) := by
        rw [m_grows (kl := 5) (k := 5) m3 (by omega) (by omega) rfl, show 13 + 40 * t + 5 = 18 + 40 * t by omega]
        show some (z_wI _ _ _ (q_w C (23 + 40 * t) _ (18 + 40 * t) + _)) = _
        rw [q_w_ne (by omega), hC _ (by omega)]
      have m4 := m3.w (k := 18 + 40 * t) (v := s.2.1 (18 + 40 * t) + f_amt s.2.1 w pt.length)
      have m4' : m_all m (z_wI (z_wI N2 (m + 1) (23 + 40 * t) (s.2.1 (23 + 40 * t) + f_amt s.2.1 w pt.length)) (m + 1) (18 + 40 * t) (s.2.1 (18 + 40 * t) + f_amt s.2.1 w pt.length)) (q_row s (q_pd (q_w (q_w C (23 + 40 * t) (s.2.1 (23 + 40 * t) + f_amt s.2.1 w pt.length)) (18 + 40 * t) (s.2.1 (18 + 40 * t) + f_amt s.2.1 w pt.length)) (f_amt s.2.1 w pt.length) pt.length pt 0)) := by
        rw [q_pd_0]
        exact m4
      obtain ⟨N', e, q1, q2, q3⟩ := m_pays_L (m := m) (t := t) (by omega) h6 hL.2.1.2.2.1 hm24 (hL.2.1.1.same (by rw [q_w_ne (by omega), q_w_ne (by omega), hC _ (by omega)]) (fun k hk => by rw [q_w_ne (by omega), q_w_ne (by omega), hC _ (by omega)])) pt.length 0 10000 _ (by omega) (by omega) m4'
      refine ⟨N', ?_, by rw [eC]; exact q1, fun x hx => by rw [q2 x hx, ← hx2 x hx]; exact funext fun k => (w_addr k hx).trans (w_addr k hx), q3.trans h22⟩
      unfold F_Model_pays_J42
      rw [zb_ok ea, zb_ok g10, zb_ok g5, i_0]
      exact e
    have ecan : ∀ C, C = q_w (q_w s.2.1 (20 + 40 * t) (s.2.1 (20 + 40 * t) + w)) (21 + 40 * t) (s.2.1 (21 + 40 * t) + w) ∧ pt.length ≤ 1 ∨ C = q_w (q_w (q_w s.2.1 (20 + 40 * t) (s.2.1 (20 + 40 * t) + w)) (21 + 40 * t) (s.2.1 (21 + 40 * t) + w)) (22 + 40 * t) (s.2.1 (22 + 40 * t) + w) ∧ ¬ pt.length ≤ 1 → q_py s.2.1 t w pt = q_pd (q_w (q_w C (23 + 40 * t) (s.2.1 (23 + 40 * t) + f_amt s.2.1 w pt.length)) (18 + 40 * t) (s.2.1 (18 + 40 * t) + f_amt s.2.1 w pt.length)) (f_amt s.2.1 w pt.length) pt.length pt pt.length := fun C hC => by
      rw [q_pd_w (by omega), q_pd_w (by omega)]
      unfold q_py
      rw [if_neg h0, if_neg h0]
      rcases hC with ⟨rfl, h1⟩ | ⟨rfl, h1⟩
      · rw [if_pos h1, q_pd_w (by omega), q_pd_w (by omega)]
        funext k
        by_cases k1 : k = 18 + 40 * t
        · subst k1
          simp (disch := omega) only [q_w_same, q_w_ne]
        · by_cases k2 : k = 20 + 40 * t
          · subst k2
            simp (disch := omega) only [q_w_same, q_w_ne]
          · by_cases k3 : k = 21 + 40 * t
            · subst k3
              simp (disch := omega) only [q_w_same, q_w_ne]
            · by_cases k4 : k = 23 + 40 * t
              · subst k4
                simp (disch := omega) only [q_w_same, q_w_ne]
              · by_cases k5 : k = 22 + 40 * t
                · subst k5
                  simp (disch := omega) only [q_w_same, q_w_ne]
                  rw [Int32.add_zero, q_pd_out (Or.inl (by omega))]
                · simp (disch := omega) only [q_w_ne]
      · rw [if_neg h1, q_pd_w (by omega), q_pd_w (by omega), q_pd_w (by omega)]
        funext k
        by_cases k1 : k = 18 + 40 * t
        · subst k1
          simp (disch := omega) only [q_w_same, q_w_ne]
        · by_cases k2 : k = 20 + 40 * t
          · subst k2
            simp (disch := omega) only [q_w_same, q_w_ne]
          · by_cases k3 : k = 21 + 40 * t
            · subst k3
              simp (disch := omega) only [q_w_same, q_w_ne]
            · by_cases k4 : k = 23 + 40 * t
              · subst k4
                simp (disch := omega) only [q_w_same, q_w_ne]
              · by_cases k5 : k = 22 + 40 * t
                · subst k5
                  simp (disch := omega) only [q_w_same, q_w_ne]
                · simp (disch := omega) only [q_w_ne]
    by_cases h1 : pt.length ≤ 1
    · rw [if_pos (show Int32.ofNat pt.length ≤ 1 from (i_le (b := 1) (by omega) (by decide)).mpr h1)]
      exact go _ _ m2 (fun j hj => by rw [q_w_ne (by omega)]; exact q_w_ne (by omega)) (fun x hx => funext fun k => (w_addr k hx).trans (w_addr k hx)) rfl (ecan _ (Or.inl ⟨rfl, h1⟩))
    · have m3 := m2.w (k := 22 + 40 * t) (v := s.2.1 (22 + 40 * t) + w)
      have g9 : F_Model_grows m (Int32.ofNat t) 9 w (z_wI (z_wI N (m + 1) (20 + 40 * t) (s.2.1 (20 + 40 * t) + w)) (m + 1) (21 + 40 * t) (s.2.1 (21 + 40 * t) + w)) = some (z_wI (z_wI (z_wI N (m + 1) (20 + 40 * t) (s.2.1 (20 + 40 * t) + w)) (m + 1) (21 + 40 * t) (s.2.1 (21 + 40 * t) + w)) (m + 1) (22 + 40 * t) (s.2.1 (22 + 40 * t) + w)) := by
        rw [m_grows (kl := 9) (k := 9) m2 (by omega) (by omega) rfl, show 13 + 40 * t + 9 = 22 + 40 * t by omega]
        show some (z_wI _ _ _ (q_w (q_w s.2.1 (20 + 40 * t) _) (21 + 40 * t) _ (22 + 40 * t) + w)) = _
        rw [q_w_ne (by omega), q_w_ne (by omega)]
      rw [if_neg (show ¬ Int32.ofNat pt.length ≤ 1 from i_nle (b := 1) (by omega) (by decide) (by omega)), zb_ok g9]
      exact go _ _ m3 (fun j hj => by rw [q_w_ne (by omega)]; exact (q_w_ne (by omega)).trans (q_w_ne (by omega))) (fun x hx => funext fun k => (w_addr k hx).trans ((w_addr k hx).trans (w_addr k hx))) rfl (ecan _ (Or.inr ⟨rfl, h1⟩))
