/-! ===== PURE: the first stop is done: the reference's rows ===== -/
theorem q_setL_val {X X' : q_R} {cnt base k : Nat} {L : List Nat} (h : k = cnt ∨ (base ≤ k ∧ k < base + L.length)) : q_setL X cnt base L k = q_setL X' cnt base L k := by
  unfold q_setL
  by_cases h1 : k = cnt
  · subst h1
    rw [q_w_same, q_w_same]
  · rw [q_w_ne h1, q_w_ne h1]
    unfold q_setB
    rw [if_pos (h.resolve_left h1), if_pos (h.resolve_left h1)]
theorem q_tail {A : q_R} {P rt : List Nat} (h : f_inv A P rt) (h0 : 0 < rt.length) : rt.filter (g_no (g_l rt 0)) = rt.drop 1 := by
  have hd := f_drop h0
  rw [List.drop_zero] at hd
  generalize hx : g_l rt 0 = x at hd
  have hd' : rt = x :: rt.drop 1 := hd
  rw [hd'] at h
  have hnot : x ∉ rt.drop 1 := fun q => by
    have hm := q_ofr_mem q
    rcases h.first with ⟨-, -, e⟩ | ⟨ho, -, ⟨-, e⟩ | ⟨-, e⟩⟩
    · rw [e] at hm
      cases hm
    · rw [e] at hm
      cases hm
    · rw [e, List.mem_singleton] at hm
      omega
  have e1 : (x :: rt.drop 1).filter (g_no x) = rt.drop 1 := by
    rw [List.filter_cons_of_neg (fun q => g_no_t.mp q rfl)]
    refine List.filter_eq_self.mpr fun y hy => g_no_t.mpr fun q => hnot (q ▸ hy)
  rw [← hd'] at e1
  exact e1
/-- the tail of what the reference writes: the zone, the times, the route, no time of leaving -/
def q_end (c A B : q_R) (t : Nat) (rt : List Nat) : q_R := q_w (q_setL (q_w (q_w (q_w B (13 + 40 * t) (Int32.ofNat (q_zo A (g_l rt 0)))) (14 + 40 * t) (s_f c A t (g_l rt) 1)) (15 + 40 * t) (s_st c A t (g_l rt) 1)) (24 + 40 * t) (25 + 40 * t) (rt.drop 1)) (16 + 40 * t) (-1)
theorem q_end_drop {c A : q_R} {t : Nat} {rt pt : List Nat} (ht : t < 4) (h12 : rt.length ≤ 12) (h6 : pt.length ≤ 6) (htl : rt.filter (g_no (g_l rt 0)) = rt.drop 1) (hu : g_l rt 0 / 2 < 24) (ho : ¬ g_l rt 0 % 2 = 1) : q_end c A (q_w (q_w (q_setL (q_py A t (s_w c A t (g_l rt) 0) pt) (37 + 40 * t) (38 + 40 * t) (pt.filter (g_no (g_l rt 0 / 2)))) (173 + 17 * (g_l rt 0 / 2)) 3) (182 + 17 * (g_l rt 0 / 2)) (s_a c A t (g_l rt) 0)) t rt = q_do c A t rt pt := by
  have l1 : (rt.drop 1).length ≤ 12 := by rw [List.length_drop]; omega
  have l2 : (pt.filter (g_no (g_l rt 0 / 2))).length ≤ 6 := Nat.le_trans g_no_len h6
  unfold q_do q_d5 q_end
  rw [if_neg ho, htl]
  generalize (rt.drop 1) = R at l1
  generalize (pt.filter (g_no (g_l rt 0 / 2))) = P at l2
  generalize q_py A t (s_w c A t (g_l rt) 0) pt = B
  generalize g_l rt 0 / 2 = u at hu
  funext k
  by_cases k1 : k = 13 + 40 * t
  · subst k1
    simp (disch := omega) only [q_w_same, q_w_ne, q_setL_out]
  by_cases k2 : k = 14 + 40 * t
  · subst k2
    simp (disch := omega) only [q_w_same, q_w_ne, q_setL_out]
  by_cases k3 : k = 15 + 40 * t
  · subst k3
    simp (disch := omega) only [q_w_same, q_w_ne, q_setL_out]
  by_cases k4 : k = 16 + 40 * t
  · subst k4
    simp (disch := omega) only [q_w_same, q_w_ne, q_setL_out]
  by_cases k5 : k = 173 + 17 * u
  · subst k5
    simp (disch := omega) only [q_w_same, q_w_ne, q_setL_out]
  by_cases k6 : k = 182 + 17 * u
  · subst k6
    simp (disch := omega) only [q_w_same, q_w_ne, q_setL_out]
  by_cases k7 : k = 24 + 40 * t ∨ (25 + 40 * t ≤ k ∧ k < 25 + 40 * t + R.length)
  · simp (disch := omega) only [q_w_ne, q_setL_out]
    exact q_setL_val k7
  by_cases k8 : k = 37 + 40 * t ∨ (38 + 40 * t ≤ k ∧ k < 38 + 40 * t + P.length)
  · simp (disch := omega) only [q_w_ne, q_setL_out]
    exact q_setL_val k8
  simp (disch := omega) only [q_w_ne, q_setL_out]
theorem q_end_in {c A : q_R} {t : Nat} {rt pt : List Nat} {st v : Int32} (ht : t < 4) (h12 : rt.length ≤ 12) (htl : rt.filter (g_no (g_l rt 0)) = rt.drop 1) (hu : g_l rt 0 / 2 < 24) : q_end c A (q_w (q_w (q_w (q_w (q_py A t (s_w c A t (g_l rt) 0) pt) (183 + 17 * (g_l rt 0 / 2)) (A (183 + 17 * (g_l rt 0 / 2)) + v)) (18 + 40 * t) (q_tk A t (s_w c A t (g_l rt) 0) pt + v)) (173 + 17 * (g_l rt 0 / 2)) st) (181 + 17 * (g_l rt 0 / 2)) (s_f c A t (g_l rt) 1)) t rt = q_d9 c A t rt pt st v := by
  have l1 : (rt.drop 1).length ≤ 12 := by rw [List.length_drop]; omega
  unfold q_d9 q_d5 q_end
  rw [htl]
  generalize (rt.drop 1) = R at l1
  generalize q_py A t (s_w c A t (g_l rt) 0) pt = B
  generalize g_l rt 0 / 2 = u at hu
  funext k
  by_cases k1 : k = 13 + 40 * t
  · subst k1
    simp (disch := omega) only [q_w_same, q_w_ne, q_setL_out]
  by_cases k2 : k = 14 + 40 * t
  · subst k2
    simp (disch := omega) only [q_w_same, q_w_ne, q_setL_out]
  by_cases k3 : k = 15 + 40 * t
  · subst k3
    simp (disch := omega) only [q_w_same, q_w_ne, q_setL_out]
  by_cases k4 : k = 16 + 40 * t
  · subst k4
    simp (disch := omega) only [q_w_same, q_w_ne, q_setL_out]
  by_cases k5 : k = 173 + 17 * u
  · subst k5
    simp (disch := omega) only [q_w_same, q_w_ne, q_setL_out]
  by_cases k6 : k = 181 + 17 * u
  · subst k6
    simp (disch := omega) only [q_w_same, q_w_ne, q_setL_out]
  by_cases k9 : k = 183 + 17 * u
  · subst k9
    simp (disch := omega) only [q_w_same, q_w_ne, q_setL_out]
  by_cases k10 : k = 18 + 40 * t
  · subst k10
    simp (disch := omega) only [q_w_same, q_w_ne, q_setL_out]
  by_cases k7 : k = 24 + 40 * t ∨ (25 + 40 * t ≤ k ∧ k < 25 + 40 * t + R.length)
  · simp (disch := omega) only [q_w_ne, q_setL_out]
    exact q_setL_val k7
  simp (disch := omega) only [q_w_ne, q_setL_out]
theorem q_end_party {c A B : q_R} {t : Nat} {rt P : List Nat} (ht : t < 4) (h12 : rt.length ≤ 12) (h6 : P.length ≤ 6) : q_end c A (q_setL B (37 + 40 * t) (38 + 40 * t) P) t rt = q_setL (q_end c A B t rt) (37 + 40 * t) (38 + 40 * t) P := by
  have l1 : (rt.drop 1).length ≤ 12 := by rw [List.length_drop]; omega
  unfold q_end
  generalize (rt.drop 1) = R at l1
  funext k
  by_cases k8 : k = 37 + 40 * t ∨ (38 + 40 * t ≤ k ∧ k < 38 + 40 * t + P.length)
  · simp (disch := omega) only [q_w_ne, q_setL_out]
    exact q_setL_val k8
  by_cases k1 : k = 13 + 40 * t
  · subst k1
    simp (disch := omega) only [q_w_same, q_w_ne, q_setL_out]
  by_cases k2 : k = 14 + 40 * t
  · subst k2
    simp (disch := omega) only [q_w_same, q_w_ne, q_setL_out]
  by_cases k3 : k = 15 + 40 * t
  · subst k3
    simp (disch := omega) only [q_w_same, q_w_ne, q_setL_out]
  by_cases k4 : k = 16 + 40 * t
  · subst k4
    simp (disch := omega) only [q_w_same, q_w_ne, q_setL_out]
  by_cases k7 : k = 24 + 40 * t ∨ (25 + 40 * t ≤ k ∧ k < 25 + 40 * t + R.length)
  · simp (disch := omega) only [q_w_ne, q_setL_out]
    exact q_setL_val k7
  simp (disch := omega) only [q_w_ne, q_setL_out]
/-- a list with an end more -/
theorem q_setL_end {A : q_R} {cnt base a : Nat} {L : List Nat} (h : cnt < base) (hl : q_li A cnt base L) : q_w (q_w A (base + L.length) (Int32.ofNat a)) cnt (Int32.ofNat (L.length + 1)) = q_setL A cnt base (L ++ [a]) := funext fun k => by
  have hlen : (L ++ [a]).length = L.length + 1 := by rw [List.length_append]; rfl
  unfold q_setL
  rw [hlen]
  by_cases h1 : k = cnt
  · subst h1
    rw [q_w_same, q_w_same]
  · rw [q_w_ne h1, q_w_ne h1]
    by_cases h2 : k = base + L.length
    · subst h2
      rw [q_w_same, q_setB_in (by omega), g_l_app2]
    · rw [q_w_ne h2]
      by_cases h3 : base ≤ k ∧ k < base + L.length
      · obtain ⟨j, rfl⟩ : ∃ j, k = base + j := ⟨k - base, by omega⟩
        rw [q_setB_in (by omega), g_l_app1 (by omega), hl.2 j _ (g_l_get (by omega))]
      · rw [q_setB_out (by omega)]
/-! the route moves up -/
theorem m_shift_L {m t n : Nat} {s : q_S} {L : List Nat} {B : q_R} {rec5 : Int32 → Int32 → Int32 → Int32 → z_Mem → Option (Int32 × z_Mem)} {till v3 v4 : Int32} (ht : t < 4) (hn : L.length = n) (hn0 : 0 < n) (hn12 : n ≤ 12) : ∀ (k i f : Nat) (N : z_Mem), i + 1 + k = n → k < f → m_list N m (g_l L) n → m_all m N (q_row s (q_setB B (25 + 40 * t) ((L.drop 1).take i))) →
    ∃ N', F_Model_goesOn_L63 m rec5 f (Int32.ofNat t) till v3 v4 (Int32.ofNat (i + 1)) N = rec5 (Int32.ofNat t) till (v3 + 1) v4 N' ∧ m_all m N' (q_row s (q_w (q_setL B (24 + 40 * t) (25 + 40 * t) (L.drop 1)) (16 + 40 * t) (-1))) ∧ (∀ x, x ≠ m + 1 → N'.1 x = N.1 x) ∧ N'.2 = N.2 := by
  have hdl : (L.drop 1).length = n - 1 := by rw [List.length_drop, hn]
  intro k
  induction k with
  | zero =>
    intro i f N hi hf hl hm
    obtain ⟨f, rfl⟩ : ∃ g, f = g + 1 := ⟨f - 1, by omega⟩
    rw [List.take_of_length_le (by omega)] at hm
    unfold F_Model_goesOn_L63 F_Model_goesOn_B63
    rw [hl.1, if_pos ((i_le (by omega) (by omega)).mpr (by omega)), show Int32.ofNat n - 1 = Int32.ofNat (n - 1) from i_sub (b := 1) (by omega), zb_ok (m_lays2 (kl := 11) (k := 11) ht (by omega) rfl), show 13 + 40 * t + 11 = 24 + 40 * t by omega, zb_ok (m_lays2 (kl := 3) (k := 3) ht (by omega) rfl), show 13 + 40 * t + 3 = 16 + 40 * t by omega]
    simp only [zl]
    have m2 := (hm.w (k := 24 + 40 * t) (v := Int32.ofNat (n - 1))).w (k := 16 + 40 * t) (v := -1)
    refine ⟨_, rfl, ?_, fun x hx => funext fun j => (w_addr j hx).trans (w_addr j hx), rfl⟩
    unfold q_setL
    rw [hdl]
    exact m2
  | succ k ih =>
    intro i f N hi hf hl hm
    obtain ⟨f, rfl⟩ : ∃ g, f = g + 1 := ⟨f - 1, by omega⟩
    have hin : i + 1 < n := by omega
    have ci : (Int32.ofNat (i + 1)).toNatClampNeg = i + 1 := i_cl (by omega)
    have e12 : (12 + Int32.ofNat (i + 1) : Int32) - 1 = Int32.ofNat (12 + i) := by
      rw [show (12 : Int32) = Int32.ofNat 12 from rfl, i_add, show (1 : Int32) = Int32.ofNat 1 from rfl, i_sub (by omega)]
      congr 1
    unfold F_Model_goesOn_L63 F_Model_goesOn_B63
    rw [hl.1, if_neg (i_nle (by omega) (by omega) hin), if_pos ((i_inb (by omega)).mpr (by omega)), ci, hl.2 (i + 1) hin, e12, zb_ok (m_lays2 (k := 12 + i) ht (by omega) rfl), show 13 + 40 * t + (12 + i) = 25 + 40 * t + i by omega, i_succ]
    simp only [zl]
    have hlt : ((L.drop 1).take i).length = i := by rw [List.length_take]; omega
    have hgl : g_l (L.drop 1) i = g_l L (i + 1) := by
      have h1 := g_l_get (L := L) (k := i + 1) (by omega)
      have : (L.drop 1)[i]? = some (g_l L (i + 1)) := by rw [List.getElem?_drop, show 1 + i = i + 1 by omega, h1]
      exact (g_l_of this).2
    have m2 := hm.w (k := 25 + 40 * t + i) (v := Int32.ofNat (g_l L (i + 1)))
    have e2 : q_up (q_row s (q_setB B (25 + 40 * t) ((L.drop 1).take i))) (25 + 40 * t + i) (Int32.ofNat (g_l L (i + 1))) = q_row s (q_setB B (25 + 40 * t) ((L.drop 1).take (i + 1))) := by
      have := q_setB_end B (25 + 40 * t) ((L.drop 1).take i) (g_l L (i + 1))
      rw [hlt] at this
      rw [g_take (by omega), hgl, ← this]
      rfl
    rw [e2] at m2
    obtain ⟨N', e, g1, g2, g3⟩ := ih (i + 1) f _ (by omega) (by omega) ⟨(w_addr _ (by omega)).trans hl.1, fun j hj => (w_addr _ (by omega)).trans (hl.2 j hj)⟩ m2
    exact ⟨N', e, g1, fun x hx => (g2 x hx).trans (funext fun j => w_addr j hx), g3⟩
theorem m_happen {m t : Nat} {s : q_S} {n : Nat} {rt pt : List Nat} {N : z_Mem} {rec5 : Int32 → Int32 → Int32 → Int32 → z_Mem → Option (Int32 × z_Mem)} {till v3 v4 : Int32} (hI : q_In s) (ht : t < q_T s.1) (hL : q_taxiL s.1 s.2.1 t n rt pt) (hn : n ≤ 6) (h0 : 0 < rt.length) (hm : m_all m N s) (hl : m_list N m (g_l rt) rt.length) (hts : m_times N m s.1 s.2.1 t (g_l rt) 0 rt.length) :
    ∃ N', (zb (F_Model_happens m (Int32.ofNat t) 0 N) fun M5 => F_Model_goesOn_L63 m rec5 10000 (Int32.ofNat t) till v3 v4 1 M5) = rec5 (Int32.ofNat t) till (v3 + 1) v4 N' ∧ m_all m N' (q_row s (q_do s.1 s.2.1 t rt pt)) ∧ (∀ x, x ≠ m + 1 → N'.1 x = N.1 x) ∧ N'.2 = N.2 := by
  have hN24 := hI.I.rides24
  have hT4 := hI.I.taxis4
  have h12 := hL.1.2.1
  have h6 := hL.2.1.2.1
  have hx := hL.val 0 h0
  have hu : g_l rt 0 / 2 < q_N s.2.1 := by omega
  have htl := q_tail hL.drive h0
  have hd := hL.drive
  have hdrop := f_drop h0
  rw [List.drop_zero] at hdrop
  rw [hdrop] at hd
  obtain ⟨t1, t2, t3, t4, t5⟩ := hts 0 (by omega) h0
  have hz : z_inb (0 : Int32) 14 := by decide
  have c0 : (0 : Int32).toNatClampNeg = 0 := rfl
  have l0 : N.1 (m + 13) 0 = Int32.ofNat (g_l rt 0) := hl.2 0 h0
  obtain ⟨N2, e2, m2, r2, r2'⟩ := m_pays (m := m) (w := s_w s.1 s.2.1 t (g_l rt) 0) hI ht hL hm
  -- what is left once the ride has its numbers
  have fin : ∀ (B : q_R) (N7 : z_Mem), m_all m N7 (q_row s B) → (∀ j, 174 + 17 * (g_l rt 0 / 2) ≤ j → j < 176 + 17 * (g_l rt 0 / 2) → B j = s.2.1 j) → (∀ x, x ≠ m + 1 → N7.1 x = N.1 x) → N7.2 = N.2 → ∃ N', (zb (F_Model_happens_J159 m (Int32.ofNat t) 0 N7) fun M5 => F_Model_goesOn_L63 m rec5 10000 (Int32.ofNat t) till v3 v4 1 M5) = rec5 (Int32.ofNat t) till (v3 + 1) v4 N' ∧ m_all m N' (q_row s (q_end s.1 s.2.1 B t rt)) ∧ (∀ x, x ≠ m + 1 → N'.1 x = N.1 x) ∧ N'.2 = N.2 := fun B N7 hm7 hB hr7 hr7' => by
    have ez : F_Model_zoneOf m (Int32.ofNat (g_l rt 0)) N7 = some (Int32.ofNat (q_zo s.2.1 (g_l rt 0))) := by
      obtain ⟨⟨a, ha, ea⟩, ⟨b, hb, eb⟩, -⟩ := (hI.2.1.2.2.1 _ hu).1
      unfold F_Model_zoneOf F_Model_zoneOf_J16 q_zo
      rw [i_odd _ (by omega), i_half (by omega)]
      by_cases h : g_l rt 0 % 2 = 1
      · rw [if_pos (by rw [h]; rfl), if_pos h, zb_ok (m_ofL (kl := 1) hm7 1 (by omega) (by omega) rfl), show 173 + 17 * (g_l rt 0 / 2) + 1 = 174 + 17 * (g_l rt 0 / 2) by omega]
        show some (B (174 + 17 * (g_l rt 0 / 2))) = _
        rw [hB _ (by omega) (by omega), ea, i_cl (by omega)]
      · rw [if_neg (i_ne1 (by omega) h), if_neg h, zb_ok (m_ofL (kl := 2) hm7 2 (by omega) (by omega) rfl), show 173 + 17 * (g_l rt 0 / 2) + 2 = 175 + 17 * (g_l rt 0 / 2) by omega]
        show some (B (175 + 17 * (g_l rt 0 / 2))) = _
        rw [hB _ (by omega) (by omega), eb, i_cl (by omega)]
    have m8 := ((hm7.w (k := 13 + 40 * t) (v := Int32.ofNat (q_zo s.2.1 (g_l rt 0)))).w (k := 14 + 40 * t) (v := s_f s.1 s.2.1 t (g_l rt) 1)).w (k := 15 + 40 * t) (v := s_st s.1 s.2.1 t (g_l rt) 1)
    generalize hN8 : z_wI (z_wI (z_wI N7 (m + 1) (13 + 40 * t) (Int32.ofNat (q_zo s.2.1 (g_l rt 0)))) (m + 1) (14 + 40 * t) (s_f s.1 s.2.1 t (g_l rt) 1)) (m + 1) (15 + 40 * t) (s_st s.1 s.2.1 t (g_l rt) 1) = N8 at m8
    have r8 : ∀ x, x ≠ m + 1 → N8.1 x = N.1 x := fun x hx' => by
      rw [← hr7 x hx', ← hN8]
      exact funext fun k => (w_addr k hx').trans ((w_addr k hx').trans (w_addr k hx'))
    have eJ : F_Model_happens_J159 m (Int32.ofNat t) 0 N7 = some N8 := by
      unfold F_Model_happens_J159
      simp only [c0]
      rw [if_pos hz, hr7 _ (by omega), l0, zb_ok ez, zb_ok (m_lays2 (kl := 0) (k := 0) (by omega) (by omega) rfl), if_pos hz, show 13 + 40 * t + 0 = 13 + 40 * t from rfl, w_addr _ (by omega), hr7 _ (by omega), t3, zb_ok (m_lays2 (kl := 1) (k := 1) (by omega) (by omega) rfl), if_pos hz, show 13 + 40 * t + 1 = 14 + 40 * t by omega, w_addr _ (by omega), w_addr _ (by omega), hr7 _ (by omega), t4, zb_ok (m_lays2 (kl := 2) (k := 2) (by omega) (by omega) rfl), show 13 + 40 * t + 2 = 15 + 40 * t by omega, hN8]
    obtain ⟨N', e, g1, g2, g3⟩ := m_shift_L (m := m) (t := t) (s := s) (L := rt) (B := q_w (q_w (q_w B (13 + 40 * t) (Int32.ofNat (q_zo s.2.1 (g_l rt 0)))) (14 + 40 * t) (s_f s.1 s.2.1 t (g_l rt) 1)) (15 + 40 * t) (s_st s.1 s.2.1 t (g_l rt) 1)) (rec5 := rec5) (till := till) (v3 := v3) (v4 := v4) (by omega) rfl h0 h12 (rt.length - 1) 0 10000 N8 (by omega) (by omega) ⟨(congrFun (r8 m (by omega)) 39).trans hl.1, fun j hj => (congrFun (r8 _ (by omega)) j).trans (hl.2 j hj)⟩ (by
      rw [List.take_zero, q_setB_nil]
      exact m8)
    rw [zb_ok eJ]
    exact ⟨N', e, g1, fun x hx' => (g2 x hx').trans (r8 x hx'), by rw [g3, ← hN8]; exact hr7'⟩
  have eHead : ∀ K : z_Mem → Option (Int32 × z_Mem), (zb (F_Model_happens m (Int32.ofNat t) 0 N) K) = zb (if Int32.ofNat (g_l rt 0 % 2) = 0 then
      zb (F_Model_getsOff m (Int32.ofNat t) (Int32.ofNat (g_l rt 0 / 2)) N2) fun M14 =>
      zb (F_Model_sets m (Int32.ofNat (g_l rt 0 / 2)) 0 3 M14) fun M15 =>
      if z_inb (0 : Int32) 14 then
      zb (F_Model_sets m (Int32.ofNat (g_l rt 0 / 2)) 9 (M15.1 (m + 15) (0 : Int32).toNatClampNeg) M15) fun M16 =>
      F_Model_happens_J159 m (Int32.ofNat t) 0 M16
      else none
    else
      zb (F_Model_of m (Int32.ofNat (g_l rt 0 / 2)) 11 N2) fun x3 =>
      if x3 = 1 then
        zb (F_Model_ruled m 4 N2) fun x10 =>
        zb (F_Model_charges m (Int32.ofNat t) (Int32.ofNat (g_l rt 0 / 2)) x10 N2) fun M11 =>
        zb (F_Model_sets m (Int32.ofNat (g_l rt 0 / 2)) 0 5 M11) fun M12 =>
        if z_inb (0 : Int32) 14 then
        zb (F_Model_sets m (Int32.ofNat (g_l rt 0 / 2)) 8 (M12.1 (m + 16) (0 : Int32).toNatClampNeg) M12) fun M13 =>
        F_Model_happens_J159 m (Int32.ofNat t) 0 M13
        else none
      else
        zb (F_Model_charges m (Int32.ofNat t) (Int32.ofNat (g_l rt 0 / 2)) (N2.1 m 18) N2) fun M4 =>
        zb (F_Model_sets m (Int32.ofNat (g_l rt 0 / 2)) 0 2 M4) fun M5 =>
        if z_inb (0 : Int32) 14 then
        zb (F_Model_sets m (Int32.ofNat (g_l rt 0 / 2)) 8 (M5.1 (m + 16) (0 : Int32).toNatClampNeg) M5) fun M6 =>
        zb (F_Model_in2 m (Int32.ofNat t) 24 M6) fun x7 =>
        zb (F_Model_lays2 m (Int32.ofNat t) (25 + x7) (Int32.ofNat (g_l rt 0 / 2)) M6) fun M8 =>
        zb (F_Model_grows m (Int32.ofNat t) 24 1 M8) fun M9 =>
        F_Model_happens_J159 m (Int32.ofNat t) 0 M9
        else none) K := fun K => by
    congr 1
    unfold F_Model_happens
    simp only [c0]
    rw [if_pos hz, l0, i_half (by omega)]
    simp only [zl]
    rw [if_pos hz, t5, zb_ok e2, if_pos hz, r2 _ (by omega), l0, i_odd _ (by omega)]
  rw [eHead]
  have chg : ∀ v, ∃ N4, F_Model_charges m (Int32.ofNat t) (Int32.ofNat (g_l rt 0 / 2)) v N2 = some N4 ∧ (g_l rt 0 / 2 ∉ pt → m_all m N4 (q_row s (q_w (q_w (q_py s.2.1 t (s_w s.1 s.2.1 t (g_l rt) 0) pt) (183 + 17 * (g_l rt 0 / 2)) (s.2.1 (183 + 17 * (g_l rt 0 / 2)) + v)) (18 + 40 * t) (q_tk s.2.1 t (s_w s.1 s.2.1 t (g_l rt) 0) pt + v)))) ∧ (∀ x, x ≠ m + 1 → N4.1 x = N.1 x) ∧ N4.2 = N.2 := fun v => by
    have of10 : F_Model_of m (Int32.ofNat (g_l rt 0 / 2)) 10 N2 = some (q_py s.2.1 t (s_w s.1 s.2.1 t (g_l rt) 0) pt (183 + 17 * (g_l rt 0 / 2))) := by
      rw [m_ofL (kl := 10) m2 10 (by omega) (by omega) rfl, show 173 + 17 * (g_l rt 0 / 2) + 10 = 183 + 17 * (g_l rt 0 / 2) by omega]
      rfl
    have m3 := m2.w (k := 183 + 17 * (g_l rt 0 / 2)) (v := q_py s.2.1 t (s_w s.1 s.2.1 t (g_l rt) 0) pt (183 + 17 * (g_l rt 0 / 2)) + v)
    have etk : q_py s.2.1 t (s_w s.1 s.2.1 t (g_l rt) 0) pt (18 + 40 * t) = q_tk s.2.1 t (s_w s.1 s.2.1 t (g_l rt) 0) pt := by
      unfold q_py q_tk
      rw [q_w_ne (by omega), q_w_ne (by omega), q_w_ne (by omega), q_w_ne (by omega), q_w_same]
    have g5 : F_Model_grows m (Int32.ofNat t) 5 v (z_wI N2 (m + 1) (183 + 17 * (g_l rt 0 / 2)) (q_py s.2.1 t (s_w s.1 s.2.1 t (g_l rt) 0) pt (183 + 17 * (g_l rt 0 / 2)) + v)) = some (z_wI (z_wI N2 (m + 1) (183 + 17 * (g_l rt 0 / 2)) (q_py s.2.1 t (s_w s.1 s.2.1 t (g_l rt) 0) pt (183 + 17 * (g_l rt 0 / 2)) + v)) (m + 1) (18 + 40 * t) (q_tk s.2.1 t (s_w s.1 s.2.1 t (g_l rt) 0) pt + v)) := by
      rw [m_grows (kl := 5) (k := 5) m3 (by omega) (by omega) rfl, show 13 + 40 * t + 5 = 18 + 40 * t by omega]
      show some (z_wI _ _ _ (q_w (q_py s.2.1 t (s_w s.1 s.2.1 t (g_l rt) 0) pt) (183 + 17 * (g_l rt 0 / 2)) _ (18 + 40 * t) + v)) = _
      rw [q_w_ne (by omega), etk]
    have m4 := m3.w (k := 18 + 40 * t) (v := q_tk s.2.1 t (s_w s.1 s.2.1 t (g_l rt) 0) pt + v)
    refine ⟨z_wI (z_wI N2 (m + 1) (183 + 17 * (g_l rt 0 / 2)) (q_py s.2.1 t (s_w s.1 s.2.1 t (g_l rt) 0) pt (183 + 17 * (g_l rt 0 / 2)) + v)) (m + 1) (18 + 40 * t) (q_tk s.2.1 t (s_w s.1 s.2.1 t (g_l rt) 0) pt + v), ?_, fun hno => ?_, fun x hx' => (funext fun k => (w_addr k hx').trans (w_addr k hx')).trans (r2 x hx'), r2'⟩
    · unfold F_Model_charges
      rw [zb_ok of10, zb_ok (m_sets (kl := 10) (k := 10) (by omega) (by omega) rfl), show 173 + 17 * (g_l rt 0 / 2) + 10 = 183 + 17 * (g_l rt 0 / 2) by omega, zb_ok g5]
    · have e : q_py s.2.1 t (s_w s.1 s.2.1 t (g_l rt) 0) pt (183 + 17 * (g_l rt 0 / 2)) = s.2.1 (183 + 17 * (g_l rt 0 / 2)) := q_py_ride (by omega) hno
      rw [e] at m4 ⊢
      exact m4
  unfold q_do
  by_cases ho : g_l rt 0 % 2 = 1
  · have hnot : g_l rt 0 / 2 ∉ pt := by
      rcases hd.first with ⟨q, -⟩ | ⟨-, q, -⟩
      · omega
      · exact q
    have of11 : F_Model_of m (Int32.ofNat (g_l rt 0 / 2)) 11 N2 = some (s.2.1 (184 + 17 * (g_l rt 0 / 2))) := by
      rw [m_ofL (kl := 11) m2 11 (by omega) (by omega) rfl, show 173 + 17 * (g_l rt 0 / 2) + 11 = 184 + 17 * (g_l rt 0 / 2) by omega]
      exact congrArg some (q_py_out (Or.inr (Or.inr ⟨by omega, fun r => by omega⟩)) (by omega))
    rw [if_neg (show ¬ Int32.ofNat (g_l rt 0 % 2) = 0 by rw [ho]; decide), zb_ok of11, if_pos ho]
    rcases (hI.2.1.2.2.1 _ hu).1.2.2 with ha | ha
    · have hna : ¬ s.2.1 (184 + 17 * (g_l rt 0 / 2)) = 1 := by rw [ha]; decide
      rw [if_neg hna, if_neg hna]
      have e18 : N2.1 m 18 = s.1 67 := m2.1.2.2.2.1
      obtain ⟨N4, e4, m4, r4, r4'⟩ := chg (s.1 67)
      have m6 := ((m4 hnot).w (k := 173 + 17 * (g_l rt 0 / 2)) (v := 2)).w (k := 181 + 17 * (g_l rt 0 / 2)) (v := s_f s.1 s.2.1 t (g_l rt) 1)
      generalize hN6 : z_wI (z_wI N4 (m + 1) (173 + 17 * (g_l rt 0 / 2)) 2) (m + 1) (181 + 17 * (g_l rt 0 / 2)) (s_f s.1 s.2.1 t (g_l rt) 1) = N6 at m6
      have r6 : ∀ x, x ≠ m + 1 → N6.1 x = N.1 x := fun x hx' => by
        rw [← r4 x hx', ← hN6]
        exact funext fun k => (w_addr k hx').trans (w_addr k hx')
      generalize hB6 : q_w (q_w (q_w (q_w (q_py s.2.1 t (s_w s.1 s.2.1 t (g_l rt) 0) pt) (183 + 17 * (g_l rt 0 / 2)) (s.2.1 (183 + 17 * (g_l rt 0 / 2)) + s.1 67)) (18 + 40 * t) (q_tk s.2.1 t (s_w s.1 s.2.1 t (g_l rt) 0) pt + s.1 67)) (173 + 17 * (g_l rt 0 / 2)) 2) (181 + 17 * (g_l rt 0 / 2)) (s_f s.1 s.2.1 t (g_l rt) 1) = B6
      have m6' : m_all m N6 (q_row s B6) := by
        rw [← hB6]
        exact m6
      have out6 : ∀ j, 37 + 40 * t ≤ j → j < 53 + 40 * t → B6 j = s.2.1 j := fun j q1 q2 => by
        rw [← hB6, q_w_ne (by omega), q_w_ne (by omega), q_w_ne (by omega), q_w_ne (by omega), q_py_out (Or.inr (Or.inl (by omega))) (by omega)]
      have li6 : q_li B6 (37 + 40 * t) (38 + 40 * t) pt := hL.2.1.1.same (out6 _ (by omega) (by omega)) (fun k hk => out6 _ (by omega) (by omega))
      have in24 : F_Model_in2 m (Int32.ofNat t) 24 N6 = some (Int32.ofNat pt.length) := by
        rw [m_in2L (kl := 24) m6' 24 (by omega) (by omega) rfl, show 13 + 40 * t + 24 = 37 + 40 * t by omega]
        exact congrArg some li6.1
      have m8 := m6'.w (k := 38 + 40 * t + pt.length) (v := Int32.ofNat (g_l rt 0 / 2))
      have g24 : F_Model_grows m (Int32.ofNat t) 24 1 (z_wI N6 (m + 1) (38 + 40 * t + pt.length) (Int32.ofNat (g_l rt 0 / 2))) = some (z_wI (z_wI N6 (m + 1) (38 + 40 * t + pt.length) (Int32.ofNat (g_l rt 0 / 2))) (m + 1) (37 + 40 * t) (Int32.ofNat (pt.length + 1))) := by
        rw [m_grows (kl := 24) (k := 24) m8 (by omega) (by omega) rfl, show 13 + 40 * t + 24 = 37 + 40 * t by omega]
        show some (z_wI _ _ _ (q_w B6 (38 + 40 * t + pt.length) _ (37 + 40 * t) + 1)) = _
        rw [q_w_ne (by omega), li6.1, i_succ]
      have m9 := m8.w (k := 37 + 40 * t) (v := Int32.ofNat (pt.length + 1))
      have m9' : m_all m (z_wI (z_wI N6 (m + 1) (38 + 40 * t + pt.length) (Int32.ofNat (g_l rt 0 / 2))) (m + 1) (37 + 40 * t) (Int32.ofNat (pt.length + 1))) (q_row s (q_setL B6 (37 + 40 * t) (38 + 40 * t) (pt ++ [g_l rt 0 / 2]))) := by
        rw [← q_setL_end (by omega) li6]
        exact m9
      have hlen : (pt ++ [g_l rt 0 / 2]).length ≤ 6 := by
        have hk1 : 1 < rt.length := by
          rcases hd.first with ⟨q, -⟩ | ⟨-, -, ⟨q, -⟩ | ⟨-, q⟩⟩
          · omega
          · exact absurd q hna
          · refine Decidable.byContradiction fun hge => ?_
            rw [List.drop_eq_nil_of_le (by omega)] at q
            cases q
        have hpt : ∀ u ∈ pt, u < q_N s.2.1 := fun u hu' => ((hL.2.1.2.2.2 u).mp hu').1
        have := f_P_six hn hL.drive hL.2.2.2.2 hpt hL.1.2.2.1 (fun u hu' => hI.per6 hu') hk1
        have e : f_P s.2.1 pt (g_l rt) 1 = pt ++ [g_l rt 0 / 2] := by
          show f_next _ _ _ = _
          unfold f_next
          rw [if_pos ho, if_neg hna]
          rfl
        rw [e] at this
        exact this
      obtain ⟨N', e, g1, g2, g3⟩ := fin _ _ m9' (fun j q1 q2 => by
        rw [q_setL_out (by omega) (by omega), ← hB6, q_w_ne (by omega), q_w_ne (by omega), q_w_ne (by omega), q_w_ne (by omega), q_py_out (Or.inr (Or.inr ⟨by omega, fun r => by omega⟩)) (by omega)]) (fun x hx' => (funext fun k => (w_addr k hx').trans (w_addr k hx')).trans (r6 x hx')) (by rw [← r4', ← hN6]; rfl)
      refine ⟨N', ?_, ?_, g2, g3⟩
      · rw [e18, zb_ok e4, zb_ok (m_sets (kl := 0) (k := 0) (by omega) (by omega) rfl), if_pos hz, show 173 + 17 * (g_l rt 0 / 2) + 0 = 173 + 17 * (g_l rt 0 / 2) from rfl, c0, w_addr _ (by omega), r4 _ (by omega), t3, zb_ok (m_sets (kl := 8) (k := 8) (by omega) (by omega) rfl), show 173 + 17 * (g_l rt 0 / 2) + 8 = 181 + 17 * (g_l rt 0 / 2) by omega, hN6, zb_ok in24, zb_ok (m_lays2 (kl := 25 + Int32.ofNat pt.length) (k := 25 + pt.length) (by omega) (by omega) (i_add 25 _)), show 13 + 40 * t + (25 + pt.length) = 38 + 40 * t + pt.length by omega, zb_ok g24]
        exact e
      · rw [q_end_party (by omega) h12 hlen, ← hB6, q_end_in (by omega) h12 htl (by omega)] at g1
        exact g1
    · rw [if_pos ha, if_pos ha]
      have e7 : F_Model_ruled m 4 N2 = some (s.2.1 7) := by
        rw [m_ruledL (kl := 4) m2 4 (by omega) rfl]
        exact congrArg some (q_py_out (Or.inl (by omega)) (by omega))
      obtain ⟨N4, e4, m4, r4, r4'⟩ := chg (s.2.1 7)
      have m6 := ((m4 hnot).w (k := 173 + 17 * (g_l rt 0 / 2)) (v := 5)).w (k := 181 + 17 * (g_l rt 0 / 2)) (v := s_f s.1 s.2.1 t (g_l rt) 1)
      obtain ⟨N', e, g1, g2, g3⟩ := fin _ _ m6 (fun j q1 q2 => by
        exact (q_w_ne (by omega)).trans ((q_w_ne (by omega)).trans ((q_w_ne (by omega)).trans ((q_w_ne (by omega)).trans (q_py_out (Or.inr (Or.inr ⟨by omega, fun r => by omega⟩)) (by omega)))))) (fun x hx' => (funext fun k => (w_addr k hx').trans (w_addr k hx')).trans (r4 x hx')) r4'
      refine ⟨N', ?_, ?_, g2, g3⟩
      · rw [zb_ok e7, zb_ok e4, zb_ok (m_sets (kl := 0) (k := 0) (by omega) (by omega) rfl), if_pos hz, show 173 + 17 * (g_l rt 0 / 2) + 0 = 173 + 17 * (g_l rt 0 / 2) from rfl, c0, w_addr _ (by omega), r4 _ (by omega), t3, zb_ok (m_sets (kl := 8) (k := 8) (by omega) (by omega) rfl), show 173 + 17 * (g_l rt 0 / 2) + 8 = 181 + 17 * (g_l rt 0 / 2) by omega]
        exact e
      · have e9 := q_end_in (c := s.1) (A := s.2.1) (t := t) (rt := rt) (pt := pt) (st := 5) (v := s.2.1 7) (by omega) h12 htl (by omega)
        rw [← e9]
        exact g1
  · rw [if_pos (show Int32.ofNat (g_l rt 0 % 2) = 0 by rw [show g_l rt 0 % 2 = 0 by omega]; rfl), if_neg ho]
    have hm48 : ∀ u ∈ pt, u < 48 := fun u hu' => by have := ((hL.2.1.2.2.2 u).mp hu').1; omega
    obtain ⟨N4, e4, m4, r4, r4'⟩ := m_getsOff (m := m) (t := t) (s' := g_l rt 0 / 2) (s := q_row s (q_py s.2.1 t (s_w s.1 s.2.1 t (g_l rt) 0) pt)) (L := pt) (by omega) h6 (by omega) hm48 (hL.2.1.1.same (q_py_out (Or.inr (Or.inl (by omega))) (by omega)) (fun k hk => q_py_out (Or.inr (Or.inl (by omega))) (by omega))) m2
    have r4a : ∀ x, x ≠ m + 1 → N4.1 x = N.1 x := fun x hx' => (r4 x hx').trans (r2 x hx')
    have m6 := (m4.w (k := 173 + 17 * (g_l rt 0 / 2)) (v := 3)).w (k := 182 + 17 * (g_l rt 0 / 2)) (v := s_a s.1 s.2.1 t (g_l rt) 0)
    have l2 : (pt.filter (g_no (g_l rt 0 / 2))).length ≤ 6 := Nat.le_trans g_no_len h6
    obtain ⟨N', e, g1, g2, g3⟩ := fin _ _ m6 (fun j q1 q2 => by
      rw [q_w_ne (by omega)]
      refine (q_w_ne (by omega)).trans ((q_setL_out (by omega) (by omega)).trans (q_py_out (Or.inr (Or.inr ⟨by omega, fun r => by omega⟩)) (by omega)))) (fun x hx' => (funext fun k => (w_addr k hx').trans (w_addr k hx')).trans (r4a x hx')) (r4'.trans r2')
    refine ⟨N', ?_, ?_, g2, g3⟩
    · rw [zb_ok e4, zb_ok (m_sets (kl := 0) (k := 0) (by omega) (by omega) rfl), if_pos hz, show 173 + 17 * (g_l rt 0 / 2) + 0 = 173 + 17 * (g_l rt 0 / 2) from rfl, c0, w_addr _ (by omega), r4a _ (by omega), t2, zb_ok (m_sets (kl := 9) (k := 9) (by omega) (by omega) rfl), show 173 + 17 * (g_l rt 0 / 2) + 9 = 182 + 17 * (g_l rt 0 / 2) by omega]
      exact e
    · have e9 := q_end_drop (c := s.1) (A := s.2.1) (t := t) (rt := rt) (pt := pt) (by omega) h12 h6 htl (by omega) ho
      unfold q_do at e9
      rw [if_neg ho] at e9
      rw [← e9]
      exact g1
