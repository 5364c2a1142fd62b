/-! ===== PURE: ask ===== -/
theorem c_all.spare {o r : Nat} {M M' : z_Mem} {s : q_S} (h : c_all o M s) (hr : q_N s.2.1 ≤ r) (hr24 : r < 24) (hx : ∀ x, x ≠ o + 5 + 16 + r → M'.1 x = M.1 x) : c_all o M' s := by
  obtain ⟨hs, h0, h1, h2, h3, h4, h5, h6, h7⟩ := h.2.1
  have hT := hs.1
  have h' := h.row (M' := M') (A' := s.2.1) (fun x hx' => hx x (by omega)) ⟨hs, by rw [hx _ (by omega)]; exact h0, by rw [hx _ (by omega)]; exact h1, by rw [hx _ (by omega)]; exact h2, by rw [hx _ (by omega)]; exact h3, by rw [hx _ (by omega)]; exact h4, fun k hk => by rw [hx _ (by omega)]; exact h5 k hk, fun t ht => (h6 t ht).keep (hx _ (by omega)) (hx _ (by omega)) (hx _ (by omega)), fun u hu => (h7 u hu).keep (hx _ (by omega))⟩
  exact h'
theorem c_all.more {o : Nat} {M M' : z_Mem} {s : q_S} {v : Nat → Int32} (h : c_all o M s) (hr : q_N s.2.1 < 24) (hx : ∀ x, x ≠ o + 5 → x ≠ o + 5 + 16 + q_N s.2.1 → M'.1 x = M.1 x) (h4 : M'.1 (o + 5) 4 = Int32.ofNat (q_N s.2.1 + 1)) (hs : ∀ k, k ≠ 4 → M'.1 (o + 5) k = M.1 (o + 5) k) (hR : c_ride M' (o + 5 + 16 + q_N s.2.1) s.1 (q_new s.2.1 (q_N s.2.1) v) (q_N s.2.1)) : c_all o M' (q_row s (q_new s.2.1 (q_N s.2.1) v)) := by
  obtain ⟨hh, h0, h1, h2, h3, -, h5, h6, h7⟩ := h.2.1
  have hT := hh.1
  have eN := q_new_N (A := s.2.1) (v := v) hr
  refine h.row (fun x hx' => hx x (by omega) (by omega)) ⟨⟨hh.1, by rw [eN]; omega⟩, by rw [hs _ (by decide), q_new_out (by omega) (by omega)]; exact h0, by rw [hs _ (by decide)]; exact h1, by rw [hs _ (by decide), q_new_out (by omega) (by omega)]; exact h2, by rw [hs _ (by decide)]; exact h3, ?_, fun k hk => by rw [hx _ (by omega) (by omega), q_new_out (by omega) (by omega)]; exact h5 k hk, fun t ht => ((h6 t ht).keep (hx _ (by omega) (by omega)) (hx _ (by omega) (by omega)) (hx _ (by omega) (by omega))).row (fun k q1 q2 => q_new_out (by omega) (by omega)), fun u hu => ?_⟩
  · rw [h4]
    unfold q_new
    rw [if_pos rfl]
  · rw [eN] at hu
    by_cases hur : u = q_N s.2.1
    · subst hur
      exact hR
    · exact ((h7 u (by omega)).keep (hx _ (by omega) (by omega))).row (fun k q1 q2 => q_new_out (by omega) (by omega))
theorem q_up_ne {s : q_S} {k j : Nat} {v : Int32} (h : j ≠ k) : (q_up s k v).2.1 j = s.2.1 j := q_w_ne h
def q_zr (A : q_R) (r i : Nat) : q_R := fun k => if 173 + 17 * r ≤ k ∧ k < 173 + 17 * r + i then 0 else A k
theorem q_zr_step {A : q_R} {r i : Nat} : q_w (q_zr A r i) (173 + 17 * r + i) 0 = q_zr A r (i + 1) := funext fun k => by
  by_cases hk : k = 173 + 17 * r + i
  · subst hk
    rw [q_w_same]
    unfold q_zr
    rw [if_pos ⟨by omega, by omega⟩]
  · rw [q_w_ne hk]
    unfold q_zr
    by_cases h : 173 + 17 * r ≤ k ∧ k < 173 + 17 * r + i
    · rw [if_pos h, if_pos (by omega)]
    · rw [if_neg h, if_neg (by omega)]
theorem q_zr_out {A : q_R} {r i k : Nat} (h : k < 173 + 17 * r ∨ 173 + 17 * r + i ≤ k) : q_zr A r i k = A k := if_neg (by omega)
theorem q_zr_in {A : q_R} {r j : Nat} (h : j < 17) : q_zr A r 17 (173 + 17 * r + j) = 0 := if_pos (by omega)
/-- what the reference writes of a new ride -/
theorem q_ask_row {A : q_R} {r : Nat} {f t p rd la de : Int32} (hr : r < 24) : q_w (q_w (q_w (q_w (q_w (q_w (q_w (q_w (q_w (q_w (q_w (q_zr A r 17) (173 + 17 * r + 1) f) (173 + 17 * r + 2) t) (173 + 17 * r + 3) p) (173 + 17 * r + 4) rd) (173 + 17 * r + 5) la) (173 + 17 * r + 6) de) (173 + 17 * r + 7) (-1)) (173 + 17 * r + 8) (-1)) (173 + 17 * r + 9) (-1)) 1 (Int32.ofNat (r + 1))) (173 + 17 * r + 0) 4 = q_new A r (q_v f t p rd la de 4 0 0 0 0 0) := funext fun k => by
  by_cases h1 : k = 1
  · subst h1
    rw [q_w_ne (by omega), q_w_same]
    unfold q_new
    rw [if_pos rfl]
  by_cases h2 : 173 + 17 * r ≤ k ∧ k < 190 + 17 * r
  · obtain ⟨j, hj, rfl⟩ : ∃ j, j < 17 ∧ k = 173 + 17 * r + j := ⟨k - (173 + 17 * r), by omega, by omega⟩
    rw [q_new_in hj]
    rcases i_17 hj with rfl | rfl | rfl | rfl | rfl | rfl | rfl | rfl | rfl | rfl | rfl | rfl | rfl | rfl | rfl | rfl | rfl
    all_goals simp (disch := omega) only [q_w_same, q_w_ne, q_zr_in]
    all_goals rfl
  · rw [q_new_out h1 (by omega)]
    simp (disch := omega) only [q_w_ne, q_zr_out]
theorem a_ask {o L : Nat} {S : Nat → Int32} {i : Int32} {M : z_Mem} {s : q_S} {c : z_Mem → Option (Int32 × z_Mem)} (hI : q_Inv s) (hc : c_all o M s) (hm : m_all (o + 548) M s) (h1 : z_inb (i + (1 : Int32)) L) (h2 : z_inb (i + (2 : Int32)) L) (h3 : z_inb (i + (3 : Int32)) L) (h4 : z_inb (i + (4 : Int32)) L) (h5 : z_inb (i + (5 : Int32)) L) : ∃ M' s', Fc_1325 o L S i M c = c M' ∧ c_all o M' s' ∧ m_all (o + 548) M' s' ∧ q_Inv s' := by
  generalize hp0 : S (i + 1).toNatClampNeg = p0
  generalize hp1 : S (i + 2).toNatClampNeg = p1
  generalize hp2 : S (i + 3).toNatClampNeg = p2
  generalize hp3 : S (i + 4).toNatClampNeg = p3
  generalize hp4 : S (i + 5).toNatClampNeg = p4
  obtain ⟨Z, hZ2, hZ8, hZ⟩ := hI.1.I.zones
  have hN24 := hI.1.I.rides24
  have hT4 := hI.1.I.taxis4
  have cz := fun p => a_zone_c hc hZ p
  have mz := fun (N : z_Mem) (hN : m_all (o + 548) N s) p => a_zone_m (m := o + 548) (N := z_wI N (o + 548) 0 0) (s := s) (by omega) (m_zones (hN.thr 0) hZ) p
  rcases q_split Z (by omega) p0 with ⟨a, ha, rfl⟩ | hb
  case inr =>
    obtain ⟨M', e, g1, g2⟩ := k_ask (S := S) (c := c) (y := .error 1) q_c2n hm h1 h2 h3 h4 h5 (l_of (c_thr hc (by
      rw [hp0, hp1, hp2, hp3, hp4]
      unfold F_Sys_ask
      simp only [zxm, zb, (cz _).1 hb])) (fun e M1 he => by cases he; rfl)) (fun N hN => m_err hN (b := 0) (v := 1) rfl (by
      rw [hp0, hp1, hp2, hp3, hp4]
      unfold F_Model_ask
      simp only [zl]
      rw [zb2_ok ((mz N hN _).1 hb)]
      rfl))
    exact ⟨M', s, e, g1, g2, hI⟩
  have ga := q_good (n := Z) (by omega) ha
  rcases q_split Z (by omega) p1 with ⟨b, hbz, rfl⟩ | hb
  case inr =>
    obtain ⟨M', e, g1, g2⟩ := k_ask (S := S) (c := c) (y := .error 1) q_c2n hm h1 h2 h3 h4 h5 (l_of (c_thr hc (by
      rw [hp0, hp1, hp2, hp3, hp4]
      unfold F_Sys_ask
      simp only [zxm, zb, (cz _).2 ga, (cz _).1 hb])) (fun e M1 he => by cases he; rfl)) (fun N hN => m_err hN (b := 0) (v := 1) rfl (by
      rw [hp0, hp1, hp2, hp3, hp4]
      unfold F_Model_ask
      simp only [zl]
      rw [zb2_ok ((mz N hN _).2 ga), if_pos rfl, zb2_ok ((mz N hN _).1 hb)]
      rfl))
    exact ⟨M', s, e, g1, g2, hI⟩
  have gb := q_good (n := Z) (by omega) hbz
  -- the reference's checks
  have mJ : ∀ N, m_all (o + 548) N s → (((p2 < 1 ∨ (6 : Int32) < p2) ∨ (p3 < 0 ∨ (600 : Int32) < p3) ∨ (p4 < 0 ∨ (200 : Int32) < p4) ∨ Int32.ofNat a = Int32.ofNat b) → F_Model_ask (o + 548) (Int32.ofNat a) (Int32.ofNat b) p2 p3 p4 N = F_Model_ask_J72 (o + 548) (Int32.ofNat a) (Int32.ofNat b) p2 p3 p4 0 (z_wI N (o + 548) 0 0)) ∧ (¬ ((p2 < 1 ∨ (6 : Int32) < p2) ∨ (p3 < 0 ∨ (600 : Int32) < p3) ∨ (p4 < 0 ∨ (200 : Int32) < p4) ∨ Int32.ofNat a = Int32.ofNat b) → F_Model_ask (o + 548) (Int32.ofNat a) (Int32.ofNat b) p2 p3 p4 N = F_Model_ask_J72 (o + 548) (Int32.ofNat a) (Int32.ofNat b) p2 p3 p4 1 (z_wI N (o + 548) 0 0)) := fun N hN => by
    have inr : ∀ (p lo hi : Int32) N, F_Model_in p.toInt64 lo.toInt64 hi.toInt64 N = some (if p < lo ∨ hi < p then 0 else 1) := fun p lo hi N => by
      rw [p_in]
      by_cases q1 : p < lo
      · rw [if_pos q1, if_pos (show p < lo ∨ hi < p from Or.inl q1)]
      · by_cases q2 : hi < p
        · rw [if_neg q1, if_pos q2, if_pos (show p < lo ∨ hi < p from Or.inr q2)]
        · rw [if_neg q1, if_neg q2, if_neg (by rintro (z | z) <;> contradiction)]
    have e1 := inr p2 1 6 (z_wI N (o + 548) 0 0)
    have e2 := inr p3 0 600 (z_wI N (o + 548) 0 0)
    have e3 := inr p4 0 200 (z_wI N (o + 548) 0 0)
    have hd : F_Model_ask (o + 548) (Int32.ofNat a) (Int32.ofNat b) p2 p3 p4 N = (if (if p2 < 1 ∨ (6 : Int32) < p2 then (0 : Int32) else 1) = 0 then F_Model_ask_J72 (o + 548) (Int32.ofNat a) (Int32.ofNat b) p2 p3 p4 0 (z_wI N (o + 548) 0 0) else if (if p3 < 0 ∨ (600 : Int32) < p3 then (0 : Int32) else 1) = 0 then F_Model_ask_J72 (o + 548) (Int32.ofNat a) (Int32.ofNat b) p2 p3 p4 0 (z_wI N (o + 548) 0 0) else if (if p4 < 0 ∨ (200 : Int32) < p4 then (0 : Int32) else 1) = 0 then F_Model_ask_J72 (o + 548) (Int32.ofNat a) (Int32.ofNat b) p2 p3 p4 0 (z_wI N (o + 548) 0 0) else if Int32.ofNat a = Int32.ofNat b then F_Model_ask_J72 (o + 548) (Int32.ofNat a) (Int32.ofNat b) p2 p3 p4 0 (z_wI N (o + 548) 0 0) else F_Model_ask_J72 (o + 548) (Int32.ofNat a) (Int32.ofNat b) p2 p3 p4 1 (z_wI N (o + 548) 0 0)) := by
      unfold F_Model_ask F_Model_ask_J71
      simp only [zl]
      rw [zb2_ok ((mz N hN _).2 ga), if_pos rfl, zb2_ok ((mz N hN _).2 gb), if_pos rfl]
      refine (congrArg (fun z => zb z _) e1).trans ?_
      refine congrArg (fun z : Option (Int32 × z_Mem) => if (if p2 < 1 ∨ (6 : Int32) < p2 then (0 : Int32) else 1) = 0 then F_Model_ask_J72 (o + 548) (Int32.ofNat a) (Int32.ofNat b) p2 p3 p4 0 (z_wI N (o + 548) 0 0) else z) ?_
      refine (congrArg (fun z => zb z _) e2).trans ?_
      refine congrArg (fun z : Option (Int32 × z_Mem) => if (if p3 < 0 ∨ (600 : Int32) < p3 then (0 : Int32) else 1) = 0 then F_Model_ask_J72 (o + 548) (Int32.ofNat a) (Int32.ofNat b) p2 p3 p4 0 (z_wI N (o + 548) 0 0) else z) ?_
      exact congrArg (fun z => zb z _) e3
    rw [hd]
    by_cases q1 : p2 < 1 ∨ (6 : Int32) < p2
    · rw [if_pos q1, if_pos rfl]
      exact ⟨fun _ => rfl, fun z => absurd (Or.inl q1) z⟩
    · rw [if_neg q1, if_neg (by decide)]
      by_cases q2 : p3 < 0 ∨ (600 : Int32) < p3
      · rw [if_pos q2, if_pos rfl]
        exact ⟨fun _ => rfl, fun z => absurd (Or.inr (Or.inl q2)) z⟩
      · rw [if_neg q2, if_neg (by decide)]
        by_cases q3 : p4 < 0 ∨ (200 : Int32) < p4
        · rw [if_pos q3, if_pos rfl]
          exact ⟨fun _ => rfl, fun z => absurd (Or.inr (Or.inr (Or.inl q3))) z⟩
        · rw [if_neg q3, if_neg (by decide)]
          by_cases q4 : Int32.ofNat a = Int32.ofNat b
          · rw [if_pos q4]
            exact ⟨fun _ => rfl, fun z => absurd (Or.inr (Or.inr (Or.inr q4))) z⟩
          · rw [if_neg q4]
            refine ⟨fun z => ?_, fun _ => rfl⟩
            rcases z with z | z | z | z <;> contradiction
  by_cases hbad : (p2 < 1 ∨ (6 : Int32) < p2) ∨ (p3 < 0 ∨ (600 : Int32) < p3) ∨ (p4 < 0 ∨ (200 : Int32) < p4) ∨ Int32.ofNat a = Int32.ofNat b
  · obtain ⟨M', e, g1, g2⟩ := k_ask (S := S) (c := c) (y := .error 2) q_c2n hm h1 h2 h3 h4 h5 (l_of (c_thr hc (by
      rw [hp0, hp1, hp2, hp3, hp4]
      unfold F_Sys_ask
      simp only [zxm, zb, (cz _).2 ga, (cz _).2 gb]
      by_cases q1 : p2 < 1 ∨ (6 : Int32) < p2
      · simp only [(a_range_c p2 1 6 M).1 q1]
      · simp only [(a_range_c p2 1 6 M).2 q1]
        by_cases q2 : p3 < 0 ∨ (600 : Int32) < p3
        · simp only [(a_range_c p3 0 600 M).1 q2]
        · simp only [(a_range_c p3 0 600 M).2 q2]
          by_cases q3 : p4 < 0 ∨ (200 : Int32) < p4
          · simp only [(a_range_c p4 0 200 M).1 q3]
          · simp only [(a_range_c p4 0 200 M).2 q3]
            rw [if_pos (((hbad.resolve_left q1).resolve_left q2).resolve_left q3)])) (fun e M1 he => by cases he; rfl)) (fun N hN => m_err hN (b := 0) (v := 2) rfl (by
      rw [hp0, hp1, hp2, hp3, hp4, (mJ N hN).1 hbad]
      unfold F_Model_ask_J72
      rw [zb2_ok ((p_fails (o + 548) 0 2 _).trans (by rw [if_pos rfl])), if_neg (by decide)]))
    exact ⟨M', s, e, g1, g2, hI⟩
  have q1 : ¬ (p2 < 1 ∨ (6 : Int32) < p2) := fun z => hbad (Or.inl z)
  have q2 : ¬ (p3 < 0 ∨ (600 : Int32) < p3) := fun z => hbad (Or.inr (Or.inl z))
  have q3 : ¬ (p4 < 0 ∨ (200 : Int32) < p4) := fun z => hbad (Or.inr (Or.inr (Or.inl z)))
  have q4 : ¬ Int32.ofNat a = Int32.ofNat b := fun z => hbad (Or.inr (Or.inr (Or.inr z)))
  have rN : M.1 (o + 5) 4 = Int32.ofNat (q_N s.2.1) := hc.2.1.2.2.2.2.2.1.trans hI.1.I.rides
  have hz1 : z_inb (1 : Int32) 581 := by decide
  have hz0 : z_inb (0 : Int32) 581 := by decide
  by_cases hfull : 24 ≤ q_N s.2.1
  · have h24 : q_N s.2.1 = 24 := by omega
    obtain ⟨M', e, g1, g2⟩ := k_ask (S := S) (c := c) (y := .ok (-2)) (s' := s) q_c2n hm h1 h2 h3 h4 h5 (l_of (c_ok (M' := M) (by
      rw [hp0, hp1, hp2, hp3, hp4]
      unfold F_Sys_ask
      simp only [zxm, zb, (cz _).2 ga, (cz _).2 gb, (a_range_c p2 1 6 M).2 q1, (a_range_c p3 0 600 M).2 q2, (a_range_c p4 0 200 M).2 q3, zl]
      rw [if_neg q4, rN, h24, if_neg (by decide), if_neg (by decide)]) hc q_C.rfl') (fun e M1 he => by cases he)) (fun N hN => m_val hN (b := -2) rfl (by
      have hN0 := hN.thr 0
      rw [hp0, hp1, hp2, hp3, hp4, (mJ N hN).2 hbad]
      unfold F_Model_ask_J72
      rw [zb2_ok ((p_fails (o + 548) 1 2 _).trans (by rw [if_neg (by decide)])), if_pos rfl, if_pos hz1, show (z_wI N (o + 548) 0 0).1 (o + 548 + 1) (1 : Int32).toNatClampNeg = Int32.ofNat (q_N s.2.1) from m_rides hI.1.I hN0, h24, if_pos (by rfl)]))
    exact ⟨M', s, e, g1, g2, hI⟩
  have hr : q_N s.2.1 < 24 := by omega
  obtain ⟨p, hp6, rfl⟩ := i_ex2 (p := p2) (N := 7) (fun z => q1 (Or.inl (by
    rw [Int32.lt_iff_toInt_lt] at z ⊢
    have e0 : (0 : Int32).toInt = 0 := rfl
    have e1 : (1 : Int32).toInt = 1 := rfl
    omega))) (by
    have z2 : ¬ (6 : Int32) < p2 := fun z => q1 (Or.inr z)
    rw [Int32.lt_iff_toInt_lt] at z2 ⊢
    have b1 : (6 : Int32).toInt = 6 := rfl
    have b2 : (Int32.ofNat 7).toInt = 7 := rfl
    omega) (by omega)
  have hp1' : 1 ≤ p := by
    refine Decidable.byContradiction fun z => q1 (Or.inl ?_)
    have : p = 0 := by omega
    rw [this]
    decide
  obtain ⟨M12, e12, c12, k12, -⟩ := a_note_c (o := o) hI.1.I hI.1.2.1.abs hc
  have hIn := hI.noted
  generalize hsn : q_noted s = sn at c12 hIn
  have row : s.2.1 = sn.2.1 := by rw [← hsn]; rfl
  have con : s.1 = sn.1 := by rw [← hsn]; rfl
  rw [row] at hr rN
  have hdir : q_way sn.1 (Int32.ofNat a) (Int32.ofNat b) = sn.1 (8 * a + b) := by
    unfold q_way
    rw [i_cl (by omega), i_cl (by omega)]
  -- the class makes the ride
  obtain ⟨M15, e15, hM15⟩ : ∃ M15, F_Ride_begin (o + 5 + 16 + q_N sn.2.1) (Int32.ofNat a) (Int32.ofNat b) (Int32.ofNat p) p4 M12 = some M15 ∧ M15 = z_wI (z_wI (z_wI (z_wI (z_wI (z_wI (z_wI (z_wI (z_wI (z_wI (z_wI (z_wI (z_wI (z_wI (z_wI M12 (o + 5 + 16 + q_N sn.2.1) 0 0) (o + 5 + 16 + q_N sn.2.1) 1 (Int32.ofNat a)) (o + 5 + 16 + q_N sn.2.1) 2 (Int32.ofNat b)) (o + 5 + 16 + q_N sn.2.1) 3 (Int32.ofNat p)) (o + 5 + 16 + q_N sn.2.1) 6 p4) (o + 5 + 16 + q_N sn.2.1) 9 (-1)) (o + 5 + 16 + q_N sn.2.1) 10 (-1)) (o + 5 + 16 + q_N sn.2.1) 11 (-1)) (o + 5 + 16 + q_N sn.2.1) 12 0) (o + 5 + 16 + q_N sn.2.1) 13 0) (o + 5 + 16 + q_N sn.2.1) 14 (-1)) (o + 5 + 16 + q_N sn.2.1) 15 (-1)) (o + 5 + 16 + q_N sn.2.1) 16 (-1)) (o + 5 + 16 + q_N sn.2.1) 17 (-1)) (o + 5 + 16 + q_N sn.2.1) 18 (-1) := ⟨_, rfl, rfl⟩
  have r15 : ∀ x, x ≠ o + 5 + 16 + q_N sn.2.1 → M15.1 x = M12.1 x := fun x hx => by
    rw [hM15]
    exact funext fun k => by simp (disch := exact hx) only [w_addr]
  have r15' : M15.2 = M12.2 := by rw [hM15]; rfl
  have c15 := c12.spare (M' := M15) (Nat.le_refl _) hr r15
  have now15 : M15.1 (o + 5) 0 = sn.2.1 0 := c15.2.1.2.1
  have c16 := c15.spare (M' := z_wI M15 (o + 5 + 16 + q_N sn.2.1) 4 (sn.2.1 0 + p3)) (Nat.le_refl _) hr (fun x hx => funext fun k => w_addr k hx)
  have c18 := c16.spare (M' := z_wI (z_wI M15 (o + 5 + 16 + q_N sn.2.1) 4 (sn.2.1 0 + p3)) (o + 5 + 16 + q_N sn.2.1) 5 (sn.2.1 0 + p3 + sn.2.1 3)) (Nat.le_refl _) hr (fun x hx => funext fun k => w_addr k hx)
  generalize hM18 : z_wI (z_wI M15 (o + 5 + 16 + q_N sn.2.1) 4 (sn.2.1 0 + p3)) (o + 5 + 16 + q_N sn.2.1) 5 (sn.2.1 0 + p3 + sn.2.1 3) = M18 at c18
  have eway := a_way_c c18 (show a < 8 by omega) (show b < 8 by omega)
  have s6 : M18.1 (o + 5 + 16 + q_N sn.2.1) 6 = p4 := by
    rw [← hM18, hM15]
    simp (disch := decide) only [w_slot, w_same]
  have edir : F_Ride_setDirect (o + 5 + 16 + q_N sn.2.1) (sn.1 (8 * a + b)) M18 = some (z_wI (z_wI M18 (o + 5 + 16 + q_N sn.2.1) 7 (sn.1 (8 * a + b))) (o + 5 + 16 + q_N sn.2.1) 8 (q_most (sn.1 (8 * a + b)) p4)) := by
    unfold F_Ride_setDirect F_Ride_setDirect_J27 q_most
    simp only [zl]
    by_cases hd : sn.1 (8 * a + b) = -1
    · rw [if_pos hd, if_pos hd]
    · rw [if_neg hd, if_neg hd, w_slot _ (by decide), s6]
  generalize hM20 : z_wI (z_wI M18 (o + 5 + 16 + q_N sn.2.1) 7 (sn.1 (8 * a + b))) (o + 5 + 16 + q_N sn.2.1) 8 (q_most (sn.1 (8 * a + b)) p4) = M20 at edir
  have r20 : ∀ x, x ≠ o + 5 + 16 + q_N sn.2.1 → M20.1 x = M12.1 x := fun x hx => by
    rw [← hM20, ← hM18, ← r15 x hx]
    exact funext fun k => by simp (disch := exact hx) only [w_addr]
  have r20' : M20.2 = M12.2 := by rw [← hM20, ← hM18, ← r15']; rfl
  have cnt20 : M20.1 (o + 5) 4 = Int32.ofNat (q_N sn.2.1) := by
    rw [r20 _ (by omega)]
    exact c12.2.1.2.2.2.2.2.1.trans hIn.1.I.rides
  have ev : ∀ j, (z_wI M20 (o + 5) 4 (Int32.ofNat (q_N sn.2.1 + 1))).1 (o + 5 + 16 + q_N sn.2.1) j = M20.1 (o + 5 + 16 + q_N sn.2.1) j := fun j => w_addr j (by omega)
  have cr21 : c_ride (z_wI M20 (o + 5) 4 (Int32.ofNat (q_N sn.2.1 + 1))) (o + 5 + 16 + q_N sn.2.1) sn.1 (q_new sn.2.1 (q_N sn.2.1) (q_v (Int32.ofNat a) (Int32.ofNat b) (Int32.ofNat p) (sn.2.1 0 + p3) (sn.2.1 0 + p3 + sn.2.1 3) p4 0 (-1) (-1) (-1) (-1) (-1))) (q_N sn.2.1) := by
    refine c_ride.mk ?_ ?_ ?_ ?_ ?_ ?_ ?_ ?_ ?_ ?_ ?_ ?_ ?_ ?_ (fun _ => ⟨?_, ?_, ?_, ?_⟩) ?_
    all_goals rw [ev, ← hM20, ← hM18, hM15]
    all_goals simp (disch := decide) only [w_slot, w_same]
    · exact hdir.symm
    · rw [hdir]
  have c21 := c12.more (M' := z_wI M20 (o + 5) 4 (Int32.ofNat (q_N sn.2.1 + 1))) hr (fun x hx1 hx2 => (funext fun k => w_addr k hx1).trans (r20 x hx2)) (w_same _ _ _ _) (fun k hk => (w_slot _ hk).trans (congrFun (r20 _ (by omega)) k)) cr21
  obtain ⟨st', hst', ⟨M', eF, cF, gF⟩, hMF⟩ := a_offers (o := o) (a := a) (b := b) (p := p) (rd := sn.2.1 0 + p3) (la := sn.2.1 0 + p3 + sn.2.1 3) (de := p4) hIn.1 hr (by omega) (by omega) hp1' (by omega) (q_T sn.1) 0 none (by omega) (fun g hg => by cases hg) 10000 _ (by rw [← con]; omega) c21
  have hI2 : q_Inv (q_row sn (q_rowM sn.2.1 (q_N sn.2.1) (Int32.ofNat a) (Int32.ofNat b) (Int32.ofNat p) (sn.2.1 0 + p3) (sn.2.1 0 + p3 + sn.2.1 3) p4 st' (sn.2.1 0 + sn.2.1 5))) := by
    have hq : q_In (q_row sn (q_rowM sn.2.1 (q_N sn.2.1) (Int32.ofNat a) (Int32.ofNat b) (Int32.ofNat p) (sn.2.1 0 + p3) (sn.2.1 0 + p3 + sn.2.1 3) p4 st' (sn.2.1 0 + sn.2.1 5))) := by
      cases st' <;> exact hIn.1.new hr (by omega) (by omega) hp1' (by omega) (by decide)
    refine ⟨hq, fun u hu hu0 => ?_, hIn.2.2.1, hIn.2.2.2⟩
    have hu : u < q_N (q_rowM sn.2.1 (q_N sn.2.1) (Int32.ofNat a) (Int32.ofNat b) (Int32.ofNat p) (sn.2.1 0 + p3) (sn.2.1 0 + p3 + sn.2.1 3) p4 st' (sn.2.1 0 + sn.2.1 5)) := hu
    rw [q_rowM_N hr] at hu
    have hu0 : q_rowM sn.2.1 (q_N sn.2.1) (Int32.ofNat a) (Int32.ofNat b) (Int32.ofNat p) (sn.2.1 0 + p3) (sn.2.1 0 + p3 + sn.2.1 3) p4 st' (sn.2.1 0 + sn.2.1 5) (173 + 17 * u) = 0 := hu0
    show (∃ t, t < q_T sn.1 ∧ q_rowM sn.2.1 (q_N sn.2.1) (Int32.ofNat a) (Int32.ofNat b) (Int32.ofNat p) (sn.2.1 0 + p3) (sn.2.1 0 + p3 + sn.2.1 3) p4 st' (sn.2.1 0 + sn.2.1 5) (185 + 17 * u) = Int32.ofNat t) ∧ q_rowM sn.2.1 (q_N sn.2.1) (Int32.ofNat a) (Int32.ofNat b) (Int32.ofNat p) (sn.2.1 0 + p3) (sn.2.1 0 + p3 + sn.2.1 3) p4 st' (sn.2.1 0 + sn.2.1 5) (184 + 17 * u) = 0
    by_cases hur : u = q_N sn.2.1
    · subst hur
      rw [show 173 + 17 * q_N sn.2.1 = 173 + 17 * q_N sn.2.1 + 0 from rfl] at hu0
      rw [show 185 + 17 * q_N sn.2.1 = 173 + 17 * q_N sn.2.1 + 12 by omega, show 184 + 17 * q_N sn.2.1 = 173 + 17 * q_N sn.2.1 + 11 by omega]
      cases st' with
      | none =>
        have : (4 : Int32) = 0 := (q_new_in (A := sn.2.1) (v := q_v (Int32.ofNat a) (Int32.ofNat b) (Int32.ofNat p) (sn.2.1 0 + p3) (sn.2.1 0 + p3 + sn.2.1 3) p4 4 0 0 0 0 (sn.2.1 0 + sn.2.1 5)) (r := q_N sn.2.1) (j := 0) (by omega)).symm.trans hu0
        exact absurd this (by decide)
      | some g => exact ⟨⟨g.1, hst' g rfl, q_new_in (by omega)⟩, q_new_in (by omega)⟩
    · rw [q_rowM_out (by omega) (by omega)] at hu0
      rw [q_rowM_out (by omega) (by omega), q_rowM_out (by omega) (by omega)]
      exact hIn.2.1 u (by omega) hu0
  obtain ⟨M2, e, g1, g2⟩ := k_ask (S := S) (c := c) (y := .ok (Int32.ofNat (q_N sn.2.1))) (s' := q_row sn (q_rowM sn.2.1 (q_N sn.2.1) (Int32.ofNat a) (Int32.ofNat b) (Int32.ofNat p) (sn.2.1 0 + p3) (sn.2.1 0 + p3 + sn.2.1 3) p4 st' (sn.2.1 0 + sn.2.1 5))) q_c2n hm h1 h2 h3 h4 h5 (l_of (c_ok (M' := M') (by
    have ck : (Int32.ofNat (q_N sn.2.1)).toNatClampNeg = q_N sn.2.1 := i_cl (by omega)
    rw [hp0, hp1, hp2, hp3, hp4]
    unfold F_Sys_ask
    simp only [zxm, zb, (cz _).2 ga, (cz _).2 gb, (a_range_c (Int32.ofNat p) 1 6 M).2 q1, (a_range_c p3 0 600 M).2 q2, (a_range_c p4 0 200 M).2 q3, zl]
    rw [if_neg q4, rN, if_neg (i_nn (by omega)), if_pos (i_ltN24 hr), e12]
    simp only [ck, Nat.one_mul]
    rw [if_pos ((i_inb (by omega)).mpr hr), e15]
    simp only
    rw [now15, a_ruleV (kl := 0) (k := 0) c16 (by omega) rfl]
    simp only
    rw [w_same, show sn.2.1 (3 + 0) = sn.2.1 3 from rfl, hM18, eway]
    simp only
    rw [edir]
    simp only
    rw [cnt20, i_succ]
    have eF' : F_Sys_findOffer o (o + 5 + 16 + q_N sn.2.1) (Int32.ofNat (q_N sn.2.1)) (z_wI M20 (o + 5) 4 (Int32.ofNat (q_N sn.2.1 + 1))) = some M' := eF
    rw [eF']) cF (k12.tr ((show q_C o M12 (z_wI M20 (o + 5) 4 (Int32.ofNat (q_N sn.2.1 + 1))) from fun x hx => ⟨(funext fun k => w_addr k (by unfold q_inM at hx; omega)).trans (r20 x (by unfold q_inM at hx; omega)), by rw [← r20']; rfl⟩).tr gF.C))) (fun e M1 he => by cases he)) (fun N hN => by
    have hN0 := hN.thr 0
    obtain ⟨N11, f11, m11, q11, n11, -⟩ := a_note_m hN0
    rw [hsn] at m11
    have rN11 : N11.1 (o + 548 + 1) (1 : Int32).toNatClampNeg = Int32.ofNat (q_N sn.2.1) := m_rides hIn.1.I m11
    -- seventeen numbers are cleared
    have zero : ∀ (k j f : Nat) (N : z_Mem), j + k = 17 → k < f → m_all (o + 548) N (q_row sn (q_zr sn.2.1 (q_N sn.2.1) j)) → (∀ x, x ≠ o + 549 → N.1 x = N11.1 x) → N.2 = N11.2 → ∃ N', F_Model_ask_L110 (o + 548) f (Int32.ofNat a) (Int32.ofNat b) (Int32.ofNat p) p3 p4 (Int32.ofNat (q_N sn.2.1)) (Int32.ofNat j) N = some (Int32.ofNat (q_N sn.2.1), N') ∧ m_all (o + 548) N' (q_row sn (q_rowM sn.2.1 (q_N sn.2.1) (Int32.ofNat a) (Int32.ofNat b) (Int32.ofNat p) (sn.2.1 0 + p3) (sn.2.1 0 + p3 + sn.2.1 3) p4 st' (sn.2.1 0 + sn.2.1 5))) ∧ m_go2 (o + 548) N11 N' := by
      intro k
      induction k with
      | zero =>
        intro j f N hj hf hm0 hx hx2
        obtain ⟨f, rfl⟩ : ∃ g, f = g + 1 := ⟨f - 1, by omega⟩
        have hj' : j = 17 := by omega
        subst hj'
        have m3 := ((hm0.w (k := 173 + 17 * q_N sn.2.1 + 1) (v := Int32.ofNat a)).w (k := 173 + 17 * q_N sn.2.1 + 2) (v := Int32.ofNat b)).w (k := 173 + 17 * q_N sn.2.1 + 3) (v := Int32.ofNat p)
        generalize hN3 : z_wI (z_wI (z_wI N (o + 548 + 1) (173 + 17 * q_N sn.2.1 + 1) (Int32.ofNat a)) (o + 548 + 1) (173 + 17 * q_N sn.2.1 + 2) (Int32.ofNat b)) (o + 548 + 1) (173 + 17 * q_N sn.2.1 + 3) (Int32.ofNat p) = N3 at m3
        have now3 : N3.1 (o + 548 + 1) (0 : Int32).toNatClampNeg = sn.2.1 0 := by
          refine (m_at m3 (k := 0) (by omega)).trans ?_
          rw [q_up_ne (by omega), q_up_ne (by omega), q_up_ne (by omega)]
          exact q_zr_out (by omega)
        have m4 := m3.w (k := 173 + 17 * q_N sn.2.1 + 4) (v := sn.2.1 0 + p3)
        have now4 : (z_wI N3 (o + 548 + 1) (173 + 17 * q_N sn.2.1 + 4) (sn.2.1 0 + p3)).1 (o + 548 + 1) (0 : Int32).toNatClampNeg = sn.2.1 0 := (w_slot _ (by show (0 : Int32).toNatClampNeg ≠ _; rw [show (0 : Int32).toNatClampNeg = 0 from rfl]; omega)).trans now3
        have rule : F_Model_ruled (o + 548) 0 (z_wI N3 (o + 548 + 1) (173 + 17 * q_N sn.2.1 + 4) (sn.2.1 0 + p3)) = some (sn.2.1 3) := by
          rw [m_ruledL (kl := 0) m4 0 (by omega) rfl]
          rw [q_up_ne (by omega), q_up_ne (by omega), q_up_ne (by omega), q_up_ne (by omega)]
          exact congrArg some (q_zr_out (k := 3) (by omega))
        have m9 := ((((m4.w (k := 173 + 17 * q_N sn.2.1 + 5) (v := sn.2.1 0 + p3 + sn.2.1 3)).w (k := 173 + 17 * q_N sn.2.1 + 6) (v := p4)).w (k := 173 + 17 * q_N sn.2.1 + 7) (v := -1)).w (k := 173 + 17 * q_N sn.2.1 + 8) (v := -1)).w (k := 173 + 17 * q_N sn.2.1 + 9) (v := -1)
        generalize hN9 : z_wI (z_wI (z_wI (z_wI (z_wI (z_wI N3 (o + 548 + 1) (173 + 17 * q_N sn.2.1 + 4) (sn.2.1 0 + p3)) (o + 548 + 1) (173 + 17 * q_N sn.2.1 + 5) (sn.2.1 0 + p3 + sn.2.1 3)) (o + 548 + 1) (173 + 17 * q_N sn.2.1 + 6) p4) (o + 548 + 1) (173 + 17 * q_N sn.2.1 + 7) (-1)) (o + 548 + 1) (173 + 17 * q_N sn.2.1 + 8) (-1)) (o + 548 + 1) (173 + 17 * q_N sn.2.1 + 9) (-1) = N9 at m9
        have cnt9 : N9.1 (o + 548 + 1) (1 : Int32).toNatClampNeg = Int32.ofNat (q_N sn.2.1) := by
          refine (m_at m9 (k := 1) (by omega)).trans ?_
          rw [q_up_ne (by omega), q_up_ne (by omega), q_up_ne (by omega), q_up_ne (by omega), q_up_ne (by omega), q_up_ne (by omega), q_up_ne (by omega), q_up_ne (by omega), q_up_ne (by omega)]
          exact (q_zr_out (by omega)).trans hIn.1.I.rides
        have m11' := (m9.w (k := 1) (v := Int32.ofNat (q_N sn.2.1 + 1))).w (k := 173 + 17 * q_N sn.2.1 + 0) (v := 4)
        have m11'' : m_all (o + 548) (z_wI (z_wI N9 (o + 548 + 1) 1 (Int32.ofNat (q_N sn.2.1 + 1))) (o + 548 + 1) (173 + 17 * q_N sn.2.1 + 0) 4) (q_row sn (q_rowM sn.2.1 (q_N sn.2.1) (Int32.ofNat a) (Int32.ofNat b) (Int32.ofNat p) (sn.2.1 0 + p3) (sn.2.1 0 + p3 + sn.2.1 3) p4 none 0)) := by
          have := q_ask_row (A := sn.2.1) (r := q_N sn.2.1) (f := Int32.ofNat a) (t := Int32.ofNat b) (p := Int32.ofNat p) (rd := sn.2.1 0 + p3) (la := sn.2.1 0 + p3 + sn.2.1 3) (de := p4) hr
          show m_all _ _ (q_row sn (q_new _ _ _))
          rw [← this]
          exact m11'
        obtain ⟨N', e', m', g'⟩ := hMF _ 10000 (by rw [← con]; omega) m11''
        have fr : ∀ x, x ≠ o + 548 + 1 → (z_wI (z_wI N9 (o + 548 + 1) 1 (Int32.ofNat (q_N sn.2.1 + 1))) (o + 548 + 1) (173 + 17 * q_N sn.2.1 + 0) 4).1 x = N11.1 x := fun x hx' => by
          rw [← hx x hx', ← hN9, ← hN3]
          exact funext fun k => by simp (disch := exact hx') only [w_addr]
        refine ⟨N', ?_, m', (m_go2.one fr (by rw [← hx2, ← hN9, ← hN3]; rfl)).tr g'⟩
        have hz0 : z_inb (0 : Int32) 581 := by decide
        unfold F_Model_ask_L110 F_Model_ask_B110
        rw [if_pos (by decide), zb_ok (m_sets (kl := 1) (k := 1) hr (by omega) rfl), zb_ok (m_sets (kl := 2) (k := 2) hr (by omega) rfl), zb_ok (m_sets (kl := 3) (k := 3) hr (by omega) rfl), hN3, if_pos hz0, now3, zb_ok (m_sets (kl := 4) (k := 4) hr (by omega) rfl), if_pos hz0, zb_ok rule, now4, zb_ok (m_sets (kl := 5) (k := 5) hr (by omega) rfl), zb_ok (m_sets (kl := 6) (k := 6) hr (by omega) rfl), zb_ok (m_sets (kl := 7) (k := 7) hr (by omega) rfl), zb_ok (m_sets (kl := 8) (k := 8) hr (by omega) rfl), zb_ok (m_sets (kl := 9) (k := 9) hr (by omega) rfl), hN9, if_pos hz1, if_pos hz1, cnt9, i_succ]
        simp only [zl]
        have eO : F_Model_offers (o + 548) (Int32.ofNat (q_N sn.2.1)) (z_wI N9 (o + 548 + 1) 1 (Int32.ofNat (q_N sn.2.1 + 1))) = some N' := by
          unfold F_Model_offers
          rw [zb_ok (m_sets (kl := 0) (k := 0) hr (by omega) rfl), i_0]
          exact e'
        rw [show (1 : Int32).toNatClampNeg = 1 from rfl, zb_ok eO]
      | succ k ih =>
        intro j f N hj hf hm0 hx hx2
        obtain ⟨f, rfl⟩ : ∃ g, f = g + 1 := ⟨f - 1, by omega⟩
        have m2 := hm0.w (k := 173 + 17 * q_N sn.2.1 + j) (v := 0)
        have er : q_up (q_row sn (q_zr sn.2.1 (q_N sn.2.1) j)) (173 + 17 * q_N sn.2.1 + j) 0 = q_row sn (q_zr sn.2.1 (q_N sn.2.1) (j + 1)) := congrArg (q_row sn) q_zr_step
        rw [er] at m2
        obtain ⟨N', e', m', g'⟩ := ih (j + 1) f _ (by omega) (by omega) m2 (fun x hx' => (funext fun k => w_addr k hx').trans (hx x hx')) hx2
        refine ⟨N', ?_, m', g'⟩
        unfold F_Model_ask_L110 F_Model_ask_B110
        rw [if_neg (show ¬ (17 : Int32) ≤ Int32.ofNat j from i_nle (a := 17) (by decide) (by omega) (by omega)), zb_ok (m_sets (k := j) hr (by omega) rfl), i_succ]
        exact e'
    obtain ⟨N', e', m', g'⟩ := zero 17 0 10000 N11 (by omega) (by omega) (by
      have : q_zr sn.2.1 (q_N sn.2.1) 0 = sn.2.1 := funext fun k => if_neg (by omega)
      rw [this]
      exact m11) (fun _ _ => rfl) rfl
    refine m_ok (N' := N') (b := Int32.ofNat (q_N sn.2.1)) ?_ rfl m' (by rw [g'.2.1 0 (by omega), n11 0 (by decide), w_same]) (q11.tr g'.M)
    rw [hp0, hp1, hp2, hp3, hp4, (mJ N hN).2 hbad]
    unfold F_Model_ask_J72
    rw [zb2_ok ((p_fails (o + 548) 1 2 _).trans (by rw [if_neg (by decide)])), if_pos rfl, if_pos hz1, show (z_wI N (o + 548) 0 0).1 (o + 548 + 1) (1 : Int32).toNatClampNeg = Int32.ofNat (q_N sn.2.1) from (m_rides hI.1.I hN0).trans (by rw [row]), if_neg (show ¬ Int32.ofNat (q_N sn.2.1) = (24 : Int32) from fun z => by
      have := (i_eq (b := 24) (by omega) (by decide)).mp z
      omega), zb_ok f11, if_pos hz1]
    simp only [zl]
    rw [rN11, i_0]
    exact e')
  exact ⟨M2, _, e, g1, g2, hI2⟩
