/-! ===== PURE: offer ===== -/
theorem a_offer {o L : Nat} {S : Nat → Int32} {i : Int32} {M : z_Mem} {s : q_S} {c : z_Mem → Option (Int32 × z_Mem)} (hI : q_I s) (hc : c_all o M s) (hm : m_all (o + 548) M s) (h1 : z_inb (i + (1 : Int32)) L) (h2 : z_inb (i + (2 : Int32)) L) : ∃ M', Fc_806 o L S i M c = c M' ∧ c_all o M' s ∧ m_all (o + 548) M' s := by
  generalize hp : S (i + 1).toNatClampNeg = p
  generalize hq : S (i + 2).toNatClampNeg = q
  have hN := hI.rides24
  have ct := a_ride_c hI hc
  have mt := fun (N : z_Mem) (hN : m_all (o + 548) N s) p => a_ride_m (m := o + 548) (N := z_wI N (o + 548) 0 0) (R := q_N s.2.1) (by omega) (m_rides hI (hN.thr 0)) p
  rcases q_split (q_N s.2.1) (by omega) p with ⟨r, hr, rfl⟩ | hb
  · have gr := q_good (n := q_N s.2.1) (by omega) hr
    rcases q_split 5 (by omega) q with ⟨k, hk, rfl⟩ | hb
    · have gk := q_good (n := 5) (by omega) hk
      refine k_offer (y := .ok (if s.2.1 (173 + 17 * r) = 0 then s.2.1 (185 + 17 * r + k) else -1)) q_c1n hm h1 h2 (l_of' hc ?_ (fun e M1 he => by cases he)) (fun N hN => m_val hN rfl ?_)
      · rw [hp, hq]
        unfold F_Sys_offer
        have a2 : Int32.ofNat k ≤ (4 : Int32) := (i_le (b := 4) (by omega) (by decide)).mpr (by omega)
        simp only [zxp, zb, (ct _).2 r hr rfl]
        rw [if_neg (i_nn (by omega)), if_pos a2]
        obtain ⟨x0, -, -, -, -, -, -, -, -, -, -, -, -, -, xo, xl⟩ := hc.2.1.2.2.2.2.2.2.2.2 r hr
        rw [x0]
        by_cases h0 : s.2.1 (173 + 17 * r) = 0
        · rw [if_pos h0, if_pos h0]
          obtain ⟨y0, y1, y2, y3⟩ := xo h0
          rcases (show k = 0 ∨ k = 1 ∨ k = 2 ∨ k = 3 ∨ k = 4 by omega) with rfl | rfl | rfl | rfl | rfl
          · rw [if_pos (by decide : Int32.ofNat 0 = 0)]
            exact congrArg some (congrArg Except.ok (y0.trans (congrArg s.2.1 (by omega))))
          · rw [if_neg (by decide : ¬ Int32.ofNat 1 = 0), if_pos (by decide : Int32.ofNat 1 = 1)]
            exact congrArg some (congrArg Except.ok (y1.trans (congrArg s.2.1 (by omega))))
          · rw [if_neg (by decide : ¬ Int32.ofNat 2 = 0), if_neg (by decide : ¬ Int32.ofNat 2 = 1), if_pos (by decide : Int32.ofNat 2 = 2)]
            exact congrArg some (congrArg Except.ok (y2.trans (congrArg s.2.1 (by omega))))
          · rw [if_neg (by decide : ¬ Int32.ofNat 3 = 0), if_neg (by decide : ¬ Int32.ofNat 3 = 1), if_neg (by decide : ¬ Int32.ofNat 3 = 2), if_pos (by decide : Int32.ofNat 3 = 3)]
            exact congrArg some (congrArg Except.ok (y3.trans (congrArg s.2.1 (by omega))))
          · rw [if_neg (by decide : ¬ Int32.ofNat 4 = 0), if_neg (by decide : ¬ Int32.ofNat 4 = 1), if_neg (by decide : ¬ Int32.ofNat 4 = 2), if_neg (by decide : ¬ Int32.ofNat 4 = 3)]
            exact congrArg some (congrArg Except.ok (xl.trans (congrArg s.2.1 (by omega))))
        · rw [if_neg h0, if_neg h0]
      · rw [hp, hq]
        unfold F_Model_offer
        simp only [zl]
        rw [zb2_ok ((mt N hN _).2 gr)]
        rw [if_pos rfl, (p_upto (o + 548) 4 (Int32.ofNat k) 1 _ (by omega) (lo := 0) (hi := 4) (by decide) (by decide) _).2 gk, if_pos rfl]
        have hm0 := hN.thr 0
        rw [zb_ok (m_ofL (kl := 0) hm0 0 (show r < 24 by omega) (by omega) rfl), Nat.add_zero]
        by_cases h0 : s.2.1 (173 + 17 * r) = 0
        · rw [if_pos h0, if_pos h0]
          have e : (12 : Int32) + Int32.ofNat k = Int32.ofNat (12 + k) := i_add 12 k
          rw [e, zb_ok (m_of hm0 (show r < 24 by omega) (by omega))]
          exact z_pair (congrArg s.2.1 (by omega))
        · rw [if_neg h0, if_neg h0]
    · refine k_offer (y := .error 1) q_c1n hm h1 h2 (l_of' hc ?_ (fun e M1 he => by cases he; rfl)) (fun N hN => m_err hN (b := 0) (v := 1) rfl ?_)
      · rw [hp, hq]
        unfold F_Sys_offer F_Sys_offer_J15
        simp only [zxp, zb, (ct _).2 r hr rfl]
        by_cases h0 : q < 0
        · rw [if_pos h0]
        · have h6 : ¬ q ≤ 4 := fun z => by
            have h7 := hb.resolve_left h0
            have e7 : (Int32.ofNat 5).toInt = 5 := rfl
            have e6 : (4 : Int32).toInt = 4 := rfl
            rw [Int32.lt_iff_toInt_lt] at h7
            rw [Int32.le_iff_toInt_le] at z
            omega
          rw [if_neg h0, if_neg h6]
      · rw [hp, hq]
        unfold F_Model_offer
        simp only [zl]
        rw [zb2_ok ((mt N hN _).2 gr)]
        rw [if_pos rfl, (p_upto (o + 548) 4 q 1 _ (by omega) (lo := 0) (hi := 4) (by decide) (by decide) _).1 hb]
        rfl
  · refine k_offer (y := .error 1) q_c1n hm h1 h2 (l_of' hc ?_ (fun e M1 he => by cases he; rfl)) (fun N hN => m_err hN (b := 0) (v := 1) rfl ?_)
    · rw [hp, hq]
      unfold F_Sys_offer
      simp only [zxp, zb, (ct _).1 hb]
    · rw [hp, hq]
      unfold F_Model_offer
      simp only [zl]
      rw [zb2_ok ((mt N hN _).1 hb)]
      rfl
