/-! ===== PURE: ride, offer ===== -/
theorem m_ofL {m : Nat} {N : z_Mem} {s : q_S} (hm : m_all m N s) {r : Nat} (k : Nat) {kl : Int32} (hr : r < 24) (hk : k < 17) (hl : kl = Int32.ofNat k) : F_Model_of m (Int32.ofNat r) kl N = some (s.2.1 (173 + 17 * r + k)) := by
  subst hl
  exact m_of hm hr hk
theorem m_in2L {m : Nat} {N : z_Mem} {s : q_S} (hm : m_all m N s) {t : Nat} (k : Nat) {kl : Int32} (ht : t < 4) (hk : k < 40) (hl : kl = Int32.ofNat k) : F_Model_in2 m (Int32.ofNat t) kl N = some (s.2.1 (13 + 40 * t + k)) := by
  subst hl
  exact m_in2 hm ht hk
/-- what is known of each ride: its zones -/
def q_rideI (c A : q_R) (r : Nat) : Prop := (∃ a, a < 8 ∧ A (174 + 17 * r) = Int32.ofNat a) ∧ (∃ b, b < 8 ∧ A (175 + 17 * r) = Int32.ofNat b) ∧ (A (184 + 17 * r) = 0 ∨ A (184 + 17 * r) = 1)
theorem a_direct_m {m : Nat} {N : z_Mem} {s : q_S} (hm : m_all m N s) {r : Nat} (hr : r < 24) (hI : q_rideI s.1 s.2.1 r) : F_Model_directOf m (Int32.ofNat r) N = some (q_way s.1 (s.2.1 (174 + 17 * r)) (s.2.1 (175 + 17 * r))) := by
  obtain ⟨⟨a, ha, ea⟩, ⟨b, hb, eb⟩, -⟩ := hI
  unfold F_Model_directOf
  rw [zb_ok (m_ofL (kl := 1) hm 1 hr (by omega) rfl), zb_ok (m_ofL (kl := 2) hm 2 hr (by omega) rfl)]
  rw [show 173 + 17 * r + 1 = 174 + 17 * r by omega, show 173 + 17 * r + 2 = 175 + 17 * r by omega, ea, eb, zb_ok (a_way_m hm ha hb)]
  unfold q_way
  rw [i_cl (by omega), i_cl (by omega)]
theorem a_most_m {m : Nat} {N : z_Mem} {s : q_S} (hm : m_all m N s) {r : Nat} (hr : r < 24) (hI : q_rideI s.1 s.2.1 r) : F_Model_mostOf m (Int32.ofNat r) N = some (q_most (q_way s.1 (s.2.1 (174 + 17 * r)) (s.2.1 (175 + 17 * r))) (s.2.1 (179 + 17 * r))) := by
  unfold F_Model_mostOf
  rw [zb_ok (a_direct_m hm hr hI)]
  unfold q_most
  split
  · rfl
  · rw [zb_ok (m_ofL (kl := 6) hm 6 hr (by omega) rfl), show 173 + 17 * r + 6 = 179 + 17 * r by omega]
def q_rideV (c A : q_R) (r : Nat) : Nat → Int32 := fun k => match k with
  | 7 => q_way c (A (174 + 17 * r)) (A (175 + 17 * r))
  | 8 => q_most (q_way c (A (174 + 17 * r)) (A (175 + 17 * r))) (A (179 + 17 * r))
  | 9 => A (180 + 17 * r)
  | 10 => A (181 + 17 * r)
  | 11 => A (182 + 17 * r)
  | 12 => A (183 + 17 * r)
  | 13 => A (184 + 17 * r)
  | k => A (173 + 17 * r + k)
theorem a_ride {o L : Nat} {S : Nat → Int32} {i : Int32} {M : z_Mem} {s : q_S} {c : z_Mem → Option (Int32 × z_Mem)} (hI : q_I s) (hR : ∀ r, r < q_N s.2.1 → q_rideI s.1 s.2.1 r) (hc : c_all o M s) (hm : m_all (o + 548) M s) (h1 : z_inb (i + (1 : Int32)) L) (h2 : z_inb (i + (2 : Int32)) L) : ∃ M', Fc_738 o L S i M c = c M' ∧ c_all o M' s ∧ m_all (o + 548) M' s := by
  generalize hp : S (i + 1).toNatClampNeg = p
  generalize hq : S (i + 2).toNatClampNeg = q
  have hN := hI.rides24
  have ct := a_ride_c hI hc
  have mt := fun (N : z_Mem) (hN : m_all (o + 548) N s) p => a_ride_m (m := o + 548) (N := z_wI N (o + 548) 0 0) (R := q_N s.2.1) (by omega) (m_rides hI (hN.thr 0)) p
  rcases q_split (q_N s.2.1) (by omega) p with ⟨r, hr, rfl⟩ | hb
  · have gr := q_good (n := q_N s.2.1) (by omega) hr
    have hrI := hR r hr
    rcases q_split 14 (by omega) q with ⟨k, hk, rfl⟩ | hb
    · have gk := q_good (n := 14) (by omega) hk
      refine k_ride (y := .ok (q_rideV s.1 s.2.1 r k)) q_c1n hm h1 h2 (l_of' hc ?_ (fun e M1 he => by cases he)) (fun N hN => m_val hN rfl ?_)
      · rw [hp, hq]
        unfold F_Sys_ride
        obtain ⟨x0, x1, x2, x3, x4, x5, x6, x7, x8, x9, x10, x11, x12, x13, -⟩ := hc.2.1.2.2.2.2.2.2.2.2 r hr
        rcases (show k = 0 ∨ k = 1 ∨ k = 2 ∨ k = 3 ∨ k = 4 ∨ k = 5 ∨ k = 6 ∨ k = 7 ∨ k = 8 ∨ k = 9 ∨ k = 10 ∨ k = 11 ∨ k = 12 ∨ k = 13 by omega) with rfl | rfl | rfl | rfl | rfl | rfl | rfl | rfl | rfl | rfl | rfl | rfl | rfl | rfl
        · simp only [zxp, zb, (ct _).2 r hr rfl]
          exact congrArg some (congrArg Except.ok x0)
        · simp only [zxp, zb, (ct _).2 r hr rfl]
          exact congrArg some (congrArg Except.ok (x1.trans (congrArg s.2.1 (by omega))))
        · simp only [zxp, zb, (ct _).2 r hr rfl]
          exact congrArg some (congrArg Except.ok (x2.trans (congrArg s.2.1 (by omega))))
        · simp only [zxp, zb, (ct _).2 r hr rfl]
          exact congrArg some (congrArg Except.ok (x3.trans (congrArg s.2.1 (by omega))))
        · simp only [zxp, zb, (ct _).2 r hr rfl]
          exact congrArg some (congrArg Except.ok (x4.trans (congrArg s.2.1 (by omega))))
        · simp only [zxp, zb, (ct _).2 r hr rfl]
          exact congrArg some (congrArg Except.ok (x5.trans (congrArg s.2.1 (by omega))))
        · simp only [zxp, zb, (ct _).2 r hr rfl]
          exact congrArg some (congrArg Except.ok (x6.trans (congrArg s.2.1 (by omega))))
        · simp only [zxp, zb, (ct _).2 r hr rfl]
          exact congrArg some (congrArg Except.ok x7)
        · simp only [zxp, zb, (ct _).2 r hr rfl]
          exact congrArg some (congrArg Except.ok x8)
        · simp only [zxp, zb, (ct _).2 r hr rfl]
          exact congrArg some (congrArg Except.ok x9)
        · simp only [zxp, zb, (ct _).2 r hr rfl]
          exact congrArg some (congrArg Except.ok x10)
        · simp only [zxp, zb, (ct _).2 r hr rfl]
          exact congrArg some (congrArg Except.ok x11)
        · simp only [zxp, zb, (ct _).2 r hr rfl]
          exact congrArg some (congrArg Except.ok x12)
        · simp only [zxp, zb, (ct _).2 r hr rfl]
          show (if M.1 (o + 5 + 16 + r) 13 = 0 then some (Except.ok 0) else some (Except.ok 1)) = some (Except.ok (s.2.1 (184 + 17 * r)))
          rw [x13]
          rcases hrI.2.2 with h | h
          · rw [h]
            rfl
          · rw [h]
            rfl
      · rw [hp, hq]
        unfold F_Model_ride
        simp only [zl]
        rw [zb2_ok ((mt N hN _).2 gr)]
        rw [if_pos rfl, (p_upto (o + 548) 13 (Int32.ofNat k) 1 _ (by omega) (lo := 0) (hi := 13) (by decide) (by decide) _).2 gk, if_pos rfl]
        have hr24 : r < 24 := by omega
        have hm0 := hN.thr 0
        by_cases h7 : k < 7
        · have h9 : ¬ (7 : Int32) ≤ Int32.ofNat k := fun q => by
            have := (i_le (a := 7) (by decide) (by omega)).mp q
            omega
          rw [if_neg h9, zb_ok (m_of hm0 hr24 (by omega))]
          rcases (show k = 0 ∨ k = 1 ∨ k = 2 ∨ k = 3 ∨ k = 4 ∨ k = 5 ∨ k = 6 by omega) with rfl | rfl | rfl | rfl | rfl | rfl | rfl <;> rfl
        · rcases (show k = 7 ∨ k = 8 ∨ k = 9 ∨ k = 10 ∨ k = 11 ∨ k = 12 ∨ k = 13 by omega) with rfl | rfl | rfl | rfl | rfl | rfl | rfl
          · exact zb_ok (a_direct_m hm0 hr24 hrI) _
          · exact zb_ok (a_most_m hm0 hr24 hrI) _
          · exact (zb_ok (m_ofL hm0 7 hr24 (by omega) rfl) _).trans (congrArg (fun z => some (z, _)) (congrArg s.2.1 (by omega)))
          · exact (zb_ok (m_ofL hm0 8 hr24 (by omega) rfl) _).trans (congrArg (fun z => some (z, _)) (congrArg s.2.1 (by omega)))
          · exact (zb_ok (m_ofL hm0 9 hr24 (by omega) rfl) _).trans (congrArg (fun z => some (z, _)) (congrArg s.2.1 (by omega)))
          · exact (zb_ok (m_ofL hm0 10 hr24 (by omega) rfl) _).trans (congrArg (fun z => some (z, _)) (congrArg s.2.1 (by omega)))
          · exact (zb_ok (m_ofL hm0 11 hr24 (by omega) rfl) _).trans (congrArg (fun z => some (z, _)) (congrArg s.2.1 (by omega)))
    · refine k_ride (y := .error 1) q_c1n hm h1 h2 (l_of' hc ?_ (fun e M1 he => by cases he; rfl)) (fun N hN => m_err hN (b := 0) (v := 1) rfl ?_)
      · rw [hp, hq]
        unfold F_Sys_ride
        simp only [zxp, zb, (ct _).2 r hr rfl]
        have ne : ∀ t, t < 14 → ¬ q = Int32.ofNat t := fun t ht => q_badne (by omega) ht hb
        have n0 : ¬ q = (0 : Int32) := ne 0 (by omega)
        have n1 : ¬ q = (1 : Int32) := ne 1 (by omega)
        have n2 : ¬ q = (2 : Int32) := ne 2 (by omega)
        have n3 : ¬ q = (3 : Int32) := ne 3 (by omega)
        have n4 : ¬ q = (4 : Int32) := ne 4 (by omega)
        have n5 : ¬ q = (5 : Int32) := ne 5 (by omega)
        have n6 : ¬ q = (6 : Int32) := ne 6 (by omega)
        have n7 : ¬ q = (7 : Int32) := ne 7 (by omega)
        have n8 : ¬ q = (8 : Int32) := ne 8 (by omega)
        have n9 : ¬ q = (9 : Int32) := ne 9 (by omega)
        have n10 : ¬ q = (10 : Int32) := ne 10 (by omega)
        have n11 : ¬ q = (11 : Int32) := ne 11 (by omega)
        have n12 : ¬ q = (12 : Int32) := ne 12 (by omega)
        have n13 : ¬ q = (13 : Int32) := ne 13 (by omega)
        rw [if_neg n0, if_neg n1, if_neg n2, if_neg n3, if_neg n4, if_neg n5, if_neg n6, if_neg n7, if_neg n8, if_neg n9, if_neg n10, if_neg n11, if_neg n12, if_neg n13]
      · rw [hp, hq]
        unfold F_Model_ride
        simp only [zl]
        rw [zb2_ok ((mt N hN _).2 gr)]
        rw [if_pos rfl, (p_upto (o + 548) 13 q 1 _ (by omega) (lo := 0) (hi := 13) (by decide) (by decide) _).1 hb]
        rfl
  · refine k_ride (y := .error 1) q_c1n hm h1 h2 (l_of' hc ?_ (fun e M1 he => by cases he; rfl)) (fun N hN => m_err hN (b := 0) (v := 1) rfl ?_)
    · rw [hp, hq]
      unfold F_Sys_ride
      simp only [zxp, zb, (ct _).1 hb]
    · rw [hp, hq]
      unfold F_Model_ride
      simp only [zl]
      rw [zb2_ok ((mt N hN _).1 hb)]
      rfl
