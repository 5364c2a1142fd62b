/-! ===== PURE: the law's cases with handlers (by program) ===== -/
theorem k_load {o L : Nat} {S : Nat → Int32} {i : Int32} {M : z_Mem} {s s' : q_S} {y : q_Y} {cd : Nat → Int32} {c : z_Mem → Option (Int32 × z_Mem)} (hcd : ∀ e, cd e ≠ 0) (hm : m_all (o + 548) M s) (h1 : z_inb (i + (1 : Int32)) L) (hL : l_does o M s' y cd (F_LW_load o (o + 573) (S ((i + (1 : Int32))).toNatClampNeg) M)) (hM : ∀ N, m_all (o + 548) N s → m_does o N s' y cd (F_Model_load (o + 548) (S ((i + (1 : Int32))).toNatClampNeg) N)) : ∃ M', Fc_273 o L S i M c = c M' ∧ c_all o M' s' ∧ m_all (o + 548) M' s' := by
  unfold Fc_273
  rw [if_pos h1]
  simp only [if_pos h1]
  exact k_two hcd hm hL hM
theorem k_size {o L : Nat} {S : Nat → Int32} {i : Int32} {M : z_Mem} {s s' : q_S} {y : q_Y} {cd : Nat → Int32} {c : z_Mem → Option (Int32 × z_Mem)} (hcd : ∀ e, cd e ≠ 0) (hm : m_all (o + 548) M s) (h1 : z_inb (i + (1 : Int32)) L) (hL : l_does o M s' y cd (F_LW_size o (o + 573) (S ((i + (1 : Int32))).toNatClampNeg) M)) (hM : ∀ N, m_all (o + 548) N s → m_does o N s' y cd (F_Model_size (o + 548) (S ((i + (1 : Int32))).toNatClampNeg) N)) : ∃ M', Fc_342 o L S i M c = c M' ∧ c_all o M' s' ∧ m_all (o + 548) M' s' := by
  unfold Fc_342
  rw [if_pos h1]
  simp only [if_pos h1]
  exact k_two hcd hm hL hM
theorem k_rule {o L : Nat} {S : Nat → Int32} {i : Int32} {M : z_Mem} {s s' : q_S} {y : q_Y} {cd : Nat → Int32} {c : z_Mem → Option (Int32 × z_Mem)} (hcd : ∀ e, cd e ≠ 0) (hm : m_all (o + 548) M s) (h1 : z_inb (i + (1 : Int32)) L) (hL : l_does o M s' y cd (F_LW_rule o (o + 573) (S ((i + (1 : Int32))).toNatClampNeg) M)) (hM : ∀ N, m_all (o + 548) N s → m_does o N s' y cd (F_Model_rule (o + 548) (S ((i + (1 : Int32))).toNatClampNeg) N)) : ∃ M', Fc_398 o L S i M c = c M' ∧ c_all o M' s' ∧ m_all (o + 548) M' s' := by
  unfold Fc_398
  rw [if_pos h1]
  simp only [if_pos h1]
  exact k_two hcd hm hL hM
theorem k_minutes {o L : Nat} {S : Nat → Int32} {i : Int32} {M : z_Mem} {s s' : q_S} {y : q_Y} {cd : Nat → Int32} {c : z_Mem → Option (Int32 × z_Mem)} (hcd : ∀ e, cd e ≠ 0) (hm : m_all (o + 548) M s) (h1 : z_inb (i + (1 : Int32)) L) (h2 : z_inb (i + (2 : Int32)) L) (hL : l_does o M s' y cd (F_LW_minutes o (o + 573) (S ((i + (1 : Int32))).toNatClampNeg) (S ((i + (2 : Int32))).toNatClampNeg) M)) (hM : ∀ N, m_all (o + 548) N s → m_does o N s' y cd (F_Model_minutes (o + 548) (S ((i + (1 : Int32))).toNatClampNeg) (S ((i + (2 : Int32))).toNatClampNeg) N)) : ∃ M', Fc_454 o L S i M c = c M' ∧ c_all o M' s' ∧ m_all (o + 548) M' s' := by
  unfold Fc_454
  rw [if_pos h1]
  rw [if_pos h2]
  simp only [if_pos h1, if_pos h2]
  exact k_two hcd hm hL hM
theorem k_taxi {o L : Nat} {S : Nat → Int32} {i : Int32} {M : z_Mem} {s s' : q_S} {y : q_Y} {cd : Nat → Int32} {c : z_Mem → Option (Int32 × z_Mem)} (hcd : ∀ e, cd e ≠ 0) (hm : m_all (o + 548) M s) (h1 : z_inb (i + (1 : Int32)) L) (h2 : z_inb (i + (2 : Int32)) L) (hL : l_does o M s' y cd (F_LW_taxi o (o + 573) (S ((i + (1 : Int32))).toNatClampNeg) (S ((i + (2 : Int32))).toNatClampNeg) M)) (hM : ∀ N, m_all (o + 548) N s → m_does o N s' y cd (F_Model_taxi (o + 548) (S ((i + (1 : Int32))).toNatClampNeg) (S ((i + (2 : Int32))).toNatClampNeg) N)) : ∃ M', Fc_522 o L S i M c = c M' ∧ c_all o M' s' ∧ m_all (o + 548) M' s' := by
  unfold Fc_522
  rw [if_pos h1]
  rw [if_pos h2]
  simp only [if_pos h1, if_pos h2]
  exact k_two hcd hm hL hM
theorem k_account {o L : Nat} {S : Nat → Int32} {i : Int32} {M : z_Mem} {s s' : q_S} {y : q_Y} {cd : Nat → Int32} {c : z_Mem → Option (Int32 × z_Mem)} (hcd : ∀ e, cd e ≠ 0) (hm : m_all (o + 548) M s) (h1 : z_inb (i + (1 : Int32)) L) (h2 : z_inb (i + (2 : Int32)) L) (hL : l_does o M s' y cd (F_LW_account o (o + 573) (S ((i + (1 : Int32))).toNatClampNeg) (S ((i + (2 : Int32))).toNatClampNeg) M)) (hM : ∀ N, m_all (o + 548) N s → m_does o N s' y cd (F_Model_account (o + 548) (S ((i + (1 : Int32))).toNatClampNeg) (S ((i + (2 : Int32))).toNatClampNeg) N)) : ∃ M', Fc_590 o L S i M c = c M' ∧ c_all o M' s' ∧ m_all (o + 548) M' s' := by
  unfold Fc_590
  rw [if_pos h1]
  rw [if_pos h2]
  simp only [if_pos h1, if_pos h2]
  exact k_two hcd hm hL hM
theorem k_stop {o L : Nat} {S : Nat → Int32} {i : Int32} {M : z_Mem} {s s' : q_S} {y : q_Y} {cd : Nat → Int32} {c : z_Mem → Option (Int32 × z_Mem)} (hcd : ∀ e, cd e ≠ 0) (hm : m_all (o + 548) M s) (h1 : z_inb (i + (1 : Int32)) L) (h2 : z_inb (i + (2 : Int32)) L) (h3 : z_inb (i + (3 : Int32)) L) (hL : l_does o M s' y cd (F_LW_stop o (o + 573) (S ((i + (1 : Int32))).toNatClampNeg) (S ((i + (2 : Int32))).toNatClampNeg) (S ((i + (3 : Int32))).toNatClampNeg) M)) (hM : ∀ N, m_all (o + 548) N s → m_does o N s' y cd (F_Model_stop (o + 548) (S ((i + (1 : Int32))).toNatClampNeg) (S ((i + (2 : Int32))).toNatClampNeg) (S ((i + (3 : Int32))).toNatClampNeg) N)) : ∃ M', Fc_658 o L S i M c = c M' ∧ c_all o M' s' ∧ m_all (o + 548) M' s' := by
  unfold Fc_658
  rw [if_pos h1]
  rw [if_pos h2]
  rw [if_pos h3]
  simp only [if_pos h1, if_pos h2, if_pos h3]
  exact k_two hcd hm hL hM
theorem k_ride {o L : Nat} {S : Nat → Int32} {i : Int32} {M : z_Mem} {s s' : q_S} {y : q_Y} {cd : Nat → Int32} {c : z_Mem → Option (Int32 × z_Mem)} (hcd : ∀ e, cd e ≠ 0) (hm : m_all (o + 548) M s) (h1 : z_inb (i + (1 : Int32)) L) (h2 : z_inb (i + (2 : Int32)) L) (hL : l_does o M s' y cd (F_LW_ride o (o + 573) (S ((i + (1 : Int32))).toNatClampNeg) (S ((i + (2 : Int32))).toNatClampNeg) M)) (hM : ∀ N, m_all (o + 548) N s → m_does o N s' y cd (F_Model_ride (o + 548) (S ((i + (1 : Int32))).toNatClampNeg) (S ((i + (2 : Int32))).toNatClampNeg) N)) : ∃ M', Fc_738 o L S i M c = c M' ∧ c_all o M' s' ∧ m_all (o + 548) M' s' := by
  unfold Fc_738
  rw [if_pos h1]
  rw [if_pos h2]
  simp only [if_pos h1, if_pos h2]
  exact k_two hcd hm hL hM
theorem k_offer {o L : Nat} {S : Nat → Int32} {i : Int32} {M : z_Mem} {s s' : q_S} {y : q_Y} {cd : Nat → Int32} {c : z_Mem → Option (Int32 × z_Mem)} (hcd : ∀ e, cd e ≠ 0) (hm : m_all (o + 548) M s) (h1 : z_inb (i + (1 : Int32)) L) (h2 : z_inb (i + (2 : Int32)) L) (hL : l_does o M s' y cd (F_LW_offer o (o + 573) (S ((i + (1 : Int32))).toNatClampNeg) (S ((i + (2 : Int32))).toNatClampNeg) M)) (hM : ∀ N, m_all (o + 548) N s → m_does o N s' y cd (F_Model_offer (o + 548) (S ((i + (1 : Int32))).toNatClampNeg) (S ((i + (2 : Int32))).toNatClampNeg) N)) : ∃ M', Fc_806 o L S i M c = c M' ∧ c_all o M' s' ∧ m_all (o + 548) M' s' := by
  unfold Fc_806
  rw [if_pos h1]
  rw [if_pos h2]
  simp only [if_pos h1, if_pos h2]
  exact k_two hcd hm hL hM
theorem k_extra {o L : Nat} {S : Nat → Int32} {i : Int32} {M : z_Mem} {s s' : q_S} {y : q_Y} {cd : Nat → Int32} {c : z_Mem → Option (Int32 × z_Mem)} (hcd : ∀ e, cd e ≠ 0) (hm : m_all (o + 548) M s) (h1 : z_inb (i + (1 : Int32)) L) (h2 : z_inb (i + (2 : Int32)) L) (hL : l_does o M s' y cd (F_LW_extra o (o + 573) (S ((i + (1 : Int32))).toNatClampNeg) (S ((i + (2 : Int32))).toNatClampNeg) M)) (hM : ∀ N, m_all (o + 548) N s → m_does o N s' y cd (F_Model_extra (o + 548) (S ((i + (1 : Int32))).toNatClampNeg) (S ((i + (2 : Int32))).toNatClampNeg) N)) : ∃ M', Fc_874 o L S i M c = c M' ∧ c_all o M' s' ∧ m_all (o + 548) M' s' := by
  unfold Fc_874
  rw [if_pos h1]
  rw [if_pos h2]
  simp only [if_pos h1, if_pos h2]
  exact k_two hcd hm hL hM
theorem k_fare {o L : Nat} {S : Nat → Int32} {i : Int32} {M : z_Mem} {s s' : q_S} {y : q_Y} {cd : Nat → Int32} {c : z_Mem → Option (Int32 × z_Mem)} (hcd : ∀ e, cd e ≠ 0) (hm : m_all (o + 548) M s) (h1 : z_inb (i + (1 : Int32)) L) (hL : l_does o M s' y cd (F_LW_fare o (o + 573) (S ((i + (1 : Int32))).toNatClampNeg) M)) (hM : ∀ N, m_all (o + 548) N s → m_does o N s' y cd (F_Model_fare (o + 548) (S ((i + (1 : Int32))).toNatClampNeg) N)) : ∃ M', Fc_942 o L S i M c = c M' ∧ c_all o M' s' ∧ m_all (o + 548) M' s' := by
  unfold Fc_942
  rw [if_pos h1]
  simp only [if_pos h1]
  exact k_two hcd hm hL hM
theorem k_aloneFare {o L : Nat} {S : Nat → Int32} {i : Int32} {M : z_Mem} {s s' : q_S} {y : q_Y} {cd : Nat → Int32} {c : z_Mem → Option (Int32 × z_Mem)} (hcd : ∀ e, cd e ≠ 0) (hm : m_all (o + 548) M s) (h1 : z_inb (i + (1 : Int32)) L) (h2 : z_inb (i + (2 : Int32)) L) (hL : l_does o M s' y cd (F_LW_aloneFare o (o + 573) (S ((i + (1 : Int32))).toNatClampNeg) (S ((i + (2 : Int32))).toNatClampNeg) M)) (hM : ∀ N, m_all (o + 548) N s → m_does o N s' y cd (F_Model_aloneFare (o + 548) (S ((i + (1 : Int32))).toNatClampNeg) (S ((i + (2 : Int32))).toNatClampNeg) N)) : ∃ M', Fc_998 o L S i M c = c M' ∧ c_all o M' s' ∧ m_all (o + 548) M' s' := by
  unfold Fc_998
  rw [if_pos h1]
  rw [if_pos h2]
  simp only [if_pos h1, if_pos h2]
  exact k_two hcd hm hL hM
theorem k_keeps {o L : Nat} {S : Nat → Int32} {i : Int32} {M : z_Mem} {s s' : q_S} {y : q_Y} {cd : Nat → Int32} {c : z_Mem → Option (Int32 × z_Mem)} (hcd : ∀ e, cd e ≠ 0) (hm : m_all (o + 548) M s) (h1 : z_inb (i + (1 : Int32)) L) (hv : ∀ v, y = .ok v → v = 0 ∨ v = 1) (hL : l_does o M s' y cd (F_LW_keeps o (o + 573) (S ((i + (1 : Int32))).toNatClampNeg) M)) (hM : ∀ N, m_all (o + 548) N s → m_does o N s' y cd (F_Model_keeps (o + 548) (S ((i + (1 : Int32))).toNatClampNeg) N)) : ∃ M', Fc_1066 o L S i M c = c M' ∧ c_all o M' s' ∧ m_all (o + 548) M' s' := by
  unfold Fc_1066
  rw [if_pos h1]
  simp only [if_pos h1]
  obtain ⟨M1, e1, h1, h2, h3⟩ := hL
  obtain ⟨b, N', e2, h4, h5, h6, h7⟩ := hM M1 (hm.keep h2)
  refine ⟨N', ?_, h1.keep h5, h4⟩
  rw [zb2_ok e1, zb2_ok e2, zb_ok (show F_Model_thrown (o + 548) N' = some (q_cd cd y) by unfold F_Model_thrown; rw [h6]), if_pos rfl]
  cases y with
  | ok v =>
    have hz : z_inb (0 : Int32) 1 := by decide
    rw [if_pos (show q_cd cd (.ok v) = 0 from rfl), if_pos hz]
    have e3 : N'.2 (o + 573) ((0 : Int32)).toNatClampNeg = b.toInt64 := by
      rw [(h5 (o + 573) (Or.inr rfl)).2, h7 v rfl]
      exact h3 v rfl
    have hb := h7 v rfl
    rcases hv v rfl with rfl | rfl
    · rw [if_pos hb, if_pos ((i_cmp0 _ _).mpr (by rw [e3, hb]; rfl))]
    · rw [if_neg (by rw [hb]; decide), if_pos ((i_cmp0 _ _).mpr (by rw [e3, hb]; rfl))]
  | error e => rw [if_neg (show ¬ q_cd cd (.error e) = 0 from hcd e)]
theorem k_routeMinutes {o L : Nat} {S : Nat → Int32} {i : Int32} {M : z_Mem} {s s' : q_S} {y : q_Y} {cd : Nat → Int32} {c : z_Mem → Option (Int32 × z_Mem)} (hcd : ∀ e, cd e ≠ 0) (hm : m_all (o + 548) M s) (h1 : z_inb (i + (1 : Int32)) L) (hL : l_does o M s' y cd (F_LW_routeMinutes o (o + 573) (S ((i + (1 : Int32))).toNatClampNeg) M)) (hM : ∀ N, m_all (o + 548) N s → m_does o N s' y cd (F_Model_routeMinutes (o + 548) (S ((i + (1 : Int32))).toNatClampNeg) N)) : ∃ M', Fc_1129 o L S i M c = c M' ∧ c_all o M' s' ∧ m_all (o + 548) M' s' := by
  unfold Fc_1129
  rw [if_pos h1]
  simp only [if_pos h1]
  exact k_two hcd hm hL hM
theorem k_rides {o L : Nat} {S : Nat → Int32} {i : Int32} {M : z_Mem} {s s' : q_S} {y : q_Y} {cd : Nat → Int32} {c : z_Mem → Option (Int32 × z_Mem)} (hcd : ∀ e, cd e ≠ 0) (hm : m_all (o + 548) M s) (h1 : z_inb (i + (1 : Int32)) L) (hL : l_does o M s' y cd (F_LW_rides o (o + 573) (S ((i + (1 : Int32))).toNatClampNeg) M)) (hM : ∀ N, m_all (o + 548) N s → m_does o N s' y cd (F_Model_rides (o + 548) (S ((i + (1 : Int32))).toNatClampNeg) N)) : ∃ M', Fc_1185 o L S i M c = c M' ∧ c_all o M' s' ∧ m_all (o + 548) M' s' := by
  unfold Fc_1185
  rw [if_pos h1]
  simp only [if_pos h1]
  exact k_two hcd hm hL hM
theorem k_ask {o L : Nat} {S : Nat → Int32} {i : Int32} {M : z_Mem} {s s' : q_S} {y : q_Y} {cd : Nat → Int32} {c : z_Mem → Option (Int32 × z_Mem)} (hcd : ∀ e, cd e ≠ 0) (hm : m_all (o + 548) M s) (h1 : z_inb (i + (1 : Int32)) L) (h2 : z_inb (i + (2 : Int32)) L) (h3 : z_inb (i + (3 : Int32)) L) (h4 : z_inb (i + (4 : Int32)) L) (h5 : z_inb (i + (5 : Int32)) L) (hL : l_does o M s' y cd (F_LW_ask o (o + 573) (S ((i + (1 : Int32))).toNatClampNeg) (S ((i + (2 : Int32))).toNatClampNeg) (S ((i + (3 : Int32))).toNatClampNeg) (S ((i + (4 : Int32))).toNatClampNeg) (S ((i + (5 : Int32))).toNatClampNeg) M)) (hM : ∀ N, m_all (o + 548) N s → m_does o N s' y cd (F_Model_ask (o + 548) (S ((i + (1 : Int32))).toNatClampNeg) (S ((i + (2 : Int32))).toNatClampNeg) (S ((i + (3 : Int32))).toNatClampNeg) (S ((i + (4 : Int32))).toNatClampNeg) (S ((i + (5 : Int32))).toNatClampNeg) N)) : ∃ M', Fc_1325 o L S i M c = c M' ∧ c_all o M' s' ∧ m_all (o + 548) M' s' := by
  unfold Fc_1325
  rw [if_pos h1]
  rw [if_pos h2]
  rw [if_pos h3]
  rw [if_pos h4]
  rw [if_pos h5]
  simp only [if_pos h1, if_pos h2, if_pos h3, if_pos h4, if_pos h5]
  exact k_two hcd hm hL hM
theorem k_accept {o L : Nat} {S : Nat → Int32} {i : Int32} {M : z_Mem} {s s' : q_S} {y : q_Y} {cd : Nat → Int32} {c : z_Mem → Option (Int32 × z_Mem)} (hcd : ∀ e, cd e ≠ 0) (hm : m_all (o + 548) M s) (h1 : z_inb (i + (1 : Int32)) L) (hL : l_does o M s' y cd (F_LW_accept o (o + 573) (S ((i + (1 : Int32))).toNatClampNeg) M)) (hM : ∀ N, m_all (o + 548) N s → m_does o N s' y cd (F_Model_accept (o + 548) (S ((i + (1 : Int32))).toNatClampNeg) N)) : ∃ M', Fc_1429 o L S i M c = c M' ∧ c_all o M' s' ∧ m_all (o + 548) M' s' := by
  unfold Fc_1429
  rw [if_pos h1]
  simp only [if_pos h1]
  exact k_two hcd hm hL hM
theorem k_decline {o L : Nat} {S : Nat → Int32} {i : Int32} {M : z_Mem} {s s' : q_S} {y : q_Y} {cd : Nat → Int32} {c : z_Mem → Option (Int32 × z_Mem)} (hcd : ∀ e, cd e ≠ 0) (hm : m_all (o + 548) M s) (h1 : z_inb (i + (1 : Int32)) L) (hL : l_does o M s' y cd (F_LW_decline o (o + 573) (S ((i + (1 : Int32))).toNatClampNeg) M)) (hM : ∀ N, m_all (o + 548) N s → m_does o N s' y cd (F_Model_decline (o + 548) (S ((i + (1 : Int32))).toNatClampNeg) N)) : ∃ M', Fc_1485 o L S i M c = c M' ∧ c_all o M' s' ∧ m_all (o + 548) M' s' := by
  unfold Fc_1485
  rw [if_pos h1]
  simp only [if_pos h1]
  exact k_two hcd hm hL hM
theorem k_cancel {o L : Nat} {S : Nat → Int32} {i : Int32} {M : z_Mem} {s s' : q_S} {y : q_Y} {cd : Nat → Int32} {c : z_Mem → Option (Int32 × z_Mem)} (hcd : ∀ e, cd e ≠ 0) (hm : m_all (o + 548) M s) (h1 : z_inb (i + (1 : Int32)) L) (hL : l_does o M s' y cd (F_LW_cancel o (o + 573) (S ((i + (1 : Int32))).toNatClampNeg) M)) (hM : ∀ N, m_all (o + 548) N s → m_does o N s' y cd (F_Model_cancel (o + 548) (S ((i + (1 : Int32))).toNatClampNeg) N)) : ∃ M', Fc_1541 o L S i M c = c M' ∧ c_all o M' s' ∧ m_all (o + 548) M' s' := by
  unfold Fc_1541
  rw [if_pos h1]
  simp only [if_pos h1]
  exact k_two hcd hm hL hM
theorem k_absent {o L : Nat} {S : Nat → Int32} {i : Int32} {M : z_Mem} {s s' : q_S} {y : q_Y} {cd : Nat → Int32} {c : z_Mem → Option (Int32 × z_Mem)} (hcd : ∀ e, cd e ≠ 0) (hm : m_all (o + 548) M s) (h1 : z_inb (i + (1 : Int32)) L) (hL : l_does o M s' y cd (F_LW_absent o (o + 573) (S ((i + (1 : Int32))).toNatClampNeg) M)) (hM : ∀ N, m_all (o + 548) N s → m_does o N s' y cd (F_Model_absent (o + 548) (S ((i + (1 : Int32))).toNatClampNeg) N)) : ∃ M', Fc_1597 o L S i M c = c M' ∧ c_all o M' s' ∧ m_all (o + 548) M' s' := by
  unfold Fc_1597
  rw [if_pos h1]
  simp only [if_pos h1]
  exact k_two hcd hm hL hM
theorem k_advance {o L : Nat} {S : Nat → Int32} {i : Int32} {M : z_Mem} {s s' : q_S} {y : q_Y} {cd : Nat → Int32} {c : z_Mem → Option (Int32 × z_Mem)} (hcd : ∀ e, cd e ≠ 0) (hm : m_all (o + 548) M s) (h1 : z_inb (i + (1 : Int32)) L) (hL : l_does o M s' y cd (F_LW_advance o (o + 573) (S ((i + (1 : Int32))).toNatClampNeg) M)) (hM : ∀ N, m_all (o + 548) N s → m_does o N s' y cd (F_Model_advance (o + 548) (S ((i + (1 : Int32))).toNatClampNeg) N)) : ∃ M', Fc_1653 o L S i M c = c M' ∧ c_all o M' s' ∧ m_all (o + 548) M' s' := by
  unfold Fc_1653
  rw [if_pos h1]
  simp only [if_pos h1]
  exact k_two hcd hm hL hM
theorem k_tip {o L : Nat} {S : Nat → Int32} {i : Int32} {M : z_Mem} {s s' : q_S} {y : q_Y} {cd : Nat → Int32} {c : z_Mem → Option (Int32 × z_Mem)} (hcd : ∀ e, cd e ≠ 0) (hm : m_all (o + 548) M s) (h1 : z_inb (i + (1 : Int32)) L) (h2 : z_inb (i + (2 : Int32)) L) (hL : l_does o M s' y cd (F_LW_tip o (o + 573) (S ((i + (1 : Int32))).toNatClampNeg) (S ((i + (2 : Int32))).toNatClampNeg) M)) (hM : ∀ N, m_all (o + 548) N s → m_does o N s' y cd (F_Model_tip (o + 548) (S ((i + (1 : Int32))).toNatClampNeg) (S ((i + (2 : Int32))).toNatClampNeg) N)) : ∃ M', Fc_1709 o L S i M c = c M' ∧ c_all o M' s' ∧ m_all (o + 548) M' s' := by
  unfold Fc_1709
  rw [if_pos h1]
  rw [if_pos h2]
  simp only [if_pos h1, if_pos h2]
  exact k_two hcd hm hL hM
theorem k_setRate {o L : Nat} {S : Nat → Int32} {i : Int32} {M : z_Mem} {s s' : q_S} {y : q_Y} {cd : Nat → Int32} {c : z_Mem → Option (Int32 × z_Mem)} (hcd : ∀ e, cd e ≠ 0) (hm : m_all (o + 548) M s) (h1 : z_inb (i + (1 : Int32)) L) (hL : l_does o M s' y cd (F_LW_setRate o (o + 573) (S ((i + (1 : Int32))).toNatClampNeg) M)) (hM : ∀ N, m_all (o + 548) N s → m_does o N s' y cd (F_Model_setRate (o + 548) (S ((i + (1 : Int32))).toNatClampNeg) N)) : ∃ M', Fc_1777 o L S i M c = c M' ∧ c_all o M' s' ∧ m_all (o + 548) M' s' := by
  unfold Fc_1777
  rw [if_pos h1]
  simp only [if_pos h1]
  exact k_two hcd hm hL hM
theorem k_setEnd {o L : Nat} {S : Nat → Int32} {i : Int32} {M : z_Mem} {s s' : q_S} {y : q_Y} {cd : Nat → Int32} {c : z_Mem → Option (Int32 × z_Mem)} (hcd : ∀ e, cd e ≠ 0) (hm : m_all (o + 548) M s) (h1 : z_inb (i + (1 : Int32)) L) (h2 : z_inb (i + (2 : Int32)) L) (hL : l_does o M s' y cd (F_LW_setEnd o (o + 573) (S ((i + (1 : Int32))).toNatClampNeg) (S ((i + (2 : Int32))).toNatClampNeg) M)) (hM : ∀ N, m_all (o + 548) N s → m_does o N s' y cd (F_Model_setEnd (o + 548) (S ((i + (1 : Int32))).toNatClampNeg) (S ((i + (2 : Int32))).toNatClampNeg) N)) : ∃ M', Fc_1833 o L S i M c = c M' ∧ c_all o M' s' ∧ m_all (o + 548) M' s' := by
  unfold Fc_1833
  rw [if_pos h1]
  rw [if_pos h2]
  simp only [if_pos h1, if_pos h2]
  exact k_two hcd hm hL hM
theorem k_setRule {o L : Nat} {S : Nat → Int32} {i : Int32} {M : z_Mem} {s s' : q_S} {y : q_Y} {cd : Nat → Int32} {c : z_Mem → Option (Int32 × z_Mem)} (hcd : ∀ e, cd e ≠ 0) (hm : m_all (o + 548) M s) (h1 : z_inb (i + (1 : Int32)) L) (h2 : z_inb (i + (2 : Int32)) L) (hL : l_does o M s' y cd (F_LW_setRule o (o + 573) (S ((i + (1 : Int32))).toNatClampNeg) (S ((i + (2 : Int32))).toNatClampNeg) M)) (hM : ∀ N, m_all (o + 548) N s → m_does o N s' y cd (F_Model_setRule (o + 548) (S ((i + (1 : Int32))).toNatClampNeg) (S ((i + (2 : Int32))).toNatClampNeg) N)) : ∃ M', Fc_1901 o L S i M c = c M' ∧ c_all o M' s' ∧ m_all (o + 548) M' s' := by
  unfold Fc_1901
  rw [if_pos h1]
  rw [if_pos h2]
  simp only [if_pos h1, if_pos h2]
  exact k_two hcd hm hL hM
theorem k_format {o L : Nat} {S : Nat → Int32} {i : Int32} {M : z_Mem} {s s' : q_S} {y : q_Y} {cd : Nat → Int32} {c : z_Mem → Option (Int32 × z_Mem)} (hcd : ∀ e, cd e ≠ 0) (hm : m_all (o + 548) M s) (h1 : z_inb (i + (1 : Int32)) L) (hL : l_does o M s' y cd (F_LW_format o (o + 573) (S ((i + (1 : Int32))).toNatClampNeg) M)) (hM : ∀ N, m_all (o + 548) N s → m_does o N s' y cd (F_Model_format (o + 548) (S ((i + (1 : Int32))).toNatClampNeg) N)) : ∃ M', Fc_1969 o L S i M c = c M' ∧ c_all o M' s' ∧ m_all (o + 548) M' s' := by
  unfold Fc_1969
  rw [if_pos h1]
  simp only [if_pos h1]
  exact k_two hcd hm hL hM
theorem k_query {o L : Nat} {S : Nat → Int32} {i : Int32} {M : z_Mem} {s s' : q_S} {y : q_Y} {cd : Nat → Int32} {c : z_Mem → Option (Int32 × z_Mem)} (hcd : ∀ e, cd e ≠ 0) (hm : m_all (o + 548) M s) (h1 : z_inb (i + (1 : Int32)) L) (hL : l_does o M s' y cd (F_LW_query o (o + 573) (S ((i + (1 : Int32))).toNatClampNeg) M)) (hM : ∀ N, m_all (o + 548) N s → m_does o N s' y cd (F_Model_query (o + 548) (S ((i + (1 : Int32))).toNatClampNeg) N)) : ∃ M', Fc_2100 o L S i M c = c M' ∧ c_all o M' s' ∧ m_all (o + 548) M' s' := by
  unfold Fc_2100
  rw [if_pos h1]
  simp only [if_pos h1]
  exact k_two hcd hm hL hM
