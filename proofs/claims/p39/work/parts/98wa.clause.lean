/-! ===== the class's side (out of whole, by program) ===== -/
theorem c_way {a i j : Nat} {M : z_Mem} {W : q_W} (h : q_mat M (a + 1) W) (hi : i < 8) (hj : j < 8) : F_Town_wayMinutes a (Int32.ofNat i) (Int32.ofNat j) M = some (q_oi (W i j)) := by
  unfold F_Town_wayMinutes
  rcases t_places (Int32.ofNat i) (Int32.ofNat j) M with e | ⟨e, -⟩
  · exfalso
    unfold F_Town_hasPlaces at e
    rw [if_neg (i_nn (by omega)), if_neg (show ¬ (8 : Int32) ≤ Int32.ofNat i from i_nle (a := 8) (by decide) (by omega) hi), if_neg (i_nn (by omega)), if_neg (show ¬ (8 : Int32) ≤ Int32.ofNat j from i_nle (a := 8) (by decide) (by omega) hj)] at e
    exact absurd (Option.some.inj e) (by decide)
  · obtain ⟨e8, ib, ec⟩ := i_88 hi hj
    rw [zb_ok e, if_neg (by decide), e8, if_pos ib, ec, h i j hi hj]
theorem c_addRoad {a i j v : Nat} {M : z_Mem} (hi : i < 8) (hj : j < 8) : F_Town_addRoad a (Int32.ofNat i) (Int32.ofNat j) (Int32.ofNat v) M = some (z_wI (z_wI (z_wI M a 1 (M.1 a 1 + 1)) (a + 1) (8 * i + j) (Int32.ofNat v)) (a + 1) (8 * j + i) (Int32.ofNat v)) := by
  unfold F_Town_addRoad
  rcases t_places (Int32.ofNat i) (Int32.ofNat j) M with e | ⟨e, -⟩
  · exfalso
    unfold F_Town_hasPlaces at e
    rw [if_neg (i_nn (by omega)), if_neg (show ¬ (8 : Int32) ≤ Int32.ofNat i from i_nle (a := 8) (by decide) (by omega) hi), if_neg (i_nn (by omega)), if_neg (show ¬ (8 : Int32) ≤ Int32.ofNat j from i_nle (a := 8) (by decide) (by omega) hj)] at e
    exact absurd (Option.some.inj e) (by decide)
  · obtain ⟨e8, ib, ec⟩ := i_88 hi hj
    obtain ⟨e8', ib', ec'⟩ := i_88 hj hi
    rw [zb_ok e, if_neg (by decide), zl_eq, e8, if_pos ib, ec, zl_eq, e8', if_pos ib', ec', zl_eq]
