/-! ===== PURE: minutes ===== -/
theorem i_way8 {Z a b : Nat} (hZ : Z ≤ 8) (ha : a < Z) (hb : b < Z) : 8 * a + b < 64 := by omega
theorem a_way_c {o : Nat} {M : z_Mem} {s : q_S} (hc : c_all o M s) {a b : Nat} (ha : a < 8) (hb : b < 8) : F_Town_wayMinutes (o + 3) (Int32.ofNat a) (Int32.ofNat b) M = some (s.1 (8 * a + b)) := by
  unfold F_Town_wayMinutes F_Town_hasPlaces
  have h1 : ¬ (8 : Int32) ≤ Int32.ofNat a := fun q => by
    have := (i_le (a := 8) (by decide) (by omega)).mp q
    omega
  have h2 : ¬ (8 : Int32) ≤ Int32.ofNat b := fun q => by
    have := (i_le (a := 8) (by decide) (by omega)).mp q
    omega
  rw [if_neg (i_nn (by omega)), if_neg h1, if_neg (i_nn (by omega)), if_neg h2]
  have e : Int32.ofNat a * 8 + Int32.ofNat b = Int32.ofNat (8 * a + b) := by
    rw [show (8 : Int32) = Int32.ofNat 8 from rfl, i_mul, i_add, Nat.mul_comm]
  show (if z_inb (Int32.ofNat a * 8 + Int32.ofNat b) 64 then _ else _) = _
  rw [e, if_pos ((i_inb (by omega)).mpr (by omega)), i_cl (by omega)]
  exact congrArg some (hc.1.2.2 (8 * a + b) (by omega))
theorem a_way_m {m : Nat} {N : z_Mem} {s : q_S} (hm : m_all m N s) {a b : Nat} (ha : a < 8) (hb : b < 8) : F_Model_minutesOf m (Int32.ofNat a) (Int32.ofNat b) N = some (s.1 (8 * a + b)) := by
  unfold F_Model_minutesOf
  have e : 8 * Int32.ofNat a + Int32.ofNat b = Int32.ofNat (8 * a + b) := by
    rw [show (8 : Int32) = Int32.ofNat 8 from rfl, i_mul, i_add]
  rw [e, if_pos ((i_inb (by omega)).mpr (by omega)), i_cl (by omega)]
  exact congrArg some (hm.1.2.2.2.2.1 (8 * a + b) (by omega))
/-- the reference ends with a throw -/
theorem m_err {o : Nat} {N : z_Mem} {s : q_S} {e : Nat} {cd : Nat → Int32} (hm : m_all (o + 548) N s) {b : Int32} {F : Option (Int32 × z_Mem)} {v : Int32} (hv : v = cd e) (h : F = some (b, z_wI (z_wI N (o + 548) 0 0) (o + 548) 0 v)) : m_does o N s (.error e) cd F :=
  ⟨b, _, h, (hm.thr 0).thr v, q_M.thr.tr q_M.thr, (w_same _ _ _ _).trans hv, fun _ hx => by cases hx⟩
/-- .. with a value, nothing written -/
theorem m_val {o : Nat} {N : z_Mem} {s : q_S} {cd : Nat → Int32} (hm : m_all (o + 548) N s) {b v : Int32} {F : Option (Int32 × z_Mem)} (hv : b = v) (h : F = some (b, z_wI N (o + 548) 0 0)) : m_does o N s (.ok v) cd F :=
  ⟨b, _, h, hm.thr 0, q_M.thr, w_same _ _ _ _, fun _ hx => by cases hx; exact hv⟩
theorem a_minutes {o L : Nat} {S : Nat → Int32} {i : Int32} {M : z_Mem} {s : q_S} {c : z_Mem → Option (Int32 × z_Mem)} (hI : q_I s) (hc : c_all o M s) (hm : m_all (o + 548) M s) (h1 : z_inb (i + (1 : Int32)) L) (h2 : z_inb (i + (2 : Int32)) L) : ∃ M', Fc_454 o L S i M c = c M' ∧ c_all o M' s ∧ m_all (o + 548) M' s := by
  generalize hp : S (i + 1).toNatClampNeg = p
  generalize hq : S (i + 2).toNatClampNeg = q
  obtain ⟨Z, hZ2, hZ8, hZ⟩ := hI.zones
  have cz := fun p => a_zone_c hc hZ p
  have mz := fun (N : z_Mem) (hN : m_all (o + 548) N s) p => a_zone_m (m := o + 548) (N := z_wI N (o + 548) 0 0) (s := s) (by omega) (m_zones (hN.thr 0) hZ) p
  rcases q_split Z (by omega) p with ⟨a, ha, rfl⟩ | hb
  · rcases q_split Z (by omega) q with ⟨b, hb, rfl⟩ | hb
    · have ga := q_good (n := Z) (by omega) ha
      have gb := q_good (n := Z) (by omega) hb
      refine k_minutes (y := .ok (s.1 (8 * a + b))) q_c1n hm h1 h2 (l_of' hc ?_ (fun e M1 he => by cases he)) (fun N hN => m_val hN rfl ?_)
      · rw [hp, hq]
        unfold F_Sys_minutes
        simp only [zxp, zb, (cz _).2 ga, (cz _).2 gb, a_way_c hc (show a < 8 by omega) (show b < 8 by omega)]
      · rw [hp, hq]
        unfold F_Model_minutes
        simp only [zl, zb, zb2, (mz N hN _).2 ga, (mz N hN _).2 gb, a_way_m (hN.thr 0) (show a < 8 by omega) (show b < 8 by omega), if_true]
    · have ga := q_good (n := Z) (by omega) ha
      refine k_minutes (y := .error 1) q_c1n hm h1 h2 (l_of' hc ?_ (fun e M1 he => by cases he; rfl)) (fun N hN => m_err hN (b := 0) (v := 1) rfl ?_)
      · rw [hp, hq]
        unfold F_Sys_minutes
        simp only [zxp, zb, (cz _).2 ga, (cz _).1 hb]
      · rw [hp, hq]
        unfold F_Model_minutes F_Model_minutes_J21
        simp only [zl, zb, zb2, (mz N hN _).2 ga, (mz N hN _).1 hb, if_true]
        rfl
  · refine k_minutes (y := .error 1) q_c1n hm h1 h2 (l_of' hc ?_ (fun e M1 he => by cases he; rfl)) (fun N hN => m_err hN (b := 0) (v := 1) rfl ?_)
    · rw [hp, hq]
      unfold F_Sys_minutes
      simp only [zxp, zb, (cz _).1 hb]
    · rw [hp, hq]
      unfold F_Model_minutes F_Model_minutes_J21
      simp only [zl, zb, zb2, (mz N hN _).1 hb]
      rfl
