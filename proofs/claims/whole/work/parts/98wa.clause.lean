/-! ===== PURE: both readers side by side: the clauses ===== -/
theorem e_i0 : (Int32.ofNat 0).toInt64 = (0 : Int64) := by decide
theorem e_2879 : (Int32.ofNat 2879).toInt64 = (2879 : Int64) := by decide
theorem b_road77 {m : Nat} {N : z_Mem} (h : N.1 m 30 ≠ 0) (v : Int32) : F_Model_roadRead_J77 m v N = some N := by
  unfold F_Model_roadRead_J77
  rw [zb2_ok (b_number h _ _), zb2_ok (b_number h _ _), zb_ok (b_good h), if_pos rfl]
theorem b_road71 {m : Nat} {N : z_Mem} (h : N.1 m 30 ≠ 0) (v : Int32) : F_Model_roadRead_J71 m v N = some N := by
  unfold F_Model_roadRead_J71
  rw [zb2_ok (b_wrongs h _), b_road77 h]
theorem b_road {m : Nat} {N : z_Mem} (h : N.1 m 30 ≠ 0) : F_Model_roadRead m N = some N := by
  unfold F_Model_roadRead
  rw [zb2_ok (b_number h _ _), zb_ok (b_good h), if_pos rfl, b_road77 h]
theorem b_taxi73 {m : Nat} {N : z_Mem} (h : N.1 m 30 ≠ 0) (a b c : Int32) : F_Model_taxiRead_J73 m a b c N = some N := by
  unfold F_Model_taxiRead_J73
  rw [zb2_ok (b_number h _ _), zb_ok (b_good h), if_pos rfl]
theorem b_taxi {m : Nat} {N : z_Mem} (h : N.1 m 30 ≠ 0) : F_Model_taxiRead m N = some N := by
  unfold F_Model_taxiRead
  rw [zb2_ok (b_number h _ _), zb2_ok (b_number h _ _), zb2_ok (b_number h _ _), zb_ok (b_good h), if_pos rfl, b_taxi73 h]
theorem b_end {m : Nat} {N : z_Mem} (h : N.1 m 30 ≠ 0) : F_Model_clauseRead_J185 m N = some N := by
  unfold F_Model_clauseRead_J185
  rw [zb_ok (b_must h _)]
/-- the zone and a number less one -/
theorem r_C.z {o Z : Nat} {M : z_Mem} {R : Int32} {c A : q_R} {W : q_W} (h : r_C o M Z R c A W) (hZ : 2 ≤ Z) : M.1 (o + 505) 0 - 1 = Int32.ofNat (Z - 1) := by
  rw [h.1]
  exact i_sub (a := Z) (b := 1) (by omega)
theorem r_M.z {m Z : Nat} {N : z_Mem} {R : Int32} {c A : q_R} {W : q_W} (h : r_M m N Z R c A W) (hZ : 2 ≤ Z) : N.1 m 7 - 1 = Int32.ofNat (Z - 1) := by
  rw [h.1]
  exact i_sub (a := Z) (b := 1) (by omega)
theorem c_way {a i j : Nat} {M : z_Mem} {W : q_W} (h : q_mat M (a + 1) W) (hi : i < 8) (hj : j < 8) : F_Town_wayMinutes a (Int32.ofNat i) (Int32.ofNat j) M = some (q_oi (W i j)) := by
  unfold F_Town_wayMinutes
  rcases t_places (Int32.ofNat i) (Int32.ofNat j) M with e | ⟨e, -⟩
  · exfalso
    unfold F_Town_hasPlaces at e
    rw [if_neg (i_nn (by omega)), if_neg (show ¬ (8 : Int32) ≤ Int32.ofNat i from i_nle (a := 8) (by decide) (by omega) hi), if_neg (i_nn (by omega)), if_neg (show ¬ (8 : Int32) ≤ Int32.ofNat j from i_nle (a := 8) (by decide) (by omega) hj)] at e
    exact absurd (Option.some.inj e) (by decide)
  · obtain ⟨e8, ib, ec⟩ := i_88 hi hj
    rw [zb_ok e, if_neg (by decide), e8, if_pos ib, ec, h i j hi hj]
theorem c_addRoad {a i j v : Nat} {M : z_Mem} (hi : i < 8) (hj : j < 8) : F_Town_addRoad a (Int32.ofNat i) (Int32.ofNat j) (Int32.ofNat v) M = some (z_wI (z_wI (z_wI M a 1 (M.1 a 1 + 1)) (a + 1) (8 * i + j) (Int32.ofNat v)) (a + 1) (8 * j + i) (Int32.ofNat v)) := by
  unfold F_Town_addRoad
  rcases t_places (Int32.ofNat i) (Int32.ofNat j) M with e | ⟨e, -⟩
  · exfalso
    unfold F_Town_hasPlaces at e
    rw [if_neg (i_nn (by omega)), if_neg (show ¬ (8 : Int32) ≤ Int32.ofNat i from i_nle (a := 8) (by decide) (by omega) hi), if_neg (i_nn (by omega)), if_neg (show ¬ (8 : Int32) ≤ Int32.ofNat j from i_nle (a := 8) (by decide) (by omega) hj)] at e
    exact absurd (Option.some.inj e) (by decide)
  · obtain ⟨e8, ib, ec⟩ := i_88 hi hj
    obtain ⟨e8', ib', ec'⟩ := i_88 hj hi
    rw [zb_ok e, if_neg (by decide), zl_eq, e8, if_pos ib, ec, zl_eq, e8', if_pos ib', ec', zl_eq]
/-- road -/
theorem j_road {o n q Z : Nat} {M N : z_Mem} {T : Nat → Nat} {R : Int32} {c A : q_R} {W : q_W} (hT : ∀ k, T k < 256) (hg : z_g o M N T n q) (hD : r_D o M N Z R c A W) : ∃ M' N', F_TextReader_readRoad o M = some M' ∧ F_Model_roadRead (o + 548) N = some N' ∧ c_kp o M M' ∧ n_kp (o + 548) N N' ∧ r_out o M' N' T n q Z := by
  have hI := hD.2.2
  have hZ := hI.1
  obtain ⟨x2, y2, M1, N1, e1, f1, c1, d1, h1⟩ := j_number (a := 0) (b := Z - 1) hT (by omega) (by omega) hg
  unfold F_TextReader_readRoad F_Model_roadRead
  rw [hD.1.z hZ.1, hD.2.1.z hZ.1, zb2_ok (show F_Tokens_takeNumber o 0 (Int32.ofNat (Z - 1)) M = some (x2, M1) from e1), zb2_ok (show F_Model_number (o + 548) 0 (Int32.ofNat (Z - 1)) N = some (y2, N1) from f1)]
  have hD1 := hD.ks c1 d1
  rcases h1 with hb | ⟨i, q1, -, hi, rfl, rfl, hq1, hg1⟩
  · obtain ⟨M', e, cc⟩ := t_road2 o x2 M1
    refine ⟨M', N1, e, ?_, c1.kp.tr cc, d1.kp, Or.inl (hb.kp cc)⟩
    rw [zb_ok (b_good hb.n), if_pos rfl, b_road77 hb.n]
  · rw [hD1.1.z hZ.1, hD1.2.1.z hZ.1, zb_ok (b_ok hg1.1.2.2.1), if_neg ne10]
    have J77 : ∀ v N2, r_M (o + 548) N2 Z R c A W → F_Model_roadRead_J77 (o + 548) v N2 = zb2 (F_Model_number (o + 548) 0 (Int32.ofNat (Z - 1)) N2) fun x6 M5 => zb2 (F_Model_number (o + 548) 1 99 M5) fun x8 M7 => zb (F_Model_isGood (o + 548) M7) fun x9 => if x9 = 0 then some M7 else if z_inb ((8 * v) + x6) 64 then zl (z_wI M7 (o + 548 + 5) ((8 * v) + x6).toNatClampNeg x8) fun M10 => if z_inb ((8 * x6) + v) 64 then zl (z_wI M10 (o + 548 + 5) ((8 * x6) + v).toNatClampNeg x8) fun M11 => zl (z_wI M11 (o + 548) 8 ((M11.1 (o + 548) 8) + 1)) fun M12 => some M12 else none else none := fun v N2 h2 => by
      unfold F_Model_roadRead_J77
      rw [h2.z hZ.1]
    rcases j_check (a := 0) (b := Z - 1) hT (by omega) (by omega) hg1 with ⟨t, M2, N2, -, ht, hq1n, e2, f28, f27, fin, e3, f3, hg2, c2, d2⟩ | ⟨M3, N3, e2, f2, hb3, c3, d3, hin⟩
    · rw [zb2_ok (show F_Tokens_checkNumber o 0 (Int32.ofNat (Z - 1)) M1 = some (Int32.ofNat t, M1) from e2), zb_ok (c_way hD1.1.2.2.1 (by omega) (by omega)), if_pos f27]
      rw [e_i0] at fin
      rw [zb_ok fin, if_neg ne10, f28]
      have fail : W i t ≠ none → (t = i ∨ True) → ∃ M' N', (zb (F_Tokens_fail o 4 M1) fun M6 => F_TextReader_readRoad_J57 o (Int32.ofNat i) (Int32.ofNat t) M6) = some M' ∧ F_Model_roadRead_J71 (o + 548) (Int32.ofNat i) N1 = some N' ∧ c_kp o M M' ∧ n_kp (o + 548) N N' ∧ r_out o M' N' T n q Z := fun _ _ => by
        obtain ⟨M6, N6, e6, f6, hb6, c6, d6⟩ := j_fail (e := 4) (by decide) hg1
        obtain ⟨M', e, cc⟩ := t_road57 o (Int32.ofNat i) (Int32.ofNat t) M6
        refine ⟨M', N6, ?_, ?_, c1.kp.tr (c6.kp.tr cc), d1.kp.tr d6.kp, Or.inl (hb6.kp cc)⟩
        · rw [zb_ok e6]
          exact e
        · unfold F_Model_roadRead_J71
          rw [zb2_ok f6, b_road77 hb6.n]
      have oi : ∀ u, W i t = some u → u ≤ 99 := fun u hu => hI.2.1.2.2 i t u hu
      by_cases hti : t = i
      · have hw : W i t = some 0 := by rw [hti]; exact hI.2.1.1 i
        rw [hw, if_neg (by decide), if_pos (by rw [hti])]
        exact fail (by rw [hw]; exact fun k => by cases k) (Or.inl hti)
      · rw [if_neg (fun k => hti ((i_eq (by omega) (by omega)).mp k))]
        have e8 : (8 : Int32) * Int32.ofNat i + Int32.ofNat t = Int32.ofNat (8 * i + t) := by
          rw [show (8 : Int32) = Int32.ofNat 8 from rfl, i_mul, i_add]
        have e8' : (8 : Int32) * Int32.ofNat t + Int32.ofNat i = Int32.ofNat (8 * t + i) := by
          rw [show (8 : Int32) = Int32.ofNat 8 from rfl, i_mul, i_add]
        rw [e8, if_pos ((i_inb (by omega)).mpr (by omega)), i_cl (by omega), hD1.2.1.2.2.2.2.2.2 i t (by omega) (by omega) (fun k => hti k.symm)]
        cases hw : W i t with
        | some u =>
          have hu := oi u hw
          rw [if_neg (show ¬ q_oi (some u) = -1 from fun k => by
            have k : Int32.ofNat u = -1 := k
            have := congrArg Int32.toInt k
            rw [i_toInt (by omega)] at this
            have e : ((-1 : Int32)).toInt = -1 := by decide
            omega), if_neg (show ¬ q_oi (some u) < 0 from i_nn (by omega))]
          exact fail (by rw [hw]; exact fun k => by cases k) (Or.inr trivial)
        | none =>
          rw [if_pos (show q_oi none = -1 from rfl), if_pos (show q_oi none < 0 by decide)]
          unfold F_TextReader_readRoad_J57
          rw [zb_ok e3, J77 _ _ hD1.2.1, zb2_ok (show F_Model_number (o + 548) 0 (Int32.ofNat (Z - 1)) N1 = some (Int32.ofNat t, N2) from f3)]
          have hD2 := hD1.ks c2 d2
          obtain ⟨x9, y9, M4, N4, e4, f4, c4, d4, h4⟩ := j_number (a := 1) (b := 99) hT (by omega) (by omega) hg2
          rw [zb2_ok (show F_Tokens_takeNumber o 1 99 M2 = some (x9, M4) from e4), zb2_ok (show F_Model_number (o + 548) 1 99 N2 = some (y9, N4) from f4)]
          rcases h4 with hb4 | ⟨v, q4, -, hv, rfl, rfl, hq4, hg4⟩
          · obtain ⟨M5, e5, k5, l5⟩ := t_addRoad (o + 505) (Int32.ofNat i) (Int32.ofNat t) x9 M4
            have kp5 : c_kp o M4 M5 := c_kp.in (fun x hx => k5 x (by omega) (by omega)) l5
            refine ⟨M5, N4, by rw [zb_ok e5], ?_, c1.kp.tr (c2.kp.tr (c4.kp.tr kp5)), d1.kp.tr (d2.kp.tr d4.kp), Or.inl (hb4.kp kp5)⟩
            rw [zb_ok (b_good hb4.n), if_pos rfl]
          · have hD4 := hD2.ks c4 d4
            rw [zb_ok (c_addRoad (by omega) (by omega)), zb_ok (b_ok hg4.1.2.2.1), if_neg ne10, e8, if_pos ((i_inb (by omega)).mpr (by omega)), i_cl (by omega), zl_eq, e8', if_pos ((i_inb (by omega)).mpr (by omega)), i_cl (by omega), zl_eq, zl_eq]
            obtain ⟨⟨C1, C2, C3, C4⟩, ⟨m1, m2, m3, m4, m5, m6, m7⟩, -⟩ := hD4
            have hx : ∀ x, x ≠ o + 505 → x ≠ o + 506 → (z_wI (z_wI (z_wI M4 (o + 505) 1 (M4.1 (o + 505) 1 + 1)) (o + 505 + 1) (8 * i + t) (Int32.ofNat v)) (o + 505 + 1) (8 * t + i) (Int32.ofNat v)).1 x = M4.1 x := fun x h1 h2 => funext fun k => (w_addr _ (by omega)).trans ((w_addr _ (by omega)).trans (w_addr _ (by omega)))
            have ny : ∀ x, x ≠ o + 548 → x ≠ o + 548 + 5 → (z_wI (z_wI (z_wI N4 (o + 548 + 5) (8 * i + t) (Int32.ofNat v)) (o + 548 + 5) (8 * t + i) (Int32.ofNat v)) (o + 548) 8 ((z_wI (z_wI N4 (o + 548 + 5) (8 * i + t) (Int32.ofNat v)) (o + 548 + 5) (8 * t + i) (Int32.ofNat v)).1 (o + 548) 8 + 1)).1 x = N4.1 x := fun x h1 h2 => funext fun k => (w_addr _ h1).trans ((w_addr _ h2).trans (w_addr _ h2))
            have ns : ∀ k, k ≠ 8 → (z_wI (z_wI (z_wI N4 (o + 548 + 5) (8 * i + t) (Int32.ofNat v)) (o + 548 + 5) (8 * t + i) (Int32.ofNat v)) (o + 548) 8 ((z_wI (z_wI N4 (o + 548 + 5) (8 * i + t) (Int32.ofNat v)) (o + 548 + 5) (8 * t + i) (Int32.ofNat v)).1 (o + 548) 8 + 1)).1 (o + 548) k = N4.1 (o + 548) k := fun k h1 => (w_slot _ h1).trans ((w_addr _ (by omega)).trans (w_addr _ (by omega)))
            refine ⟨_, _, rfl, rfl, c1.kp.tr (c2.kp.tr (c4.kp.tr (c_kp.in (fun x hx' => hx x (by omega) (by omega)) rfl))), d1.kp.tr (d2.kp.tr (d4.kp.tr ⟨fun x h1 h2 h3 => ny x h1 (by omega), fun k h1 h2 => ns k (by omega), fun _ _ _ => rfl⟩)), Or.inr ⟨q4, R + 1, c, A, r_W W i t v, ?_, hg4.kw (fun x hx' => hx x (by omega) (by omega)) (ny _ (by omega) (by omega)) (fun k hk => ns k (by omega)) rfl, ⟨?_, ?_, ?_, ?_⟩, ⟨?_, ?_, ?_, ?_, ?_, ?_, ?_⟩, ⟨hZ, r_W_ok hI.2.1 (by omega) (by omega) (fun k => hti k.symm) hv, hI.2.2⟩⟩⟩
            · have := (x_to_le hg1.le.1 (fun g => (hg1.le.2.2 g).1)).1
              omega
            · exact (w_addr _ (by omega)).trans ((w_addr _ (by omega)).trans ((w_slot _ (by decide)).trans C1))
            · exact (w_addr _ (by omega)).trans ((w_addr _ (by omega)).trans ((w_same _ _ _ _).trans (by rw [C2])))
            · exact fun a b ha hb => r_W_mat (M := z_wI M4 (o + 505) 1 (M4.1 (o + 505) 1 + 1)) (by omega) (by omega) (fun _ _ => True) (fun a b ha hb _ => (w_addr _ (by omega)).trans (C3 a b ha hb)) a b ha hb trivial
            · exact C4.keep (fun x h1 h2 => hx x (by omega) (by omega))
            · exact (ns 7 (by omega)).trans m1
            · refine (w_same _ _ _ _).trans ?_
              rw [w_addr _ (by omega), w_addr _ (by omega), m2]
            · exact (ns 9 (by omega)).trans m3
            · exact (ns 10 (by omega)).trans m4
            · exact fun k hk => (congrFun (ny _ (by omega) (by omega)) k).trans (m5 k hk)
            · exact fun u hu => ⟨(congrFun (ny _ (by omega) (by omega)) u).trans (m6 u hu).1, (congrFun (ny _ (by omega) (by omega)) u).trans (m6 u hu).2⟩
            · exact fun a b ha hb hab => (w_addr _ (by omega)).trans (r_W_mat (by omega) (by omega) (fun a b => a ≠ b) (fun a b ha hb hab => m7 a b ha hb hab) a b ha hb hab)
    · obtain ⟨x5, e5⟩ := t_way (o + 505) (Int32.ofNat i) (-1) M3
      rw [zb2_ok (show F_Tokens_checkNumber o 0 (Int32.ofNat (Z - 1)) M1 = some (-1, M3) from e2), zb_ok e5]
      have cl : ∃ M', (if x5 = (-1) then F_TextReader_readRoad_J57 o (Int32.ofNat i) (-1) M3 else zb (F_Tokens_fail o 4 M3) fun M6 => F_TextReader_readRoad_J57 o (Int32.ofNat i) (-1) M6) = some M' ∧ c_kp o M3 M' := by
        by_cases k : x5 = -1
        · rw [if_pos k]
          exact t_road57 o _ _ M3
        · rw [if_neg k]
          obtain ⟨M6, e6, c6⟩ := t_fail o 4 M3
          obtain ⟨M', e, cc⟩ := t_road57 o (Int32.ofNat i) (-1) M6
          rw [zb_ok e6]
          exact ⟨M', e, c6.kp.tr cc⟩
      obtain ⟨M', e, cc⟩ := cl
      have rf : F_Model_roadRead_J77 (o + 548) (Int32.ofNat i) N1 = some N3 := by
        rw [J77 _ _ hD1.2.1, zb2_ok (show F_Model_number (o + 548) 0 (Int32.ofNat (Z - 1)) N1 = some (Int32.ofNat 0, N3) from f2), zb2_ok (b_number hb3.n _ _), zb_ok (b_good hb3.n), if_pos rfl]
      refine ⟨M', N3, e, ?_, c1.kp.tr (c3.kp.tr cc), d1.kp.tr d3.kp, Or.inl (hb3.kp cc)⟩
      by_cases k : N1.1 (o + 548) 27 = 2
      · have := hin k
        rw [e_i0] at this
        rw [if_pos k, zb_ok this, if_pos rfl]
        exact rf
      · rw [if_neg k]
        exact rf
/-! a rule -/
theorem z_svs : ∀ k, k < 10 → ∃ a b, a ≤ b ∧ b ≤ 9999 ∧ z_sv 1 k = Int32.ofNat a ∧ z_sv 2 k = Int32.ofNat b ∧ (7 ≤ k → b = 90) := by
  intro k hk
  rcases (show k = 0 ∨ k = 1 ∨ k = 2 ∨ k = 3 ∨ k = 4 ∨ k = 5 ∨ k = 6 ∨ k = 7 ∨ k = 8 ∨ k = 9 by omega) with rfl | rfl | rfl | rfl | rfl | rfl | rfl | rfl | rfl | rfl
  · exact ⟨0, 60, by omega, by omega, rfl, rfl, by omega⟩
  · exact ⟨0, 9, by omega, by omega, rfl, rfl, by omega⟩
  · exact ⟨0, 60, by omega, by omega, rfl, rfl, by omega⟩
  · exact ⟨0, 30, by omega, by omega, rfl, rfl, by omega⟩
  · exact ⟨0, 9999, by omega, by omega, rfl, rfl, by omega⟩
  · exact ⟨1, 999, by omega, by omega, rfl, rfl, by omega⟩
  · exact ⟨1, 99, by omega, by omega, rfl, rfl, by omega⟩
  · exact ⟨0, 90, by omega, by omega, rfl, rfl, by omega⟩
  · exact ⟨0, 90, by omega, by omega, rfl, rfl, by omega⟩
  · exact ⟨0, 90, by omega, by omega, rfl, rfl, by omega⟩
/-- the value of rule k: what both have when it has been read -/
theorem j_ruleV {o n q Z k : Nat} {M N : z_Mem} {T : Nat → Nat} {R : Int32} {c A : q_R} {W : q_W} (hT : ∀ k, T k < 256) (hk : k < 10) (hg : z_g o M N T n q) (hD : r_D o M N Z R c A W) : ∃ M' y N1, F_TextReader_readRuleValue o (Int32.ofNat k) M = some M' ∧ F_Model_number (o + 548) (z_sv 1 k) (z_sv 2 k) N = some (y, N1) ∧ c_kp o M M' ∧ n_ks (o + 548) N N1 ∧ (z_b o M' N1 ∨ N1.1 (o + 548) 30 = 0 ∧ r_out o M' (z_wI N1 (o + 548 + 2) (3 + k) y) T n q Z) := by
  obtain ⟨a, b, hab, hb, ea, eb, h90⟩ := z_svs k hk
  have ib : z_inb (Int32.ofNat k) 10 := (i_inb (by omega)).mpr hk
  obtain ⟨x, y, M1, N1, e1, f1, c1, d1, h1⟩ := j_number (a := a) (b := b) hT (by omega) hab hg
  have hI := hD.2.2
  have hD1 := hD.ks c1 d1
  have eC : ∀ v N1, F_Desk_changeRule (o + 507) (Int32.ofNat k) v N1 = some (z_wI N1 (o + 507 + 1) k v) := fun v N1 => by
    unfold F_Desk_changeRule
    rw [if_neg (i_nn (by omega)), if_neg (show ¬ (10 : Int32) ≤ Int32.ofNat k from i_nle (a := 10) (by decide) (by omega) hk), if_pos ib, zl_eq, i_cl (by omega)]
  unfold F_TextReader_readRuleValue
  rw [if_neg (i_nn (by omega)), if_neg (show ¬ (10 : Int32) ≤ Int32.ofNat k from i_nle (a := 10) (by decide) (by omega) hk), if_pos ib, if_pos ib, i_cl (by omega), ea, eb, zb2_ok e1, zb_ok (eC _ _)]
  have kp : c_kp o M1 (z_wI M1 (o + 507 + 1) k x) := c_kp.w (by omega) (by omega)
  refine ⟨z_wI M1 (o + 507 + 1) k x, y, N1, rfl, f1, c1.kp.tr kp, d1, ?_⟩
  rcases h1 with hb1 | ⟨t, q1, -, ht, rfl, rfl, hq1, hg1⟩
  · exact Or.inl (hb1.kp kp)
  · refine Or.inr ⟨hg1.1.2.2.1, Or.inr ⟨q1, R, c, q_w A (3 + k) (Int32.ofNat t), W, by omega, hg1.kw (fun x hx => funext fun j => w_addr _ (by omega)) (funext fun j => w_addr _ (by omega)) (fun j _ => w_addr _ (by omega)) rfl, ?_, ?_, ?_⟩⟩
    · obtain ⟨C1, C2, C3, C4⟩ := hD1.1
      exact ⟨(w_addr _ (by omega)).trans C1, (w_addr _ (by omega)).trans C2, fun a b ha hb => (w_addr _ (by omega)).trans (C3 a b ha hb), C4.rule hI.2.2.2.1 hk⟩
    · obtain ⟨m1, m2, m3, m4, m5, m6, m7⟩ := hD1.2.1
      refine ⟨(w_addr _ (by omega)).trans m1, (w_addr _ (by omega)).trans m2, (w_addr _ (by omega)).trans m3, (w_addr _ (by omega)).trans m4, fun j hj => ?_, fun u hu => ⟨(w_addr _ (by omega)).trans (m6 u hu).1, (w_addr _ (by omega)).trans (m6 u hu).2⟩, fun a b ha hb hab => (w_addr _ (by omega)).trans (m7 a b ha hb hab)⟩
      by_cases hjk : j = 3 + k
      · rw [hjk, w_same, q_w_same]
      · rw [w_slot _ hjk, q_w_ne hjk]
        exact m5 j hj
    · obtain ⟨i1, i2, i3, i4, ⟨i5, i6⟩, i7, i8⟩ := hI
      refine ⟨i1, i2, i3, (q_w_ne (by omega)).trans i4, ⟨?_, fun j hj => ?_⟩, fun u hu => ?_, fun j h1 h2 => (q_w_ne (by omega)).trans (i8 j h1 h2)⟩
      · rw [q_w_ne (by omega)]
        exact i5
      · by_cases hjk : 10 + j = 3 + k
        · rw [hjk, q_w_same]
          exact ⟨t, by have := h90 (by omega); omega, rfl⟩
        · rw [q_w_ne hjk]
          exact i6 j hj
      · rw [q_w_ne (by omega), q_w_ne (by omega), q_w_ne (by omega), q_w_ne (by omega)]
        exact i7 u hu
/-- what ends a clause -/
theorem j_end {o n q Z : Nat} {M N : z_Mem} {T : Nat → Nat} (hT : ∀ k, T k < 256) (h : r_out o M N T n q Z) : ∃ M' N', F_TextReader_readClause_J167 o M = some M' ∧ F_Model_clauseRead_J185 (o + 548) N = some N' ∧ c_kp o M M' ∧ n_kp (o + 548) N N' ∧ r_out o M' N' T n (q + 1) Z := by
  rcases h with hb | ⟨q1, R, c, A, W, hq, hg, hD⟩
  · obtain ⟨M', e, cc⟩ := t_end o M
    exact ⟨M', N, e, b_end hb.n, cc, n_kp.rfl', Or.inl (hb.kp cc)⟩
  · obtain ⟨M', N', e, f, c1, d1, h1⟩ := j_sign (b := 59) hT (by decide) hg
    unfold F_TextReader_readClause_J167 F_Model_clauseRead_J185
    rw [zb_ok (show F_Tokens_takeSign o 59 M = some M' from e), zb_ok (show F_Model_must (o + 548) 59 N = some N' from f)]
    refine ⟨M', N', rfl, rfl, c1.kp, d1.kp, ?_⟩
    rcases h1 with hb | ⟨q2, hq2, hg2⟩
    · exact Or.inl hb
    · exact Or.inr ⟨q2, R, c, A, W, by omega, hg2, hD.ks c1 d1⟩
/-- rule -/
theorem j_ruleHere {o n q : Nat} {M N : z_Mem} {T : Nat → Nat} (hT : ∀ k, T k < 256) (hg : z_g o M N T n q) : (∀ j, 14 ≤ j → j ≤ 20 → v_is T n q j → F_Model_ruleHere (o + 548) N = some (Int32.ofNat (j - 14))) ∧ ((∀ j, 14 ≤ j → j ≤ 20 → ¬ v_is T n q j) → F_Model_ruleHere (o + 548) N = some (-1)) := by
  have w14 : F_Model_isWord (o + 548) 453701 N = _ := (j_isWord (j := 14) hT (by decide) hg).2
  have w15 : F_Model_isWord (o + 548) 2582454 N = _ := (j_isWord (j := 15) hT (by decide) hg).2
  have w16 : F_Model_isWord (o + 548) 8094240 N = _ := (j_isWord (j := 16) hT (by decide) hg).2
  have w17 : F_Model_isWord (o + 548) 168044941553 N = _ := (j_isWord (j := 17) hT (by decide) hg).2
  have w18 : F_Model_isWord (o + 548) 4514 N = _ := (j_isWord (j := 18) hT (by decide) hg).2
  have w19 : F_Model_isWord (o + 548) 10497998 N = _ := (j_isWord (j := 19) hT (by decide) hg).2
  have w20 : F_Model_isWord (o + 548) 358472 N = _ := (j_isWord (j := 20) hT (by decide) hg).2
  unfold F_Model_ruleHere
  rw [zb_ok w14, zb_ok w15, zb_ok w16, zb_ok w17, zb_ok w18, zb_ok w19, zb_ok w20]
  refine ⟨fun j h1 h2 hv => ?_, fun hno => ?_⟩
  · have one : ∀ k, k < 26 → k ≠ j → ¬ v_is T n q k := fun k hk hne z => hne (v_is.one hk (by omega) z hv)
    rcases (show j = 14 ∨ j = 15 ∨ j = 16 ∨ j = 17 ∨ j = 18 ∨ j = 19 ∨ j = 20 by omega) with rfl | rfl | rfl | rfl | rfl | rfl | rfl
    · rw [if_pos hv, if_neg (by decide)]; rfl
    · rw [if_neg (one 14 (by omega) (by omega)), if_pos rfl, if_pos hv, if_neg (by decide)]; rfl
    · rw [if_neg (one 14 (by omega) (by omega)), if_pos rfl, if_neg (one 15 (by omega) (by omega)), if_pos rfl, if_pos hv, if_neg (by decide)]; rfl
    · rw [if_neg (one 14 (by omega) (by omega)), if_pos rfl, if_neg (one 15 (by omega) (by omega)), if_pos rfl, if_neg (one 16 (by omega) (by omega)), if_pos rfl, if_pos hv, if_neg (by decide)]; rfl
    · rw [if_neg (one 14 (by omega) (by omega)), if_pos rfl, if_neg (one 15 (by omega) (by omega)), if_pos rfl, if_neg (one 16 (by omega) (by omega)), if_pos rfl, if_neg (one 17 (by omega) (by omega)), if_pos rfl, if_pos hv, if_neg (by decide)]; rfl
    · rw [if_neg (one 14 (by omega) (by omega)), if_pos rfl, if_neg (one 15 (by omega) (by omega)), if_pos rfl, if_neg (one 16 (by omega) (by omega)), if_pos rfl, if_neg (one 17 (by omega) (by omega)), if_pos rfl, if_neg (one 18 (by omega) (by omega)), if_pos rfl, if_pos hv, if_neg (by decide)]; rfl
    · rw [if_neg (one 14 (by omega) (by omega)), if_pos rfl, if_neg (one 15 (by omega) (by omega)), if_pos rfl, if_neg (one 16 (by omega) (by omega)), if_pos rfl, if_neg (one 17 (by omega) (by omega)), if_pos rfl, if_neg (one 18 (by omega) (by omega)), if_pos rfl, if_neg (one 19 (by omega) (by omega)), if_pos rfl, if_pos hv, if_neg (by decide)]; rfl
  · rw [if_neg (hno 14 (by omega) (by omega)), if_pos rfl, if_neg (hno 15 (by omega) (by omega)), if_pos rfl, if_neg (hno 16 (by omega) (by omega)), if_pos rfl, if_neg (hno 17 (by omega) (by omega)), if_pos rfl, if_neg (hno 18 (by omega) (by omega)), if_pos rfl, if_neg (hno 19 (by omega) (by omega)), if_pos rfl, if_neg (hno 20 (by omega) (by omega)), if_pos rfl]
theorem j_rule {o n q Z : Nat} {M N : z_Mem} {T : Nat → Nat} {R : Int32} {c A : q_R} {W : q_W} (hT : ∀ k, T k < 256) (hg : z_g o M N T n q) (hD : r_D o M N Z R c A W) : ∃ M' N', (zb2 (F_Tokens_takeWord o 14 20 M) fun x7 M6 => zb (F_TextReader_readRuleValue o (x7 - 14) M6) fun M8 => F_TextReader_readClause_J167 o M8) = some M' ∧ (zb (F_Model_ruleRead (o + 548) N) fun M12 => F_Model_clauseRead_J185 (o + 548) M12) = some N' ∧ c_kp o M M' ∧ n_kp (o + 548) N N' ∧ r_out o M' N' T n (q + 1) Z := by
  have hr := j_ruleHere hT hg
  unfold F_Model_ruleRead
  rcases j_takeWord (a := 14) (b := 20) hT (by decide) (by decide) hg with ⟨j, M1, N1, h14, h20, hv, hq, e1, f1, hg1, c1, d1⟩ | ⟨M1, N1, hno, e1, f1, hb1, c1, d1⟩
  · have e14 : Int32.ofNat j - 14 = Int32.ofNat (j - 14) := i_sub (a := j) (b := 14) h14
    have hD1 := hD.ks c1 d1
    have hir := i_rules (j - 14) (by omega)
    rw [zb2_ok (show F_Tokens_takeWord o 14 20 M = some (Int32.ofNat j, M1) from e1), e14, zb_ok (hr.1 j h14 h20 hv), if_neg (show ¬ Int32.ofNat (j - 14) = -1 from fun k => by
      have := congrArg Int32.toInt k
      rw [i_toInt (by omega)] at this
      have e : ((-1 : Int32)).toInt = -1 := by decide
      omega), zb_ok f1, zb_ok (hir.1 N1), zb_ok (hir.2.1 N1)]
    have hq1 := (x_to_le hg.le.1 (fun g => (hg.le.2.2 g).1)).2.2.1 hq
    obtain ⟨M2, y, N2, e2, f2, c2, d2, h2⟩ := j_ruleV (k := j - 14) hT (by omega) hg1 hD1
    rw [zb_ok e2, zb2_ok f2]
    rcases h2 with hb2 | ⟨h30, ho⟩
    · rw [zb_ok (b_good hb2.n), if_pos rfl, zb_ok rfl]
      obtain ⟨M', N', e, f, cc, dd, ho⟩ := j_end (q := x_to T n q) (Z := Z) hT (Or.inl hb2)
      refine ⟨M', N', e, f, c1.kp.tr (c2.tr cc), d1.kp.tr (d2.kp.tr dd), ?_⟩
      rcases ho with hb | ⟨q2, R2, c', A', W', hq2, hr2⟩
      · exact Or.inl hb
      · exact Or.inr ⟨q2, R2, c', A', W', by omega, hr2⟩
    · have e3 : (3 : Int32) + Int32.ofNat (j - 14) = Int32.ofNat (3 + (j - 14)) := i_add 3 _
      rw [zb_ok (b_ok h30), if_neg ne10, e3, if_pos ((i_inb (by omega)).mpr (by omega)), i_cl (by omega), zl_eq, zb_ok rfl]
      obtain ⟨M', N', e, f, cc, dd, ho'⟩ := j_end hT ho
      refine ⟨M', N', e, f, c1.kp.tr (c2.tr cc), d1.kp.tr (d2.kp.tr ((n_kp.w (Or.inl rfl)).tr dd)), ?_⟩
      rcases ho' with hb | ⟨q2, R2, c', A', W', hq2, hr2⟩
      · exact Or.inl hb
      · exact Or.inr ⟨q2, R2, c', A', W', by omega, hr2⟩
  · rw [zb2_ok (show F_Tokens_takeWord o 14 20 M = some (-1, M1) from e1), zb_ok (hr.2 hno), if_pos rfl, zb2_ok f1, zb_ok rfl, b_end hb1.n]
    obtain ⟨M2, e2, c2⟩ := t_ruleV o (-1 - 14) M1
    obtain ⟨M', e, cc⟩ := t_end o M2
    rw [zb_ok e2]
    exact ⟨M', N1, e, rfl, c1.kp.tr (c2.tr cc), d1.kp, Or.inl ((hb1.kp c2).kp cc)⟩
/-- discount -/
theorem j_disc {o n q Z : Nat} {M N : z_Mem} {T : Nat → Nat} {R : Int32} {c A : q_R} {W : q_W} (hT : ∀ k, T k < 256) (hg : z_g o M N T n q) (hD : r_D o M N Z R c A W) : ∃ M' N', (zb2 (F_Tokens_takeNumber o 2 4 M) fun x10 M9 => zb (F_TextReader_readRuleValue o ((7 + x10) - 2) M9) fun M11 => F_TextReader_readClause_J167 o M11) = some M' ∧ (zb2 (F_Model_number (o + 548) 2 4 N) fun x14 M13 => zb2 (F_Model_number (o + 548) 0 90 M13) fun x16 M15 => zb (F_Model_isGood (o + 548) M15) fun x17 => if x17 = 0 then F_Model_clauseRead_J159 (o + 548) M15 else if z_inb ((10 + x14) - 2) 581 then zl (z_wI M15 (o + 548 + 2) ((10 + x14) - 2).toNatClampNeg x16) fun M18 => F_Model_clauseRead_J159 (o + 548) M18 else none) = some N' ∧ c_kp o M M' ∧ n_kp (o + 548) N N' ∧ r_out o M' N' T n (q + 1) Z := by
  obtain ⟨x, y, M1, N1, e1, f1, c1, d1, h1⟩ := j_number (a := 2) (b := 4) hT (by decide) (by decide) hg
  rw [zb2_ok (show F_Tokens_takeNumber o 2 4 M = some (x, M1) from e1), zb2_ok (show F_Model_number (o + 548) 2 4 N = some (y, N1) from f1)]
  rcases h1 with hb1 | ⟨t, q1, ht2, ht4, rfl, rfl, hq1, hg1⟩
  · obtain ⟨M2, e2, c2⟩ := t_ruleV o ((7 + x) - 2) M1
    obtain ⟨M', e, cc⟩ := t_end o M2
    rw [zb_ok e2, zb2_ok (b_number hb1.n _ _), zb_ok (b_good hb1.n), if_pos rfl]
    exact ⟨M', N1, e, b_end hb1.n, c1.kp.tr (c2.tr cc), d1.kp, Or.inl ((hb1.kp c2).kp cc)⟩
  · have hD1 := hD.ks c1 d1
    have e7 : (7 : Int32) + Int32.ofNat t - 2 = Int32.ofNat (5 + t) := by
      rw [show (7 : Int32) = Int32.ofNat 7 from rfl, i_add, show (2 : Int32) = Int32.ofNat 2 from rfl, i_sub (by omega), show 7 + t - 2 = 5 + t by omega]
    have e10 : (10 : Int32) + Int32.ofNat t - 2 = Int32.ofNat (3 + (5 + t)) := by
      rw [show (10 : Int32) = Int32.ofNat 10 from rfl, i_add, show (2 : Int32) = Int32.ofNat 2 from rfl, i_sub (by omega), show 10 + t - 2 = 3 + (5 + t) by omega]
    obtain ⟨M2, y, N2, e2, f2, c2, d2, h2⟩ := j_ruleV (k := 5 + t) hT (by omega) hg1 hD1
    have h9 := (i_rules (5 + t) (by omega)).2.2 (by omega)
    rw [h9.1, h9.2] at f2
    rw [e7, zb_ok e2, zb2_ok f2]
    rcases h2 with hb2 | ⟨h30, ho⟩
    · rw [zb_ok (b_good hb2.n), if_pos rfl]
      obtain ⟨M', e, cc⟩ := t_end o M2
      exact ⟨M', N2, e, b_end hb2.n, c1.kp.tr (c2.tr cc), d1.kp.tr d2.kp, Or.inl (hb2.kp cc)⟩
    · rw [zb_ok (b_ok h30), if_neg ne10, e10, if_pos ((i_inb (by omega)).mpr (by omega)), i_cl (by omega), zl_eq]
      obtain ⟨M', N', e, f, cc, dd, ho'⟩ := j_end hT ho
      refine ⟨M', N', e, f, c1.kp.tr (c2.tr cc), d1.kp.tr (d2.kp.tr ((n_kp.w (Or.inl rfl)).tr dd)), ?_⟩
      rcases ho' with hb | ⟨q2, R2, c', A', W', hq2, hr2⟩
      · exact Or.inl hb
      · exact Or.inr ⟨q2, R2, c', A', W', by omega, hr2⟩
/-- tariff -/
theorem j_tariff {o n q Z : Nat} {M N : z_Mem} {T : Nat → Nat} {R : Int32} {c A : q_R} {W : q_W} (hT : ∀ k, T k < 256) (hg : z_g o M N T n q) (hD : r_D o M N Z R c A W) : ∃ M' N', (zb2 (F_Tokens_takeNumber o 0 9999 M) fun x13 M12 => zl (z_wI M12 (o + 507) 1 x13) fun M14 => zb2 (F_Tokens_takeNumber o 0 999 M14) fun x16 M15 => zl (z_wI M15 (o + 507) 2 x16) fun M17 => F_TextReader_readClause_J167 o M17) = some M' ∧ (zb2 (F_Model_number (o + 548) 0 9999 N) fun x20 M19 => zb2 (F_Model_number (o + 548) 0 999 M19) fun x22 M21 => zb (F_Model_isGood (o + 548) M21) fun x23 => if x23 = 0 then F_Model_clauseRead_J98 (o + 548) x22 M21 else zl (z_wI M21 (o + 548) 10 x20) fun M24 => F_Model_clauseRead_J98 (o + 548) x22 M24) = some N' ∧ c_kp o M M' ∧ n_kp (o + 548) N N' ∧ r_out o M' N' T n (q + 1) Z := by
  have hI := hD.2.2
  obtain ⟨x, y, M1, N1, e1, f1, c1, d1, h1⟩ := j_number (a := 0) (b := 9999) hT (by decide) (by decide) hg
  rw [zb2_ok (show F_Tokens_takeNumber o 0 9999 M = some (x, M1) from e1), zb2_ok (show F_Model_number (o + 548) 0 9999 N = some (y, N1) from f1), zl_eq]
  have bad : ∀ N2 v, N2.1 (o + 548) 30 ≠ 0 → F_Model_clauseRead_J98 (o + 548) v N2 = some N2 := fun N2 v h => by
    unfold F_Model_clauseRead_J98 F_Model_clauseRead_J112
    rw [zb_ok (b_good h), if_pos rfl, b_end h]
  rcases h1 with hb1 | ⟨v, q1, -, hv, rfl, rfl, hq1, hg1⟩
  · obtain ⟨M', e, cc⟩ := t_tariffB o (z_wI M1 (o + 507) 1 x)
    have kp : c_kp o M1 (z_wI M1 (o + 507) 1 x) := c_kp.w (by omega) (by omega)
    rw [zb2_ok (b_number hb1.n _ _), zb_ok (b_good hb1.n), if_pos rfl, bad _ _ hb1.n]
    exact ⟨M', N1, e, rfl, c1.kp.tr (kp.tr cc), d1.kp, Or.inl ((hb1.kp kp).kp cc)⟩
  · have hD1 := hD.ks c1 d1
    obtain ⟨C1, C2, C3, C4⟩ := hD1.1
    have kp : c_kp o M1 (z_wI M1 (o + 507) 1 (Int32.ofNat v)) := c_kp.w (by omega) (by omega)
    have hg1' : z_g o (z_wI M1 (o + 507) 1 (Int32.ofNat v)) N1 T n q1 := hg1.kw (fun x hx => funext fun j => w_addr _ (by omega)) rfl (fun _ _ => rfl) rfl
    have hC1 : r_C o (z_wI M1 (o + 507) 1 (Int32.ofNat v)) Z R (q_w c 67 (Int32.ofNat v)) A W := ⟨(w_addr _ (by omega)).trans C1, (w_addr _ (by omega)).trans C2, fun a b ha hb => (w_addr _ (by omega)).trans (C3 a b ha hb), C4.flag hI.2.2.2.1⟩
    obtain ⟨x2, y2, M2, N2, e2, f2, c2, d2, h2⟩ := j_number (a := 0) (b := 999) hT (by decide) (by decide) hg1'
    rw [zb2_ok (show F_Tokens_takeNumber o 0 999 _ = some (x2, M2) from e2), zb2_ok (show F_Model_number (o + 548) 0 999 N1 = some (y2, N2) from f2), zl_eq]
    have kp2 : c_kp o M2 (z_wI M2 (o + 507) 2 x2) := c_kp.w (by omega) (by omega)
    rcases h2 with hb2 | ⟨w, q2, -, hw, rfl, rfl, hq2, hg2⟩
    · obtain ⟨M', e, cc⟩ := t_end o (z_wI M2 (o + 507) 2 x2)
      rw [zb_ok (b_good hb2.n), if_pos rfl, bad _ _ hb2.n]
      exact ⟨M', N2, e, rfl, c1.kp.tr (kp.tr (c2.kp.tr (kp2.tr cc))), d1.kp.tr d2.kp, Or.inl ((hb2.kp kp2).kp cc)⟩
    · rw [zb_ok (b_ok hg2.1.2.2.1), if_neg ne10, zl_eq]
      unfold F_Model_clauseRead_J98 F_Model_clauseRead_J112
      have h30 : (z_wI N2 (o + 548) 10 (Int32.ofNat v)).1 (o + 548) 30 = 0 := (w_slot _ (by decide)).trans hg2.1.2.2.1
      rw [zb_ok (b_ok h30), if_neg ne10, if_pos (show z_inb (2 : Int32) 581 by decide), zl_eq, show (2 : Int32).toNatClampNeg = 2 from rfl]
      have hC2 := hC1.ks c2
      have hM2 := (hD1.2.1.ks d2)
      have ho : r_out o (z_wI M2 (o + 507) 2 (Int32.ofNat w)) (z_wI (z_wI N2 (o + 548) 10 (Int32.ofNat v)) (o + 548 + 2) 2 (Int32.ofNat w)) T n q2 Z := by
        refine Or.inr ⟨q2, R, q_w c 67 (Int32.ofNat v), q_w A 2 (Int32.ofNat w), W, Nat.le_refl _, hg2.kw (fun x hx => funext fun j => w_addr _ (by omega)) (funext fun j => (w_addr _ (by omega)).trans (w_addr _ (by omega))) (fun j hj => (w_addr _ (by omega)).trans (w_slot _ (by omega))) rfl, ?_, ?_, ?_⟩
        · obtain ⟨C1, C2, C3, C4⟩ := hC2
          exact ⟨(w_addr _ (by omega)).trans C1, (w_addr _ (by omega)).trans C2, fun a b ha hb => (w_addr _ (by omega)).trans (C3 a b ha hb), C4.rate hI.2.2.2.1⟩
        · obtain ⟨m1, m2, m3, m4, m5, m6, m7⟩ := hM2
          have eT : q_T (q_w c 67 (Int32.ofNat v)) = q_T c := q_T_eq (q_w_ne (by decide))
          have s : ∀ k, k ≠ 10 → (z_wI (z_wI N2 (o + 548) 10 (Int32.ofNat v)) (o + 548 + 2) 2 (Int32.ofNat w)).1 (o + 548) k = N2.1 (o + 548) k := fun k hk => (w_addr _ (by omega)).trans (w_slot _ hk)
          have x : ∀ x k, x ≠ o + 548 → x ≠ o + 548 + 2 → (z_wI (z_wI N2 (o + 548) 10 (Int32.ofNat v)) (o + 548 + 2) 2 (Int32.ofNat w)).1 x k = N2.1 x k := fun x k h1 h2 => (w_addr _ h2).trans (w_addr _ h1)
          refine ⟨(s 7 (by omega)).trans m1, (s 8 (by omega)).trans m2, (s 9 (by omega)).trans (m3.trans (q_w_ne (by decide)).symm), ?_, fun j hj => ?_, fun u hu => ?_, fun a b ha hb hab => (x _ _ (by omega) (by omega)).trans (m7 a b ha hb hab)⟩
          · rw [w_addr _ (by omega), w_same, q_w_same]
          · by_cases hjk : j = 2
            · rw [hjk, w_same, q_w_same]
            · rw [w_slot _ hjk, w_addr _ (by omega), q_w_ne hjk]
              exact m5 j hj
          · rw [eT] at hu
            rw [x _ _ (by omega) (by omega), x _ _ (by omega) (by omega), q_w_ne (by omega), q_w_ne (by omega)]
            exact m6 u hu
        · obtain ⟨i1, i2, i3, i4, ⟨i5, i6⟩, i7, i8⟩ := hI
          have eT : q_T (q_w c 67 (Int32.ofNat v)) = q_T c := q_T_eq (q_w_ne (by decide))
          refine ⟨i1, i2, ⟨by rw [eT]; exact (q_w_ne (by decide)).trans i3.1, by rw [eT]; exact i3.2⟩, (q_w_ne (by omega)).trans i4, ⟨⟨w, hw, q_w_same _ _ _⟩, fun j hj => ?_⟩, fun u hu => ?_, fun j h1 h2 => ?_⟩
          · rw [q_w_ne (by omega)]
            exact i6 j hj
          · rw [eT] at hu
            rw [q_w_ne (by omega), q_w_ne (by omega), q_w_ne (by omega), q_w_ne (by omega), q_w_ne (by omega)]
            exact i7 u hu
          · rw [eT] at h1
            rw [q_w_ne (by omega)]
            exact i8 j h1 h2
      obtain ⟨M', N', e, f, cc, dd, ho'⟩ := j_end hT ho
      refine ⟨M', N', e, f, c1.kp.tr (kp.tr (c2.kp.tr (kp2.tr cc))), d1.kp.tr (d2.kp.tr ((n_kp.s (by omega)).tr ((n_kp.w (Or.inl rfl)).tr dd))), ?_⟩
      rcases ho' with hb | ⟨q3, R3, c', A', W', hq3, hr3⟩
      · exact Or.inl hb
      · exact Or.inr ⟨q3, R3, c', A', W', by omega, hr3⟩
