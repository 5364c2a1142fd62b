/-! ===== PURE: load ===== -/
theorem z_b.nn {o : Nat} {M N N' : z_Mem} (h : z_b o M N) (h30 : N'.1 (o + 548) 30 = N.1 (o + 548) 30) (h31 : N'.1 (o + 548) 31 = N.1 (o + 548) 31) : z_b o M N' := ⟨h.1, h30.trans h.2.1, h31.trans h.2.2⟩
/-- the class from the number of zones on, with an error -/
theorem t_hdr (o : Nat) (M : z_Mem) (h : M.1 (o + 499) 0 ≠ 0) : ∃ M', (zb2 (F_Tokens_takeNumber o 2 8 M) fun x5 M4 => zb (F_Town_clear (o + 505) x5 M4) fun M6 => zb (F_Tokens_takeSign o 59 M6) fun M7 => F_TextReader_readText_L45 o 10000 0 M7) = F_TextReader_readText_J72 o M' ∧ c_kp o M M' := by
  obtain ⟨x, M4, e4, c4⟩ := t_number o 2 8 M
  obtain ⟨M6, e6, -, -, -, -, k6, l6⟩ := c_townClear (a := o + 505) x M4
  obtain ⟨M7, e7, c7⟩ := t_sign o 59 M6
  have kp : c_kp o M M7 := c4.kp.tr ((c_kp.in (fun y hy => k6 y (by omega) (by omega)) l6).tr c7.kp)
  refine ⟨M7, ?_, kp⟩
  rw [zb2_ok e4, zb_ok e6, zb_ok e7]
  exact c_loop_b (f := 9999) (by rw [(kp.2.2.2 h).1]; exact h)
theorem b_hdr {m : Nat} {N : z_Mem} (h : N.1 m 30 ≠ 0) (x : Int32) : ∃ N', (zb (F_Model_begins m x N) fun M12 => zb (F_Model_must m 59 M12) fun M13 => F_Model_load_L64 m 10000 M13) = F_Model_load_J85 m N' ∧ n_kp m N N' ∧ N'.1 m 30 = N.1 m 30 ∧ N'.1 m 31 = N.1 m 31 := by
  obtain ⟨N', e, -, -, -, -, -, -, ks, kx, kl⟩ := m_begins (m := m) x N
  have h' : N'.1 m 30 ≠ 0 := by rw [ks 30 (by omega)]; exact h
  refine ⟨N', ?_, ⟨fun y h1 h2 h3 => kx y h1 h2 (by omega), fun k h1 h2 => ks k h1, fun y k _ => by rw [kl]⟩, ks 30 (by omega), ks 31 (by omega)⟩
  rw [zb_ok e, zb_ok (b_must h' _)]
  exact m_loop_b (f := 9999) h'
theorem q_A0_z {k : Nat} (h : 10 ≤ k) : q_A0 k = 0 := by
  unfold q_A0
  rw [if_neg (by omega), if_neg (by omega), if_neg (by omega), if_neg (by omega), if_neg (by omega), if_neg (by omega)]
theorem r_I0 {Z : Nat} (h2 : 2 ≤ Z) (h8 : Z ≤ 8) : r_I Z (fun _ => 0) q_A0 q_W0 := by
  have h := q_W0_ok Z
  refine ⟨⟨h2, h8⟩, ⟨h.1, h.2.1, fun a b v hv => Nat.le_trans (h.2.2 a b v hv) (by omega)⟩, ⟨rfl, by show 0 ≤ 4; omega⟩, rfl, ⟨⟨0, by omega, rfl⟩, fun k hk => ⟨0, by omega, q_A0_z (by omega)⟩⟩, fun t ht => absurd ht (Nat.not_lt_zero t), fun k hk _ => q_A0_z (by have hk : 13 ≤ k := hk; omega)⟩
/-- the whole text, both -/
theorem j_text {o n q : Nat} {M N : z_Mem} {T : Nat → Nat} (hT : ∀ k, T k < 256) (hg : z_g o M N T n q) : ∃ M' N' Z, F_TextReader_readText o M = F_TextReader_readText_J72 o M' ∧ (zb2 (F_Model_passes (o + 548) 14123071 N) fun x7 M6 => if x7 = 0 then zb2 (F_Model_wrongs (o + 548) 1 M6) fun x9 M8 => F_Model_load_J47 (o + 548) M8 else F_Model_load_J47 (o + 548) M6) = F_Model_load_J85 (o + 548) N' ∧ c_kp o M M' ∧ n_kp (o + 548) N N' ∧ r_fin o M' N' Z := by
  obtain ⟨Md, ed, d0, -, dr, dk, dl⟩ := c_deskClear (a := o + 507) M
  have kpd : c_kp o M Md := c_kp.in (fun x hx => dk x (by omega) (by omega)) dl
  have hgd : z_g o Md N T n q := hg.kw (fun x hx => dk x (by omega) (by omega)) rfl (fun _ _ => rfl) rfl
  have hn := hg.le.2.1
  have p0 : F_Model_passes (o + 548) 14123071 N = _ := j_passes (j := 0) hT (by decide) hgd
  unfold F_TextReader_readText
  rw [zb_ok ed]
  rcases j_takeWord (a := 0) (b := 0) hT (by decide) (by decide) hgd with ⟨j, M2, N2, h1, h5, hv, hq, e2, f2, hg2, c2, d2⟩ | ⟨M2, N2, hno, e2, f2, hb2, c2, d2⟩
  · have hj : j = 0 := by omega
    rw [hj] at hv e2
    rw [zb2_ok (show F_Tokens_takeWord o 0 0 Md = some (Int32.ofNat 0, M2) from e2), p0, if_pos hv, zb_ok f2, zb2_ok rfl, if_neg (by decide)]
    unfold F_Model_load_J47
    obtain ⟨x, y, M4, N4, e4, f4, c4, d4, h4⟩ := j_number (a := 2) (b := 8) hT (by decide) (by decide) hg2
    rw [zb2_ok (show F_Model_number (o + 548) 2 8 N2 = some (y, N4) from f4)]
    rcases h4 with hb4 | ⟨Z, q4, hZ2, hZ8, rfl, rfl, hq4, hg4⟩
    · obtain ⟨N', fN, dN, n30, n31⟩ := b_hdr hb4.n y
      obtain ⟨M6, e6, -, -, -, -, k6, l6⟩ := c_townClear (a := o + 505) x M4
      obtain ⟨M7, e7, c7⟩ := t_sign o 59 M6
      have kp : c_kp o M4 M7 := (c_kp.in (fun y hy => k6 y (by omega) (by omega)) l6).tr c7.kp
      refine ⟨M7, N', 0, ?_, fN, kpd.tr (c2.kp.tr (c4.kp.tr kp)), d2.kp.tr (d4.kp.tr dN), Or.inl ((hb4.kp kp).nn n30 n31)⟩
      rw [zb2_ok (show F_Tokens_takeNumber o 2 8 M2 = some (x, M4) from e4), zb_ok e6, zb_ok e7]
      exact c_loop_b (f := 9999) (by rw [(kp.2.2.2 hb4.1).1]; exact hb4.1)
    · rw [zb2_ok (show F_Tokens_takeNumber o 2 8 M2 = some (Int32.ofNat Z, M4) from e4)]
      obtain ⟨M6, e6, t0, t1, tm, ts, k6, l6⟩ := c_townClear (a := o + 505) (Int32.ofNat Z) M4
      obtain ⟨N6, f6, n7, n8, n9, n10, n5, n2, ns, nx, nl⟩ := m_begins (m := o + 548) (Int32.ofNat Z) N4
      have hg6 : z_g o M6 N6 T n q4 := hg4.kw (fun x hx => k6 x (by omega) (by omega)) (nx _ (by omega) (by omega) (by omega)) (fun k hk => ns k (by omega)) nl
      have kp6 : c_kp o M4 M6 := c_kp.in (fun y hy => k6 y (by omega) (by omega)) l6
      have np6 : n_kp (o + 548) N4 N6 := ⟨fun y h1 h2 h3 => nx y h1 h2 (by omega), fun k h1 h2 => ns k h1, fun y k _ => by rw [nl]⟩
      have kd : ∀ x, x = o + 507 ∨ x = o + 508 → M6.1 x = Md.1 x := fun x hx => (k6 x (by omega) (by omega)).trans ((c4.1 x (by omega)).trans (c2.1 x (by omega)))
      have hD6 : r_D o M6 N6 Z 0 (fun _ => 0) q_A0 q_W0 := by
        refine ⟨⟨t0, t1, tm, ⟨by show 0 ≤ 4; omega, by show 0 ≤ 24; omega⟩, ?_, ?_, ?_, ?_, ?_, fun k hk => ?_, fun t ht => absurd ht (Nat.not_lt_zero t), fun r hr => absurd hr (Nat.not_lt_zero r)⟩, ⟨n7, n8, n9, n10, n2, fun t ht => absurd ht (Nat.not_lt_zero t), fun a b ha hb hab => ?_⟩, r_I0 hZ2 hZ8⟩
        · rw [kd _ (Or.inl rfl)]; exact d0 0 (by omega)
        · rw [kd _ (Or.inl rfl)]; exact d0 1 (by omega)
        · rw [kd _ (Or.inl rfl)]; exact d0 2 (by omega)
        · rw [kd _ (Or.inl rfl)]; exact d0 3 (by omega)
        · rw [kd _ (Or.inl rfl)]; exact d0 4 (by omega)
        · rw [kd _ (Or.inr rfl)]; exact dr k hk
        · rw [n5 _ (by omega)]
          unfold q_W0
          rw [if_neg hab]
          rfl
      rw [zb_ok e6, zb_ok f6]
      obtain ⟨M7, N7, e7, f7, c7, d7, h7⟩ := j_sign (b := 59) hT (by decide) hg6
      rw [zb_ok (show F_Tokens_takeSign o 59 M6 = some M7 from e7), zb_ok (show F_Model_must (o + 548) 59 N6 = some N7 from f7)]
      have kp7 := kpd.tr (c2.kp.tr (c4.kp.tr (kp6.tr c7.kp)))
      have np7 := d2.kp.tr (d4.kp.tr (np6.tr d7.kp))
      rcases h7 with hb7 | ⟨q7, hq7, hg7⟩
      · exact ⟨M7, N7, Z, c_loop_b (f := 9999) hb7.1, m_loop_b (f := 9999) hb7.n, kp7, np7, Or.inl hb7⟩
      · obtain ⟨M', N', e, f, cc, dd, hf⟩ := j_loop hT hn (n - q7) q7 0 10000 10000 M7 N7 0 _ _ _ (Nat.le_refl _) (by omega) (by omega) (by omega) hg7 (hD6.ks c7 d7)
        exact ⟨M', N', Z, e, f, kp7.tr cc, np7.tr dd, hf⟩
  · rw [zb2_ok (show F_Tokens_takeWord o 0 0 Md = some (-1, M2) from e2), p0, if_neg (hno 0 (by decide) (by decide)), zb2_ok rfl, if_pos rfl, zb2_ok f2]
    obtain ⟨M', e, cc⟩ := t_hdr o M2 hb2.1
    unfold F_Model_load_J47
    rw [zb2_ok (b_number hb2.n _ _)]
    obtain ⟨N', fN, dN, n30, n31⟩ := b_hdr hb2.n 2
    exact ⟨M', N', 0, e, fN, kpd.tr (c2.kp.tr cc), d2.kp.tr dN, Or.inl ((hb2.kp cc).nn n30 n31)⟩
/-! the state after it -/
def q_eat (s : q_S) (v : Int32) : q_S := (s.1, s.2.1, s.2.2.1, s.2.2.2.1, (s.2.2.2.2.1.1, 0), v, s.2.2.2.2.2.2)
theorem c_all.eat {o : Nat} {M M' : z_Mem} {s : q_S} {v : Int32} (h : c_all o M s) (h1 : M'.1 o 1 = 0) (h2 : M'.1 o 2 = v) (h0 : ∀ k, k = 4 ∨ k = 9 → M'.1 o k = M.1 o k) (hk : ∀ x, x ≠ o → x < o + 487 → M'.1 x = M.1 x) : c_all o M' (q_eat s v) := by
  obtain ⟨⟨a1, a2, a3⟩, g2, g3, g4, ⟨b0, b1, b2⟩, g6, ⟨d0, d1, d2⟩⟩ := h
  refine ⟨⟨by rw [hk _ (by omega) (by omega)]; exact a1, by rw [hk _ (by omega) (by omega)]; exact a2, fun k hk' => by rw [hk _ (by omega) (by omega)]; exact a3 k hk'⟩, g2.keep (fun a q1 q2 => hk a (by omega) (by omega)), g3.keep (fun a q1 q2 => hk a (by omega) (by omega)), ?_, ⟨by show 0 ≤ 800; omega, h1, fun k hk' => absurd hk' (Nat.not_lt_zero k)⟩, h2, ⟨d0, (h0 4 (by omega)).trans d1, fun k hk' => by rw [hk _ (by omega) (by omega)]; exact d2 k hk'⟩⟩
  show c_snap M' o s.1 s.2.2.2.1
  generalize s.2.2.2.1 = sn at g4 ⊢
  cases sn with
  | none => exact (h0 9 (by omega)).trans g4
  | some B => exact ⟨(h0 9 (by omega)).trans g4.1, g4.2.keep (fun a q1 q2 => hk a (by omega) (by omega))⟩
theorem m_all.eat {m : Nat} {N N' : z_Mem} {s : q_S} {v : Int32} (h : m_all m N s) (h23 : N'.1 m 23 = 0) (h31 : N'.1 m 31 = v) (h0 : ∀ k, k = 5 ∨ k = 6 ∨ (15 ≤ k ∧ k ≤ 18) ∨ k = 47 → N'.1 m k = N.1 m k) (hk : ∀ j, j = 1 ∨ j = 3 ∨ j = 4 ∨ (9 ≤ j ∧ j ≤ 11) ∨ j = 21 → N'.1 (m + j) = N.1 (m + j)) : m_all m N' (q_eat s v) := by
  obtain ⟨⟨a1, a2, a3, a4, a5, a6⟩, h2, ⟨b0, b1, b2⟩, h4, ⟨d1, d2⟩, h6, ⟨f1, f2⟩⟩ := h
  refine ⟨⟨(h0 15 (by omega)).trans a1, (h0 16 (by omega)).trans a2, (h0 17 (by omega)).trans a3, (h0 18 (by omega)).trans a4, fun k hk' => by rw [hk 9 (by omega)]; exact a5 k hk', fun t ht => by rw [hk 10 (by omega), hk 11 (by omega)]; exact a6 t ht⟩, h2.keep (hk 1 (by omega)), ⟨b0, (h0 6 (by omega)).trans b1, fun j B hB => (b2 j B hB).keep (hk 4 (by omega))⟩, ?_, ⟨h23, fun k hk' => absurd hk' (Nat.not_lt_zero k)⟩, h31, ⟨(h0 47 (by omega)).trans f1, fun k hk' => by rw [hk 21 (by omega)]; exact f2 k hk'⟩⟩
  show m_snap N' m s.2.2.2.1
  generalize s.2.2.2.1 = sn at h4 ⊢
  cases sn with
  | none => exact (h0 5 (by omega)).trans h4
  | some B => exact ⟨(h0 5 (by omega)).trans h4.1, h4.2.keep (hk 3 (by omega))⟩
theorem q_Inv.eat {s : q_S} (h : q_Inv s) (v : Int32) : q_Inv (q_eat s v) := h
/-! the town is copied -/
theorem c_townCopy_L {a b : Nat} (hab : a + 1 < b ∨ b + 1 < a) : ∀ (r i f : Nat) (M : z_Mem), i + r = 64 → r < f → (∀ k, k < i → M.1 (a + 1) k = M.1 (b + 1) k) → ∃ M', F_Town_copyFrom_L18 a f b (Int32.ofNat i) M = some M' ∧ (∀ k, k < 64 → M'.1 (a + 1) k = M.1 (b + 1) k) ∧ (∀ x, x ≠ a + 1 → M'.1 x = M.1 x) ∧ M'.2 = M.2 := by
  intro r
  induction r with
  | zero =>
    intro i f M hi hf h
    obtain ⟨f, rfl⟩ : ∃ g, f = g + 1 := ⟨f - 1, by omega⟩
    refine ⟨M, ?_, fun k hk => h k (by omega), fun _ _ => rfl, rfl⟩
    unfold F_Town_copyFrom_L18 F_Town_copyFrom_B18
    rw [if_pos (show (64 : Int32) ≤ Int32.ofNat i from (i_le (a := 64) (by decide) (by omega)).mpr (by omega))]
  | succ r ih =>
    intro i f M hi hf h
    obtain ⟨f, rfl⟩ : ∃ g, f = g + 1 := ⟨f - 1, by omega⟩
    have ib : z_inb (Int32.ofNat i) 64 := (i_inb (by omega)).mpr (by omega)
    have eU : F_Town_copyFrom_L18 a (f + 1) b (Int32.ofNat i) M = F_Town_copyFrom_B18 a (F_Town_copyFrom_L18 a f) b (Int32.ofNat i) M := rfl
    rw [eU]
    unfold F_Town_copyFrom_B18
    rw [if_neg (show ¬ (64 : Int32) ≤ Int32.ofNat i from i_nle (a := 64) (by decide) (by omega) (by omega)), if_pos ib, if_pos ib, zl_eq, zl_eq, i_cl (by omega), i_succ]
    obtain ⟨M', e, h', k', l'⟩ := ih (i + 1) f (z_wI M (a + 1) i (M.1 (b + 1) i)) (by omega) (by omega) (fun k hk => by
      rw [w_addr _ (show b + 1 ≠ a + 1 by omega)]
      by_cases hki : k = i
      · rw [hki, w_same]
      · rw [w_slot _ hki]
        exact h k (by omega))
    refine ⟨M', e, fun k hk => (h' k hk).trans (w_addr _ (by omega)), fun x hx => (k' x hx).trans (funext fun j => w_addr _ hx), l'⟩
theorem c_townCopy {a b : Nat} (hab : a + 1 < b ∨ b + 1 < a) (M : z_Mem) : ∃ M', F_Town_copyFrom a b M = some M' ∧ M'.1 a 0 = M.1 b 0 ∧ M'.1 a 1 = M.1 b 1 ∧ (∀ k, k < 64 → M'.1 (a + 1) k = M.1 (b + 1) k) ∧ (∀ x, x ≠ a → x ≠ a + 1 → M'.1 x = M.1 x) ∧ M'.2 = M.2 := by
  obtain ⟨M', e, h, k, l⟩ := c_townCopy_L hab 64 0 10000 (z_wI (z_wI M a 0 (M.1 b 0)) a 1 ((z_wI M a 0 (M.1 b 0)).1 b 1)) rfl (by omega) (fun k hk => absurd hk (Nat.not_lt_zero k))
  refine ⟨M', ?_, ?_, ?_, fun j hj => (h j hj).trans ((w_addr _ (by omega)).trans (w_addr _ (by omega))), fun x h1 h2 => (k x h2).trans (funext fun j => (w_addr _ h1).trans (w_addr _ h1)), l⟩
  · unfold F_Town_copyFrom
    rw [zl_eq, zl_eq]
    exact e
  · rw [k a (by omega), w_slot _ (by decide), w_same]
  · rw [k a (by omega), w_same, w_addr _ (by omega)]
/-- the constants out of what was read, the taxis' as the reference has them -/
def r_con (Z : Nat) (R : Int32) (c : q_R) (W : q_W) (s b : q_R) : q_R := fun k => if k < 64 then q_oi (f_sts W 8 (k / 8) (k % 8)) else if k = 64 then Int32.ofNat Z else if k = 65 then R else if 70 ≤ k ∧ k < 74 then s (k - 70) else if 80 ≤ k ∧ k < 84 then b (k - 80) else c k
theorem r_con_w {Z : Nat} {R : Int32} {c : q_R} {W : q_W} {s b : q_R} (i j : Nat) (hi : i < 8) (hj : j < 8) : r_con Z R c W s b (8 * i + j) = q_oi (f_sts W 8 i j) := by
  unfold r_con
  rw [if_pos (by omega), show (8 * i + j) / 8 = i by omega, show (8 * i + j) % 8 = j by omega]
theorem r_con_70 {Z : Nat} {R : Int32} {c : q_R} {W : q_W} {s b : q_R} (t : Nat) (ht : t < 4) : r_con Z R c W s b (70 + t) = s t ∧ r_con Z R c W s b (80 + t) = b t := by
  unfold r_con
  refine ⟨?_, ?_⟩
  · rw [if_neg (by omega), if_neg (by omega), if_neg (by omega), if_pos (by omega), show 70 + t - 70 = t by omega]
  · rw [if_neg (by omega), if_neg (by omega), if_neg (by omega), if_neg (by omega), if_pos (by omega), show 80 + t - 80 = t by omega]
theorem c_desk.con {M : z_Mem} {d : Nat} {c c' A : q_R} (h : c_desk M d c A) (h1 : A 1 = 0) (h66 : c' 66 = c 66) (h67 : c' 67 = c 67) (hT : ∀ t, t < q_T c → c' (70 + t) = c (70 + t) ∧ c' (80 + t) = c (80 + t)) : c_desk M d c' A := by
  obtain ⟨hs, h0, g67, h2, h3, h4, h5, h6, h7⟩ := h
  have eT : q_T c' = q_T c := q_T_eq h66
  have eN := r_N0 h1
  exact ⟨⟨by rw [eT]; exact hs.1, hs.2⟩, h0, g67.trans h67.symm, h2, h3.trans h66.symm, h4, h5, fun t ht => by
    rw [eT] at ht
    exact (h6 t ht).con (hT t ht).1 (hT t ht).2, fun r hr => by omega⟩
theorem r_Inv {Z : Nat} {R : Int32} {c A : q_R} {W : q_W} {s b : q_R} {bf fm : q_R × Nat} {p : Int32} (hI : r_I Z c A W) (hs : ∀ t, t < q_T c → s t = c (70 + t)) : q_Inv (r_con Z R c W s b, A, [], none, bf, p, fm) := by
  obtain ⟨i1, i2, i3, i4, i5, i7, i8⟩ := hI
  have e66 : r_con Z R c W s b 66 = c 66 := by
    unfold r_con
    rw [if_neg (by omega), if_neg (by omega), if_neg (by omega), if_neg (by omega), if_neg (by omega)]
  have eT : q_T (r_con Z R c W s b) = q_T c := q_T_eq e66
  have eN := r_N0 i4
  have hc : q_conI (r_con Z R c W s b) := ⟨⟨Z, i1.1, i1.2, by
    unfold r_con
    rw [if_neg (by omega), if_pos rfl]⟩, by rw [eT, e66]; exact i3.1, by rw [eT]; exact i3.2⟩
  have hw : q_conJ (r_con Z R c W s b) := f_sts_J i1.2 i2 (by omega) (fun i j hi hj => r_con_w i j hi hj)
  have hJ : q_J (r_con Z R c W s b) A := by
    refine ⟨⟨by rw [eN]; exact i4, by omega⟩, i5, fun r hr => by omega, fun t ht => ?_⟩
    rw [eT] at ht
    obtain ⟨hz, ⟨n, hn, en⟩, h16, h24, h37⟩ := i7 t ht
    have hsh : ∀ r, q_should A t r = [] := fun r => by
      unfold q_should
      rw [if_neg (by omega)]
    refine ⟨hz, n, hn, (r_con_70 t (by omega)).1.trans ((hs t ht).trans en), [], [], ⟨⟨h24, fun k s' hs' => by cases hs'⟩, by decide, fun s' hs' => (List.not_mem_nil hs').elim, fun r => (hsh r).symm⟩, ⟨⟨h37, fun k s' hs' => by cases hs'⟩, by decide, List.nodup_nil, fun r => ⟨fun hr => (List.not_mem_nil hr).elim, fun hr => by omega⟩⟩, trivial, fun _ => h16, trivial⟩
  refine ⟨⟨⟨hc, hw⟩, hJ, fun B hB => (List.not_mem_nil hB).elim, fun B hB => by cases hB⟩, fun r hr => ?_, fun B hB => (List.not_mem_nil hB).elim, fun B hB => by cases hB⟩
  have hr : r < q_N A := hr
  omega
/-! load, both -/
theorem l_load {o : Nat} {M N : z_Mem} {s : q_S} (hI : q_Inv s) (hc : c_all o M s) (hm : m_all (o + 548) N s) (p0 : Int32) : ∃ s' y, (q_Inv s' ∧ ∀ e, y = .error e → e = 2) ∧ c_does o M s' y (F_Sys_load o p0 M) ∧ m_does o N s' y q_c1 (F_Model_load (o + 548) p0 N) := by
  have hbuf := hc.2.2.2.2.1
  have hmb := hm.2.2.2.2.1
  obtain ⟨b0, b1, b2⟩ := hbuf
  have m0 := p_infx (β := Int32 × z_Mem) (o + 548) p0 0 (Int32.ofNat s.2.2.2.2.1.2) 1 (z_wI N (o + 548) 0 0) (lo := 0) (hi := (Int32.ofNat s.2.2.2.2.1.2).toInt64) (by decide) rfl
  have e23 : (z_wI N (o + 548) 0 0).1 (o + 548) 23 = Int32.ofNat s.2.2.2.2.1.2 := (w_slot _ (by decide)).trans hmb.1
  unfold F_Sys_load F_Model_load
  rw [zl_eq, zl_eq, e23, m0, b1]
  have bad : (p0 < 0 ∨ Int32.ofNat s.2.2.2.2.1.2 < p0) → ∃ s' y, (q_Inv s' ∧ ∀ e, y = .error e → e = 2) ∧ c_does o M s' y (F_Sys_load_J12 o M) ∧ m_does o N s' y q_c1 (if (1 : Int32) = 0 then zb (F_Model_starts (o + 548) p0 (z_wI (z_wI N (o + 548) 0 0) (o + 548) 0 1)) fun M5 => zb2 (F_Model_passes (o + 548) 14123071 M5) fun x7 M6 => if x7 = 0 then zb2 (F_Model_wrongs (o + 548) 1 M6) fun x9 M8 => F_Model_load_J47 (o + 548) M8 else F_Model_load_J47 (o + 548) M6 else some (0, z_wI (z_wI N (o + 548) 0 0) (o + 548) 0 1)) := fun _ => by
    refine ⟨s, .error 2, ⟨hI, fun e he => by cases he; rfl⟩, ⟨M, rfl, hc, q_C.rfl'⟩, ?_⟩
    rw [if_neg (by decide)]
    exact ⟨0, _, rfl, (hm.thr 0).thr 1, q_M.thr.tr q_M.thr, w_same _ _ _ _, fun v hv => by cases hv⟩
  by_cases h1 : p0 < 0
  · rw [if_pos h1, if_pos (Or.inl h1)]
    exact bad (Or.inl h1)
  obtain ⟨n, hn31, rfl⟩ := i_ex h1
  by_cases h2 : n ≤ s.2.2.2.2.1.2
  · rw [if_neg h1, if_pos ((i_le hn31 (by omega)).mpr h2), if_neg (fun k => by
      rcases k with k | k
      · exact h1 k
      · have := (i_lt (by omega) hn31).mp k
        omega), if_pos rfl]
    obtain ⟨T, hT, hTb, hTc⟩ := c_bytes ⟨b0, b1, b2⟩
    obtain ⟨M2, e2, a2, a0, a1, ax, al⟩ := c_begin (o := o) (M := z_wI M o 1 0) hT (show n ≤ 800 by omega) (fun k hk => by rw [w_addr _ (by omega)]; exact hTc k (by omega))
    -- the reference starts
    obtain ⟨N2, eN2⟩ : ∃ N2, N2 = z_wI (z_wI (z_wI (z_wI (z_wI (z_wI N (o + 548) 0 0) (o + 548) 24 (Int32.ofNat n)) (o + 548) 23 0) (o + 548) 25 0) (o + 548) 30 0) (o + 548) 31 (-1) := ⟨_, rfl⟩
    have s2 : ∀ k, k ≠ 0 → k ≠ 23 → k ≠ 24 → k ≠ 25 → k ≠ 30 → k ≠ 31 → N2.1 (o + 548) k = N.1 (o + 548) k := fun k k0 k23 k24 k25 k30 k31 => by
      rw [eN2, w_slot _ k31, w_slot _ k30, w_slot _ k25, w_slot _ k23, w_slot _ k24, w_slot _ k0]
    have x2 : ∀ x, x ≠ o + 548 → N2.1 x = N.1 x := fun x hx => funext fun k => by
      rw [eN2, w_addr _ hx, w_addr _ hx, w_addr _ hx, w_addr _ hx, w_addr _ hx, w_addr _ hx]
    have n0 : N2.1 (o + 548) 0 = 0 := by
      rw [eN2, w_slot _ (by decide), w_slot _ (by decide), w_slot _ (by decide), w_slot _ (by decide), w_slot _ (by decide), w_same]
    have n24 : N2.1 (o + 548) 24 = Int32.ofNat n := by
      rw [eN2, w_slot _ (by decide), w_slot _ (by decide), w_slot _ (by decide), w_slot _ (by decide), w_same]
    have n23 : N2.1 (o + 548) 23 = 0 := by
      rw [eN2, w_slot _ (by decide), w_slot _ (by decide), w_slot _ (by decide), w_same]
    have n25 : N2.1 (o + 548) 25 = 0 := by
      rw [eN2, w_slot _ (by decide), w_slot _ (by decide), w_same]
    have n30 : N2.1 (o + 548) 30 = 0 := by
      rw [eN2, w_slot _ (by decide), w_same]
    have n31 : N2.1 (o + 548) 31 = -1 := by
      rw [eN2, w_same]
    have l2 : N2.2 = N.2 := by rw [eN2]; rfl
    obtain ⟨N3, e3, y3, nx⟩ := m_next (m := o + 548) (n := n) (p := 0) (N := N2) hT (by omega) ⟨n24, by omega, fun k hk => by rw [x2 _ (by omega), hmb.2 k (by omega)]; exact hTb k (by omega)⟩ n25
    have est : F_Model_starts (o + 548) (Int32.ofNat n) (z_wI N (o + 548) 0 0) = some N3 := by
      unfold F_Model_starts
      rw [zl_eq, zl_eq, zl_eq, zl_eq, zl_eq, ← eN2, zb_ok e3]
    have hg : z_g o M2 N3 T n (x_sk T n 0) := ⟨⟨a0, a1, (nx.2.1 30 (by omega)).trans n30, (nx.2.1 31 (by omega)).trans n31⟩, a2, ⟨(nx.2.1 24 (by omega)).trans n24, by omega, fun k hk => by rw [nx.1 _ (by omega), x2 _ (by omega), hmb.2 k (by omega)]; exact hTb k (by omega)⟩, y3⟩
    obtain ⟨M4, N4, Z, e4, f4, c4, d4, hf⟩ := j_text hT hg
    rw [zb_ok e2, zb_ok est, f4, e4]
    -- what has been kept
    have ko : ∀ k, k ≠ 1 → M4.1 o k = M.1 o k := fun k hk => by
      rw [c4.1 o (by omega) (by omega), ax o (by omega)]
      exact w_slot _ hk
    have ko1 : M4.1 o 1 = 0 := by
      rw [c4.1 o (by omega) (by omega), ax o (by omega)]
      exact w_same _ _ _ _
    have kx : ∀ x, x ≠ o → (x < o + 499 ∨ o + 547 ≤ x) → M4.1 x = M.1 x := fun x h1 h2 => by
      rw [c4.1 x (by omega) (by omega), ax x (by omega)]
      exact funext fun k => w_addr _ h1
    have kl : M4.2 = M.2 := c4.2.2.1.trans al
    have ns : ∀ k, (k < 7 ∨ 11 ≤ k) → (k < 25 ∨ 32 ≤ k) → N4.1 (o + 548) k = N2.1 (o + 548) k := fun k h1 h2 => (d4.2.1 k h1 h2).trans (nx.2.1 k (by omega))
    have nk : ∀ x, x ≠ o + 548 → x ≠ o + 548 + 2 → (x < o + 548 + 5 ∨ o + 548 + 8 ≤ x) → N4.1 x = N.1 x := fun x h1 h2 h3 => (d4.1 x h1 h2 h3).trans ((nx.1 x h1).trans (x2 x h1))
    have nl : ∀ x k, x ≠ o + 548 ∨ k ≠ 29 → N4.2 x k = N.2 x k := fun x k h => (d4.2.2 x k h).trans ((nx.2.2 x k h).trans (by rw [l2]))
    have n4z : N4.1 (o + 548) 0 = 0 := (ns 0 (by omega) (by omega)).trans n0
    have q4 : q_M o N N4 := fun x hx => by
      have hx : (o ≤ x ∧ x < o + 548) ∨ x = o + 573 := hx
      exact ⟨nk x (by omega) (by omega) (by omega), funext fun k => nl x k (by omega)⟩
    unfold F_TextReader_readText_J72
    rcases hf with hb | ⟨⟨g0, g1, g30, g31⟩, R, c, A, W, ⟨C1, C2, C3, C4⟩, ⟨m1, m2, m3, m4, m5, m6, m7⟩, hrI⟩
    · obtain ⟨M5, e5, k5, l5⟩ := t_findWays (o + 505) M4
      rw [zb_ok e5, zb_ok rfl, zl_eq]
      have h499 : ∀ k, (z_wI M5 o 2 (M5.1 (o + 499) 1)).1 (o + 499) k = M4.1 (o + 499) k := fun k => (w_addr _ (by omega)).trans (by rw [k5 _ (by omega)])
      rw [if_neg (by rw [h499]; exact hb.1), h499]
      refine ⟨q_eat s (M4.1 (o + 499) 1), .ok (-10 - M4.1 (o + 499) 0), ⟨hI.eat _, fun e he => by cases he⟩, ⟨_, rfl, ?_, ?_⟩, ?_⟩
      · refine hc.eat ?_ ?_ (fun k hk => ?_) (fun x h1 h2 => ?_)
        · rw [w_slot _ (by decide), k5 _ (by omega)]; exact ko1
        · rw [w_same, k5 _ (by omega)]
        · rw [w_slot _ (by omega), k5 _ (by omega)]; exact ko k (by omega)
        · have hh : (z_wI M5 o 2 (M5.1 (o + 499) 1)).1 x = M5.1 x := funext fun k => w_addr _ h1
          rw [hh, k5 _ (by omega)]
          exact kx x h1 (by omega)
      · intro x hx
        have hx : o + 548 ≤ x ∧ x < o + 573 := hx
        have hh : (z_wI M5 o 2 (M5.1 (o + 499) 1)).1 x = M5.1 x := funext fun k => w_addr _ (by omega)
        exact ⟨by rw [hh, k5 _ (by omega)]; exact kx x (by omega) (by omega), congrFun (l5.trans kl) x⟩
      · unfold F_Model_load_J85
        rw [zb_ok (b_good hb.n), if_pos rfl]
        refine ⟨_, N4, rfl, hm.eat ((ns 23 (by omega) (by omega)).trans n23) hb.2.2 (fun k hk => (ns k (by omega) (by omega)).trans (s2 k (by omega) (by omega) (by omega) (by omega) (by omega) (by omega))) (fun j hj => nk _ (by omega) (by omega) (by omega)), q4, n4z, fun v hv => ?_⟩
        rw [hb.2.1]
        exact Except.ok.inj hv
    · obtain ⟨M5, e5, w5, k5, l5⟩ := c_findWays (a := o + 505) hrI.1.2 hrI.2.1 (by omega) C3
      rw [zb_ok e5, zb_ok rfl, zl_eq]
      have h499 : ∀ k, (z_wI M5 o 2 (M5.1 (o + 499) 1)).1 (o + 499) k = M4.1 (o + 499) k := fun k => (w_addr _ (by omega)).trans (by rw [k5 _ (by omega)])
      rw [if_pos (by rw [h499]; exact g0)]
      obtain ⟨M6, eM6⟩ : ∃ M6, M6 = z_wI M5 o 2 (M5.1 (o + 499) 1) := ⟨_, rfl⟩
      rw [← eM6]
      have k6 : ∀ x, x ≠ o → x ≠ o + 506 → M6.1 x = M4.1 x := fun x h1 h2 => by
        rw [eM6]
        exact (funext fun k => w_addr _ h1).trans (k5 x (by omega))
      have k62 : M6.1 o 2 = -1 := by
        rw [eM6, w_same, k5 _ (by omega)]
        exact g1
      have k6o : ∀ k, k ≠ 2 → M6.1 o k = M4.1 o k := fun k hk => by
        rw [eM6, w_slot _ hk, k5 _ (by omega)]
      have k6w : ∀ k, M6.1 (o + 506) k = M5.1 (o + 506) k := fun k => by
        rw [eM6, w_addr _ (by omega)]
      have l6 : M6.2 = M.2 := by
        rw [eM6]
        exact l5.trans kl
      -- the reference becomes what it has read
      obtain ⟨N5, f5, ⟨n15, n16, n17, n18, z5, z6⟩, nw, nt, nA, nss, nxx, nll⟩ := m_becomes (m := o + 548) (N := N4) hrI.1.2 hrI.2.1 (by omega) m1 m7
      have e66 : r_con Z R c W (N4.1 (o + 548 + 6)) (N4.1 (o + 548 + 7)) 66 = c 66 := by
        unfold r_con
        rw [if_neg (by omega), if_neg (by omega), if_neg (by omega), if_neg (by omega), if_neg (by omega)]
      have e67 : r_con Z R c W (N4.1 (o + 548 + 6)) (N4.1 (o + 548 + 7)) 67 = c 67 := by
        unfold r_con
        rw [if_neg (by omega), if_neg (by omega), if_neg (by omega), if_neg (by omega), if_neg (by omega)]
      have e64 : r_con Z R c W (N4.1 (o + 548 + 6)) (N4.1 (o + 548 + 7)) 64 = Int32.ofNat Z := by
        unfold r_con
        rw [if_neg (by omega), if_pos rfl]
      have e65 : r_con Z R c W (N4.1 (o + 548 + 6)) (N4.1 (o + 548 + 7)) 65 = R := by
        unfold r_con
        rw [if_neg (by omega), if_neg (by omega), if_pos rfl]
      have ew : ∀ k, k < 64 → r_con Z R c W (N4.1 (o + 548 + 6)) (N4.1 (o + 548 + 7)) k = q_oi (f_sts W 8 (k / 8) (k % 8)) := fun k hk => by
        have := r_con_w (Z := Z) (R := R) (c := c) (W := W) (s := N4.1 (o + 548 + 6)) (b := N4.1 (o + 548 + 7)) (k / 8) (k % 8) (by omega) (by omega)
        rw [show 8 * (k / 8) + k % 8 = k by omega] at this
        exact this
      have eN := r_N0 hrI.2.2.2.1
      have hCd : c_desk M6 (o + 507) (r_con Z R c W (N4.1 (o + 548 + 6)) (N4.1 (o + 548 + 7))) A := (C4.con hrI.2.2.2.1 e66 e67 (fun t ht => by
        have := hrI.2.2.1.2
        obtain ⟨g6, g7⟩ := r_con_70 (Z := Z) (R := R) (c := c) (W := W) (s := N4.1 (o + 548 + 6)) (b := N4.1 (o + 548 + 7)) t (by omega)
        exact ⟨g6.trans (m6 t ht).1, g7.trans (m6 t ht).2⟩)).keep (fun x h1 h2 => k6 x (by omega) (by omega))
      obtain ⟨M7, e7, t0, t1, tw, tk, tl⟩ := c_townCopy (a := o + 3) (b := o + 505) (by omega) M6
      have eTT : q_T (r_con Z R c W (N4.1 (o + 548 + 6)) (N4.1 (o + 548 + 7))) = q_T c := q_T_eq e66
      obtain ⟨M8, e8, d8, k8, l8⟩ := a_copy (M := M7) (a := o + 5) (b := o + 507) (by omega) (hCd.keep (fun x h1 h2 => tk x (by omega) (by omega))) (by rw [eTT, e66]; exact hrI.2.2.1.1) (by rw [eN]; exact hrI.2.2.2.1) (fun r hr => by omega)
      unfold F_History_clear
      rw [zb_ok e7, zb_ok e8, zl_eq, zl_eq, zb_ok rfl, zl_eq]
      obtain ⟨M9, eM9⟩ : ∃ M9, M9 = z_wI (z_wI (z_wI M8 (o + 45) 0 0) (o + 45) 1 0) o 9 0 := ⟨_, rfl⟩
      rw [← eM9]
      have k9 : ∀ x, x ≠ o → x ≠ o + 45 → M9.1 x = M8.1 x := fun x h1 h2 => funext fun k => by
        rw [eM9, w_addr _ h1, w_addr _ h2, w_addr _ h2]
      have k9o : ∀ k, k ≠ 9 → M9.1 o k = M8.1 o k := fun k hk => by
        rw [eM9, w_slot _ hk, w_addr _ (by omega), w_addr _ (by omega)]
      have k9z : M9.1 o 9 = 0 := by rw [eM9, w_same]
      have h450 : M9.1 (o + 45) 0 = 0 := by rw [eM9, w_addr _ (by omega), w_slot _ (by decide), w_same]
      have h451 : M9.1 (o + 45) 1 = 0 := by rw [eM9, w_addr _ (by omega), w_same]
      have h53 : M9.1 (o + 5) 3 = c 66 := by
        rw [k9 _ (by omega) (by omega)]
        exact d8.2.2.2.2.1.trans e66
      rw [h53]
      have o8 : ∀ k, M8.1 o k = M6.1 o k := fun k => by rw [k8 o (by omega), tk o (by omega) (by omega)]
      refine ⟨(r_con Z R c W (N4.1 (o + 548 + 6)) (N4.1 (o + 548 + 7)), A, [], none, (s.2.2.2.2.1.1, 0), -1, s.2.2.2.2.2.2), .ok (c 66), ⟨r_Inv hrI (fun t ht => (m6 t ht).1), fun e he => by cases he⟩, ⟨_, rfl, ⟨⟨?_, ?_, fun k hk => ?_⟩, d8.keep (fun x h1 h2 => k9 x (by omega) (by omega)), ⟨Nat.zero_le _, h450, 0, by decide, h451, fun j B hB => by cases hB⟩, k9z, ⟨by show 0 ≤ 800; omega, ?_, fun k hk => absurd hk (Nat.not_lt_zero k)⟩, ?_, ⟨hc.2.2.2.2.2.2.1, ?_, fun k hk => ?_⟩⟩, fun x hx => ?_⟩, ?_⟩
      · show M9.1 (o + 3) 0 = r_con Z R c W (N4.1 (o + 548 + 6)) (N4.1 (o + 548 + 7)) 64
        rw [k9 _ (by omega) (by omega), k8 _ (by omega), t0, k6 _ (by omega) (by omega), e64]
        exact C1
      · show M9.1 (o + 3) 1 = r_con Z R c W (N4.1 (o + 548 + 6)) (N4.1 (o + 548 + 7)) 65
        rw [k9 _ (by omega) (by omega), k8 _ (by omega), t1, k6 _ (by omega) (by omega), e65]
        exact C2
      · show M9.1 (o + 4) k = r_con Z R c W (N4.1 (o + 548 + 6)) (N4.1 (o + 548 + 7)) k
        rw [k9 _ (by omega) (by omega), k8 _ (by omega), ew k hk]
        refine (tw k hk).trans ?_
        have := w5 (k / 8) (k % 8) (by omega) (by omega)
        rw [show 8 * (k / 8) + k % 8 = k by omega] at this
        exact (k6w k).trans this
      · show M9.1 o 1 = 0
        rw [k9o 1 (by decide), o8, k6o 1 (by decide)]
        exact ko1
      · show M9.1 o 2 = -1
        rw [k9o 2 (by decide), o8]
        exact k62
      · show M9.1 o 4 = _
        rw [k9o 4 (by decide), o8, k6o 4 (by decide), ko 4 (by decide)]
        exact hc.2.2.2.2.2.2.2.1
      · show M9.1 (o + 2) k &&& 255 = _
        rw [k9 _ (by omega) (by omega), k8 _ (by omega), tk _ (by omega) (by omega), k6 _ (by omega) (by omega), kx _ (by omega) (by omega)]
        exact hc.2.2.2.2.2.2.2.2 k hk
      · have hx : o + 548 ≤ x ∧ x < o + 573 := hx
        refine ⟨?_, ?_⟩
        · rw [k9 _ (by omega) (by omega), k8 _ (by omega), tk _ (by omega) (by omega), k6 _ (by omega) (by omega), kx _ (by omega) (by omega)]
        · have e9l : M9.2 = M8.2 := by rw [eM9]; rfl
          rw [e9l, l8, tl, l6]
      · unfold F_Model_load_J85
        rw [zb_ok (b_ok g30), if_neg ne10, zb_ok f5]
        have c17 : N5.1 (o + 548) 17 = c 66 := n17.trans m3
        have xx : ∀ x, x ≠ o + 548 → x ≠ o + 548 + 1 → x ≠ o + 548 + 9 → x ≠ o + 548 + 10 → x ≠ o + 548 + 11 → N5.1 x = N4.1 x := nxx
        refine ⟨_, N5, rfl, ⟨⟨n15.trans (m1.trans e64.symm), n16.trans (m2.trans e65.symm), c17.trans e66.symm, n18.trans (m4.trans e67.symm), fun k hk => ?_, fun t ht => ?_⟩, fun k hk => ?_, ⟨Nat.zero_le _, z6, fun j B hB => by cases hB⟩, z5, ⟨?_, fun k hk => absurd hk (Nat.not_lt_zero k)⟩, ?_, ⟨?_, fun k hk => ?_⟩⟩, ?_, ?_, fun v hv => ?_⟩
        · show N5.1 (o + 548 + 9) k = r_con Z R c W (N4.1 (o + 548 + 6)) (N4.1 (o + 548 + 7)) k
          rw [ew k hk]
          have := nw (k / 8) (k % 8) (by omega) (by omega)
          rw [show 8 * (k / 8) + k % 8 = k by omega] at this
          exact this
        · obtain ⟨g6, g7⟩ := r_con_70 (Z := Z) (R := R) (c := c) (W := W) (s := N4.1 (o + 548 + 6)) (b := N4.1 (o + 548 + 7)) t ht
          exact ⟨(nt t ht).1.trans g6.symm, (nt t ht).2.trans g7.symm⟩
        · rw [Nat.zero_add]
          exact (nA k hk).trans (m5 k hk)
        · show N5.1 (o + 548) 23 = 0
          rw [nss 23 (by omega) (by omega)]
          exact (ns 23 (by omega) (by omega)).trans n23
        · show N5.1 (o + 548) 31 = -1
          rw [nss 31 (by omega) (by omega)]
          exact g31
        · show N5.1 (o + 548) 47 = _
          rw [nss 47 (by omega) (by omega), ns 47 (by omega) (by omega), s2 47 (by omega) (by omega) (by omega) (by omega) (by omega) (by omega)]
          exact hm.2.2.2.2.2.2.1
        · show N5.1 (o + 548 + 21) k = _
          rw [xx _ (by omega) (by omega) (by omega) (by omega) (by omega), nk _ (by omega) (by omega) (by omega)]
          exact hm.2.2.2.2.2.2.2 k hk
        · intro x hx
          have hx : (o ≤ x ∧ x < o + 548) ∨ x = o + 573 := hx
          exact ⟨(xx x (by omega) (by omega) (by omega) (by omega) (by omega)).trans (q4 x hx).1, (congrFun nll x).trans (q4 x hx).2⟩
        · show N5.1 (o + 548) 0 = 0
          rw [nss 0 (by omega) (by omega)]
          exact n4z
        · cases hv
          exact c17
  · have hgt : Int32.ofNat s.2.2.2.2.1.2 < Int32.ofNat n := (i_lt (by omega) hn31).mpr (by omega)
    rw [if_neg h1, if_neg (fun k => h2 ((i_le hn31 (by omega)).mp k)), if_pos (Or.inr hgt)]
    exact bad (Or.inr hgt)
/-- a case of the law where what comes out is known only from both sides together -/
theorem k_joint {o : Nat} {M : z_Mem} {s : q_S} {cd : Nat → Int32} {FL : Option (Int32 × z_Mem)} {FM : z_Mem → Option (Int32 × z_Mem)} {c : z_Mem → Option (Int32 × z_Mem)} {P : q_S → Prop} (hcd : ∀ e, cd e ≠ 0) (hm : m_all (o + 548) M s) (hJ : ∀ N, m_all (o + 548) N s → ∃ s' y, P s' ∧ l_does o M s' y cd FL ∧ m_does o N s' y cd (FM N)) :
    ∃ M' s', (zb2 FL fun r1 M2 => zb2 (FM M2) fun r3 M4 => k_rest o c r1 r3 M4) = c M' ∧ c_all o M' s' ∧ m_all (o + 548) M' s' ∧ P s' := by
  obtain ⟨s1, y1, -, ⟨M1, e1, h1, h2, h3⟩, -⟩ := hJ M hm
  obtain ⟨s', y, hP, ⟨M1', e1', h1', h2', h3'⟩, ⟨b, N', e2, h4, h5, h6, h7⟩⟩ := hJ M1 (hm.keep h2)
  have eM : M1 = M1' := by
    have := e1.symm.trans e1'
    exact (Prod.mk.inj (Option.some.inj this)).2
  subst eM
  refine ⟨N', s', ?_, h1'.keep h5, h4, hP⟩
  rw [zb2_ok e1', zb2_ok e2]
  unfold k_rest
  rw [zb_ok (show F_Model_thrown (o + 548) N' = some (q_cd cd y) by unfold F_Model_thrown; rw [h6]), if_pos rfl]
  cases y with
  | ok v =>
    have hz : z_inb (0 : Int32) 1 := by decide
    rw [if_pos (show q_cd cd (.ok v) = 0 from rfl), if_pos hz]
    have e3 : N'.2 (o + 573) ((0 : Int32)).toNatClampNeg = b.toInt64 := by
      rw [(h5 (o + 573) (Or.inr rfl)).2, h7 v rfl]
      exact h3' v rfl
    rw [if_pos ((i_cmp0 _ _).mpr e3)]
  | error e =>
    rw [if_neg (show ¬ q_cd cd (.error e) = 0 from hcd e)]
theorem a_load {o L : Nat} {S : Nat → Int32} {i : Int32} {M : z_Mem} {s : q_S} {c : z_Mem → Option (Int32 × z_Mem)} (hI : q_Inv s) (hc : c_all o M s) (hm : m_all (o + 548) M s) (h1 : z_inb (i + (1 : Int32)) L) : ∃ M' s', Fc_273 o L S i M c = c M' ∧ c_all o M' s' ∧ m_all (o + 548) M' s' ∧ q_Inv s' := by
  unfold Fc_273 F_LW_load
  rw [if_pos h1]
  simp only [if_pos h1]
  refine k_joint (cd := q_c1) (FM := fun N => F_Model_load (o + 548) (S (i + 1).toNatClampNeg) N) q_c1n hm (fun N hN => ?_)
  obtain ⟨s', y, ⟨hP, he2⟩, h2, h3⟩ := l_load hI hc hN (S (i + 1).toNatClampNeg)
  refine ⟨s', y, hP, l_of h2 (fun e M1 he => ?_), h3⟩
  rw [he2 e he, if_neg (by decide)]
  rfl
