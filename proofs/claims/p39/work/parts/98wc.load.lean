/-! ===== the class's side (out of whole, by program) ===== -/
theorem z_b.nn {o : Nat} {M N N' : z_Mem} (h : z_b o M N) (h30 : N'.1 (o + 548) 30 = N.1 (o + 548) 30) (h31 : N'.1 (o + 548) 31 = N.1 (o + 548) 31) : z_b o M N' := ⟨h.1, h30.trans h.2.1, h31.trans h.2.2⟩
/-- the class from the number of zones on, with an error -/
theorem t_hdr (o : Nat) (M : z_Mem) (h : M.1 (o + 499) 0 ≠ 0) : ∃ M', (zb2 (F_Tokens_takeNumber o 2 8 M) fun x5 M4 => zb (F_Town_clear (o + 505) x5 M4) fun M6 => zb (F_Tokens_takeSign o 59 M6) fun M7 => F_TextReader_readText_L45 o 10000 0 M7) = F_TextReader_readText_J72 o M' ∧ c_kp o M M' := by
  obtain ⟨x, M4, e4, c4⟩ := t_number o 2 8 M
  obtain ⟨M6, e6, -, -, -, -, k6, l6⟩ := c_townClear (a := o + 505) x M4
  obtain ⟨M7, e7, c7⟩ := t_sign o 59 M6
  have kp : c_kp o M M7 := c4.kp.tr ((c_kp.in (fun y hy => k6 y (by omega) (by omega)) l6).tr c7.kp)
  refine ⟨M7, ?_, kp⟩
  rw [zb2_ok e4, zb_ok e6, zb_ok e7]
  exact c_loop_b (f := 9999) (by rw [(kp.2.2.2 h).1]; exact h)
theorem q_A0_z {k : Nat} (h : 10 ≤ k) : q_A0 k = 0 := by
  unfold q_A0
  rw [if_neg (by omega), if_neg (by omega), if_neg (by omega), if_neg (by omega), if_neg (by omega), if_neg (by omega)]
theorem r_I0 {Z : Nat} (h2 : 2 ≤ Z) (h8 : Z ≤ 8) : r_I Z (fun _ => 0) q_A0 q_W0 := by
  have h := q_W0_ok Z
  refine ⟨⟨h2, h8⟩, ⟨h.1, h.2.1, fun a b v hv => Nat.le_trans (h.2.2 a b v hv) (by omega)⟩, ⟨rfl, by show 0 ≤ 4; omega⟩, rfl, ⟨⟨0, by omega, rfl⟩, fun k hk => ⟨0, by omega, q_A0_z (by omega)⟩⟩, fun t ht => absurd ht (Nat.not_lt_zero t), fun k hk _ => q_A0_z (by have hk : 13 ≤ k := hk; omega)⟩
def q_eat (s : q_S) (v : Int32) : q_S := (s.1, s.2.1, s.2.2.1, s.2.2.2.1, (s.2.2.2.2.1.1, 0), v, s.2.2.2.2.2.2)
theorem c_all.eat {o : Nat} {M M' : z_Mem} {s : q_S} {v : Int32} (h : c_all o M s) (h1 : M'.1 o 1 = 0) (h2 : M'.1 o 2 = v) (h0 : ∀ k, k = 4 ∨ k = 9 → M'.1 o k = M.1 o k) (hk : ∀ x, x ≠ o → x < o + 487 → M'.1 x = M.1 x) : c_all o M' (q_eat s v) := by
  obtain ⟨⟨a1, a2, a3⟩, g2, g3, g4, ⟨b0, b1, b2⟩, g6, ⟨d0, d1, d2⟩⟩ := h
  refine ⟨⟨by rw [hk _ (by omega) (by omega)]; exact a1, by rw [hk _ (by omega) (by omega)]; exact a2, fun k hk' => by rw [hk _ (by omega) (by omega)]; exact a3 k hk'⟩, g2.keep (fun a q1 q2 => hk a (by omega) (by omega)), g3.keep (fun a q1 q2 => hk a (by omega) (by omega)), ?_, ⟨by show 0 ≤ 800; omega, h1, fun k hk' => absurd hk' (Nat.not_lt_zero k)⟩, h2, ⟨d0, (h0 4 (by omega)).trans d1, fun k hk' => by rw [hk _ (by omega) (by omega)]; exact d2 k hk'⟩⟩
  show c_snap M' o s.1 s.2.2.2.1
  generalize s.2.2.2.1 = sn at g4 ⊢
  cases sn with
  | none => exact (h0 9 (by omega)).trans g4
  | some B => exact ⟨(h0 9 (by omega)).trans g4.1, g4.2.keep (fun a q1 q2 => hk a (by omega) (by omega))⟩
theorem m_all.eat {m : Nat} {N N' : z_Mem} {s : q_S} {v : Int32} (h : m_all m N s) (h23 : N'.1 m 23 = 0) (h31 : N'.1 m 31 = v) (h0 : ∀ k, k = 5 ∨ k = 6 ∨ (15 ≤ k ∧ k ≤ 18) ∨ k = 47 → N'.1 m k = N.1 m k) (hk : ∀ j, j = 1 ∨ j = 3 ∨ j = 4 ∨ (9 ≤ j ∧ j ≤ 11) ∨ j = 21 → N'.1 (m + j) = N.1 (m + j)) : m_all m N' (q_eat s v) := by
  obtain ⟨⟨a1, a2, a3, a4, a5, a6⟩, h2, ⟨b0, b1, b2⟩, h4, ⟨d1, d2⟩, h6, ⟨f1, f2⟩⟩ := h
  refine ⟨⟨(h0 15 (by omega)).trans a1, (h0 16 (by omega)).trans a2, (h0 17 (by omega)).trans a3, (h0 18 (by omega)).trans a4, fun k hk' => by rw [hk 9 (by omega)]; exact a5 k hk', fun t ht => by rw [hk 10 (by omega), hk 11 (by omega)]; exact a6 t ht⟩, h2.keep (hk 1 (by omega)), ⟨b0, (h0 6 (by omega)).trans b1, fun j B hB => (b2 j B hB).keep (hk 4 (by omega))⟩, ?_, ⟨h23, fun k hk' => absurd hk' (Nat.not_lt_zero k)⟩, h31, ⟨(h0 47 (by omega)).trans f1, fun k hk' => by rw [hk 21 (by omega)]; exact f2 k hk'⟩⟩
  show m_snap N' m s.2.2.2.1
  generalize s.2.2.2.1 = sn at h4 ⊢
  cases sn with
  | none => exact (h0 5 (by omega)).trans h4
  | some B => exact ⟨(h0 5 (by omega)).trans h4.1, h4.2.keep (hk 3 (by omega))⟩
theorem q_Inv.eat {s : q_S} (h : q_Inv s) (v : Int32) : q_Inv (q_eat s v) := h
theorem c_townCopy_L {a b : Nat} (hab : a + 1 < b ∨ b + 1 < a) : ∀ (r i f : Nat) (M : z_Mem), i + r = 64 → r < f → (∀ k, k < i → M.1 (a + 1) k = M.1 (b + 1) k) → ∃ M', F_Town_copyFrom_L18 a f b (Int32.ofNat i) M = some M' ∧ (∀ k, k < 64 → M'.1 (a + 1) k = M.1 (b + 1) k) ∧ (∀ x, x ≠ a + 1 → M'.1 x = M.1 x) ∧ M'.2 = M.2 := by
  intro r
  induction r with
  | zero =>
    intro i f M hi hf h
    obtain ⟨f, rfl⟩ : ∃ g, f = g + 1 := ⟨f - 1, by omega⟩
    refine ⟨M, ?_, fun k hk => h k (by omega), fun _ _ => rfl, rfl⟩
    unfold F_Town_copyFrom_L18 F_Town_copyFrom_B18
    rw [if_pos (show (64 : Int32) ≤ Int32.ofNat i from (i_le (a := 64) (by decide) (by omega)).mpr (by omega))]
  | succ r ih =>
    intro i f M hi hf h
    obtain ⟨f, rfl⟩ : ∃ g, f = g + 1 := ⟨f - 1, by omega⟩
    have ib : z_inb (Int32.ofNat i) 64 := (i_inb (by omega)).mpr (by omega)
    have eU : F_Town_copyFrom_L18 a (f + 1) b (Int32.ofNat i) M = F_Town_copyFrom_B18 a (F_Town_copyFrom_L18 a f) b (Int32.ofNat i) M := rfl
    rw [eU]
    unfold F_Town_copyFrom_B18
    rw [if_neg (show ¬ (64 : Int32) ≤ Int32.ofNat i from i_nle (a := 64) (by decide) (by omega) (by omega)), if_pos ib, if_pos ib, zl_eq, zl_eq, i_cl (by omega), i_succ]
    obtain ⟨M', e, h', k', l'⟩ := ih (i + 1) f (z_wI M (a + 1) i (M.1 (b + 1) i)) (by omega) (by omega) (fun k hk => by
      rw [w_addr _ (show b + 1 ≠ a + 1 by omega)]
      by_cases hki : k = i
      · rw [hki, w_same]
      · rw [w_slot _ hki]
        exact h k (by omega))
    refine ⟨M', e, fun k hk => (h' k hk).trans (w_addr _ (by omega)), fun x hx => (k' x hx).trans (funext fun j => w_addr _ hx), l'⟩
theorem c_townCopy {a b : Nat} (hab : a + 1 < b ∨ b + 1 < a) (M : z_Mem) : ∃ M', F_Town_copyFrom a b M = some M' ∧ M'.1 a 0 = M.1 b 0 ∧ M'.1 a 1 = M.1 b 1 ∧ (∀ k, k < 64 → M'.1 (a + 1) k = M.1 (b + 1) k) ∧ (∀ x, x ≠ a → x ≠ a + 1 → M'.1 x = M.1 x) ∧ M'.2 = M.2 := by
  obtain ⟨M', e, h, k, l⟩ := c_townCopy_L hab 64 0 10000 (z_wI (z_wI M a 0 (M.1 b 0)) a 1 ((z_wI M a 0 (M.1 b 0)).1 b 1)) rfl (by omega) (fun k hk => absurd hk (Nat.not_lt_zero k))
  refine ⟨M', ?_, ?_, ?_, fun j hj => (h j hj).trans ((w_addr _ (by omega)).trans (w_addr _ (by omega))), fun x h1 h2 => (k x h2).trans (funext fun j => (w_addr _ h1).trans (w_addr _ h1)), l⟩
  · unfold F_Town_copyFrom
    rw [zl_eq, zl_eq]
    exact e
  · rw [k a (by omega), w_slot _ (by decide), w_same]
  · rw [k a (by omega), w_same, w_addr _ (by omega)]
/-- the constants out of what was read, the taxis' as the reference has them -/
def r_con (Z : Nat) (R : Int32) (c : q_R) (W : q_W) (s b : q_R) : q_R := fun k => if k < 64 then q_oi (f_sts W 8 (k / 8) (k % 8)) else if k = 64 then Int32.ofNat Z else if k = 65 then R else if 70 ≤ k ∧ k < 74 then s (k - 70) else if 80 ≤ k ∧ k < 84 then b (k - 80) else c k
theorem r_con_w {Z : Nat} {R : Int32} {c : q_R} {W : q_W} {s b : q_R} (i j : Nat) (hi : i < 8) (hj : j < 8) : r_con Z R c W s b (8 * i + j) = q_oi (f_sts W 8 i j) := by
  unfold r_con
  rw [if_pos (by omega), show (8 * i + j) / 8 = i by omega, show (8 * i + j) % 8 = j by omega]
theorem r_con_70 {Z : Nat} {R : Int32} {c : q_R} {W : q_W} {s b : q_R} (t : Nat) (ht : t < 4) : r_con Z R c W s b (70 + t) = s t ∧ r_con Z R c W s b (80 + t) = b t := by
  unfold r_con
  refine ⟨?_, ?_⟩
  · rw [if_neg (by omega), if_neg (by omega), if_neg (by omega), if_pos (by omega), show 70 + t - 70 = t by omega]
  · rw [if_neg (by omega), if_neg (by omega), if_neg (by omega), if_neg (by omega), if_pos (by omega), show 80 + t - 80 = t by omega]
theorem c_desk.con {M : z_Mem} {d : Nat} {c c' A : q_R} (h : c_desk M d c A) (h1 : A 1 = 0) (h66 : c' 66 = c 66) (h67 : c' 67 = c 67) (hT : ∀ t, t < q_T c → c' (70 + t) = c (70 + t) ∧ c' (80 + t) = c (80 + t)) : c_desk M d c' A := by
  obtain ⟨hs, h0, g67, h2, h3, h4, h5, h6, h7⟩ := h
  have eT : q_T c' = q_T c := q_T_eq h66
  have eN := r_N0 h1
  exact ⟨⟨by rw [eT]; exact hs.1, hs.2⟩, h0, g67.trans h67.symm, h2, h3.trans h66.symm, h4, h5, fun t ht => by
    rw [eT] at ht
    exact (h6 t ht).con (hT t ht).1 (hT t ht).2, fun r hr => by omega⟩
theorem r_Inv {Z : Nat} {R : Int32} {c A : q_R} {W : q_W} {s b : q_R} {bf fm : q_R × Nat} {p : Int32} (hI : r_I Z c A W) (hs : ∀ t, t < q_T c → s t = c (70 + t)) : q_Inv (r_con Z R c W s b, A, [], none, bf, p, fm) := by
  obtain ⟨i1, i2, i3, i4, i5, i7, i8⟩ := hI
  have e66 : r_con Z R c W s b 66 = c 66 := by
    unfold r_con
    rw [if_neg (by omega), if_neg (by omega), if_neg (by omega), if_neg (by omega), if_neg (by omega)]
  have eT : q_T (r_con Z R c W s b) = q_T c := q_T_eq e66
  have eN := r_N0 i4
  have hc : q_conI (r_con Z R c W s b) := ⟨⟨Z, i1.1, i1.2, by
    unfold r_con
    rw [if_neg (by omega), if_pos rfl]⟩, by rw [eT, e66]; exact i3.1, by rw [eT]; exact i3.2⟩
  have hw : q_conJ (r_con Z R c W s b) := f_sts_J i1.2 i2 (by omega) (fun i j hi hj => r_con_w i j hi hj)
  have hJ : q_J (r_con Z R c W s b) A := by
    refine ⟨⟨by rw [eN]; exact i4, by omega⟩, i5, fun r hr => by omega, fun t ht => ?_⟩
    rw [eT] at ht
    obtain ⟨hz, ⟨n, hn, en⟩, h16, h24, h37⟩ := i7 t ht
    have hsh : ∀ r, q_should A t r = [] := fun r => by
      unfold q_should
      rw [if_neg (by omega)]
    refine ⟨hz, n, hn, (r_con_70 t (by omega)).1.trans ((hs t ht).trans en), [], [], ⟨⟨h24, fun k s' hs' => by cases hs'⟩, by decide, fun s' hs' => (List.not_mem_nil hs').elim, fun r => (hsh r).symm⟩, ⟨⟨h37, fun k s' hs' => by cases hs'⟩, by decide, List.nodup_nil, fun r => ⟨fun hr => (List.not_mem_nil hr).elim, fun hr => by omega⟩⟩, trivial, fun _ => h16, trivial⟩
  refine ⟨⟨⟨hc, hw⟩, hJ, fun B hB => (List.not_mem_nil hB).elim, fun B hB => by cases hB⟩, fun r hr => ?_, fun B hB => (List.not_mem_nil hB).elim, fun B hB => by cases hB⟩
  have hr : r < q_N A := hr
  omega
