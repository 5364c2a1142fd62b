/-! ===== PURE: both scanners side by side ===== -/
/-- frames of scanning: the class's, with an error kept; the reference's -/
def c_ks (o : Nat) (M M' : z_Mem) : Prop := (∀ x, x ≠ o + 499 → M'.1 x = M.1 x) ∧ (∀ k, 2 ≤ k → k ≠ 8 → k ≠ 9 → k ≠ 10 → M'.1 (o + 499) k = M.1 (o + 499) k) ∧ M'.2 = M.2 ∧ (M.1 (o + 499) 0 ≠ 0 → M'.1 (o + 499) 0 = M.1 (o + 499) 0 ∧ M'.1 (o + 499) 1 = M.1 (o + 499) 1)
theorem c_ks.rfl' {o : Nat} {M : z_Mem} : c_ks o M M := ⟨fun _ _ => rfl, fun _ _ _ _ _ => rfl, rfl, fun _ => ⟨rfl, rfl⟩⟩
theorem c_ks.tr {o : Nat} {M M' M'' : z_Mem} (h : c_ks o M M') (h' : c_ks o M' M'') : c_ks o M M'' := ⟨fun x hx => (h'.1 x hx).trans (h.1 x hx), fun k a b c d => (h'.2.1 k a b c d).trans (h.2.1 k a b c d), h'.2.2.1.trans h.2.2.1, fun g => by
  obtain ⟨a, b⟩ := h.2.2.2 g
  obtain ⟨a', b'⟩ := h'.2.2.2 (by rw [a]; exact g)
  exact ⟨a'.trans a, b'.trans b⟩⟩
def n_ks (m : Nat) (N N' : z_Mem) : Prop := (∀ x, x ≠ m → N'.1 x = N.1 x) ∧ (∀ k, (k < 25 ∨ 32 ≤ k) → N'.1 m k = N.1 m k) ∧ ∀ x k, x ≠ m ∨ k ≠ 29 → N'.2 x k = N.2 x k
theorem n_ks.rfl' {m : Nat} {N : z_Mem} : n_ks m N N := ⟨fun _ _ => rfl, fun _ _ => rfl, fun _ _ _ => rfl⟩
theorem n_ks.tr {m : Nat} {N N' N'' : z_Mem} (h : n_ks m N N') (h' : n_ks m N' N'') : n_ks m N N'' := ⟨fun x hx => (h'.1 x hx).trans (h.1 x hx), fun k hk => (h'.2.1 k hk).trans (h.2.1 k hk), fun x k hk => (h'.2.2 x k hk).trans (h.2.2 x k hk)⟩
theorem ne10 : ¬ (1 : Int32) = 0 := by decide
/-! the class's scanner never fails -/
theorem t_fail (o : Nat) (e : Int32) (M : z_Mem) : ∃ M', F_Tokens_fail o e M = some M' ∧ c_ks o M M' := by
  unfold F_Tokens_fail
  by_cases h0 : M.1 (o + 499) 0 = 0
  · rw [if_pos h0]
    by_cases h1 : M.1 (o + 499) 8 < 0
    · rw [if_pos h1]
      exact ⟨M, rfl, c_ks.rfl'⟩
    rw [if_neg h1]
    by_cases h2 : 800 < M.1 (o + 499) 8
    · rw [if_pos h2]
      exact ⟨M, rfl, c_ks.rfl'⟩
    obtain ⟨t, ht, et⟩ := i_ex h1
    have ht8 : t ≤ 800 := by
      rw [et] at h2
      rcases Nat.lt_or_ge 800 t with g | g
      · exact absurd ((i_lt (a := 800) (by decide) ht).mpr g) h2
      · exact g
    rw [if_neg h2, zl_eq, w_slot _ (show (8 : Nat) ≠ 0 by decide), et, if_pos ((i_inb ht).mpr (by omega)), zl_eq]
    exact ⟨_, rfl, fun x hx => funext fun k => (w_addr _ hx).trans (w_addr _ hx), fun k a b c d => (w_slot _ (by omega)).trans (w_slot _ (by omega)), rfl, fun g => absurd h0 g⟩
  · rw [if_neg h0]
    exact ⟨M, rfl, c_ks.rfl'⟩
theorem t_next (o : Nat) (M : z_Mem) : ∃ M', F_Tokens_next o M = some M' ∧ c_ks o M M' := by
  have end_ : ∀ M1 v1 s0, ∃ M', F_Tokens_next_J85 o s0 (z_wI M1 (o + 499) 9 v1) = some M' ∧ c_ks o M1 M' := fun M1 v1 s0 => ⟨_, rfl, fun x hx => funext fun k => (w_addr _ hx).trans (w_addr _ hx), fun k a b c d => (w_slot _ (by omega)).trans (w_slot _ (by omega)), rfl, fun _ => ⟨(w_slot _ (by decide)).trans (w_slot _ (by decide)), (w_slot _ (by decide)).trans (w_slot _ (by decide))⟩⟩
  have h23 : ∀ M1, ∃ M', F_Tokens_next_J23 o M1 = some M' ∧ c_ks o M1 M' := fun M1 => by
    have h44 : ∃ M', F_Tokens_next_J44 o M1 = some M' ∧ c_ks o M1 M' := by
      unfold F_Tokens_next_J44 F_Tokens_next_J45 F_Tokens_next_J64
      rw [if_pos rfl, zl_eq, if_pos rfl]
      exact end_ _ _ _
    unfold F_Tokens_next_J23
    by_cases h1 : M1.1 (o + 499) 8 < 0
    · rw [if_pos h1]
      exact h44
    rw [if_neg h1]
    by_cases h2 : 800 < M1.1 (o + 499) 8
    · rw [if_pos h2]
      exact h44
    obtain ⟨t, ht, et⟩ := i_ex h1
    have ht8 : t ≤ 800 := by
      rw [et] at h2
      rcases Nat.lt_or_ge 800 t with g | g
      · exact absurd ((i_lt (a := 800) (by decide) ht).mpr g) h2
      · exact g
    have ib : z_inb (M1.1 (o + 499) 8) 801 := by
      rw [et]
      exact (i_inb ht).mpr (by omega)
    rw [if_neg h2]
    unfold F_Tokens_next_J45 F_Tokens_next_J64
    rw [if_neg (by decide), if_pos ib, zl_eq, if_neg (by decide), w_slot _ (show (8 : Nat) ≠ 9 by decide), if_pos ib]
    exact end_ _ _ _
  unfold F_Tokens_next
  by_cases h : M.1 (o + 499) 7 - 1 ≤ M.1 (o + 499) 8
  · rw [if_pos h]
    exact h23 M
  · rw [if_neg h, zl_eq]
    obtain ⟨M', e, c⟩ := h23 (z_wI M (o + 499) 8 (M.1 (o + 499) 8 + 1))
    exact ⟨M', e, fun x hx => (c.1 x hx).trans (funext fun k => w_addr _ hx), fun k a b d f => (c.2.1 k a b d f).trans (w_slot _ b), c.2.2.1, fun g => by
      obtain ⟨a, b⟩ := c.2.2.2 (by rw [w_slot _ (by decide)]; exact g)
      exact ⟨a.trans (w_slot _ (by decide)), b.trans (w_slot _ (by decide))⟩⟩
theorem t_takeWord (o : Nat) (p q : Int32) (M : z_Mem) : ∃ x M', F_Tokens_takeWord o p q M = some (x, M') ∧ c_ks o M M' := by
  have j24 : ∃ x M', F_Tokens_takeWord_J24 o M = some (x, M') ∧ c_ks o M M' := by
    obtain ⟨M', e, c⟩ := t_fail o 1 M
    unfold F_Tokens_takeWord_J24
    rw [zb_ok e]
    exact ⟨_, _, rfl, c⟩
  unfold F_Tokens_takeWord
  by_cases h1 : M.1 (o + 499) 9 = 1
  · rw [if_pos h1]
    by_cases h2 : M.1 (o + 499) 10 < p
    · rw [if_pos h2]
      exact j24
    rw [if_neg h2]
    by_cases h3 : M.1 (o + 499) 10 ≤ q
    · rw [if_pos h3, zl_eq]
      obtain ⟨M', e, c⟩ := t_next o M
      rw [zb_ok e]
      exact ⟨_, _, rfl, c⟩
    · rw [if_neg h3]
      exact j24
  · rw [if_neg h1]
    exact j24
theorem t_check (o : Nat) (p q : Int32) (M : z_Mem) : ∃ x M', F_Tokens_checkNumber o p q M = some (x, M') ∧ c_ks o M M' := by
  have j31 : ∃ x M', F_Tokens_checkNumber_J31 o M = some (x, M') ∧ c_ks o M M' := by
    obtain ⟨M', e, c⟩ := t_fail o 2 M
    unfold F_Tokens_checkNumber_J31
    rw [zb_ok e]
    exact ⟨_, _, rfl, c⟩
  unfold F_Tokens_checkNumber
  by_cases h1 : M.1 (o + 499) 9 = 2
  · rw [if_pos h1]
    by_cases h2 : M.1 (o + 499) 10 < p
    · rw [if_pos h2]
      exact j31
    rw [if_neg h2]
    by_cases h3 : M.1 (o + 499) 10 ≤ q
    · rw [if_pos h3]
      exact ⟨_, _, rfl, c_ks.rfl'⟩
    · rw [if_neg h3]
      exact j31
  · rw [if_neg h1]
    obtain ⟨M', e, c⟩ := t_fail o 1 M
    rw [zb_ok e]
    exact ⟨_, _, rfl, c⟩
theorem t_number (o : Nat) (p q : Int32) (M : z_Mem) : ∃ x M', F_Tokens_takeNumber o p q M = some (x, M') ∧ c_ks o M M' := by
  obtain ⟨x, M1, e, c⟩ := t_check o p q M
  obtain ⟨M2, e2, c2⟩ := t_next o M1
  unfold F_Tokens_takeNumber
  rw [zb2_ok e, zb_ok e2]
  exact ⟨_, _, rfl, c.tr c2⟩
theorem t_sign (o : Nat) (p : Int32) (M : z_Mem) : ∃ M', F_Tokens_takeSign o p M = some M' ∧ c_ks o M M' := by
  have j23 : ∃ M', F_Tokens_takeSign_J23 o M = some M' ∧ c_ks o M M' := by
    obtain ⟨M', e, c⟩ := t_fail o 1 M
    unfold F_Tokens_takeSign_J23
    rw [zb_ok e]
    exact ⟨_, rfl, c⟩
  unfold F_Tokens_takeSign
  by_cases h1 : M.1 (o + 499) 9 = 3
  · rw [if_pos h1]
    by_cases h2 : M.1 (o + 499) 10 = p
    · rw [if_pos h2]
      obtain ⟨M', e, c⟩ := t_next o M
      rw [zb_ok e]
      exact ⟨_, rfl, c⟩
    · rw [if_neg h2]
      exact j23
  · rw [if_neg h1]
    exact j23
theorem t_isWord (o : Nat) (p : Int32) (M : z_Mem) : ∃ x, F_Tokens_isWord o p M = some x := by
  unfold F_Tokens_isWord
  split
  · split <;> exact ⟨_, rfl⟩
  · exact ⟨_, rfl⟩
theorem t_isSign (o : Nat) (p : Int32) (M : z_Mem) : ∃ x, F_Tokens_isSign o p M = some x := by
  unfold F_Tokens_isSign
  split
  · split <;> exact ⟨_, rfl⟩
  · exact ⟨_, rfl⟩
theorem t_isNumber (o : Nat) (M : z_Mem) : ∃ x, F_Tokens_isNumber o M = some x := by
  unfold F_Tokens_isNumber
  split <;> exact ⟨_, rfl⟩
/-! the reference with an error does nothing -/
theorem b_good {m : Nat} {N : z_Mem} (h : N.1 m 30 ≠ 0) : F_Model_isGood m N = some 0 := by
  unfold F_Model_isGood
  rw [if_neg h]
theorem b_ok {m : Nat} {N : z_Mem} (h : N.1 m 30 = 0) : F_Model_isGood m N = some 1 := by
  unfold F_Model_isGood
  rw [if_pos h]
theorem b_wrongs {m : Nat} {N : z_Mem} (h : N.1 m 30 ≠ 0) (e : Int32) : F_Model_wrongs m e N = some (0, N) := by
  unfold F_Model_wrongs
  rw [if_neg h]
theorem b_isWord {m : Nat} {N : z_Mem} (h : N.1 m 30 ≠ 0) (c : Int64) : F_Model_isWord m c N = some 0 := by
  unfold F_Model_isWord
  rw [zb_ok (b_good h), if_pos rfl]
theorem b_passes {m : Nat} {N : z_Mem} (h : N.1 m 30 ≠ 0) (c : Int64) : F_Model_passes m c N = some (0, N) := by
  unfold F_Model_passes
  rw [zb_ok (b_isWord h c), if_pos rfl]
theorem b_isByte {m : Nat} {N : z_Mem} (h : N.1 m 30 ≠ 0) (c : Int32) : F_Model_isByte m c N = some 0 := by
  unfold F_Model_isByte
  rw [zb_ok (b_good h), if_pos rfl]
theorem b_must {m : Nat} {N : z_Mem} (h : N.1 m 30 ≠ 0) (c : Int32) : F_Model_must m c N = some N := by
  unfold F_Model_must
  rw [zb_ok (b_good h), if_pos rfl]
theorem b_number {m : Nat} {N : z_Mem} (h : N.1 m 30 ≠ 0) (p q : Int32) : F_Model_number m p q N = some (p, N) := by
  unfold F_Model_number
  rw [zb_ok (b_good h), if_pos rfl]
/-! both with the same error; both without one, at the token that starts at q (or the end) -/
def z_b (o : Nat) (M N : z_Mem) : Prop := M.1 (o + 499) 0 ≠ 0 ∧ N.1 (o + 548) 30 = M.1 (o + 499) 0 ∧ N.1 (o + 548) 31 = M.1 (o + 499) 1
def z_g (o : Nat) (M N : z_Mem) (T : Nat → Nat) (n q : Nat) : Prop := (M.1 (o + 499) 0 = 0 ∧ M.1 (o + 499) 1 = -1 ∧ N.1 (o + 548) 30 = 0 ∧ N.1 (o + 548) 31 = -1) ∧ x_all M o T n q ∧ y_rd N (o + 548) n T ∧ y_at N (o + 548) n T q
theorem z_b.n {o : Nat} {M N : z_Mem} (h : z_b o M N) : N.1 (o + 548) 30 ≠ 0 := by rw [h.2.1]; exact h.1
theorem z_b.c {o : Nat} {M N M' : z_Mem} (h : z_b o M N) (c : c_ks o M M') : z_b o M' N := by
  obtain ⟨a, b⟩ := c.2.2.2 h.1
  exact ⟨by rw [a]; exact h.1, h.2.1.trans a.symm, h.2.2.trans b.symm⟩
theorem z_g.le {o n q : Nat} {M N : z_Mem} {T : Nat → Nat} (h : z_g o M N T n q) : q ≤ n ∧ n ≤ 800 ∧ (q < n → x_st T q = true ∧ x_kd (T q) ≠ 0) := ⟨h.2.1.2.1, h.2.2.1.2.1, fun g => ⟨h.2.1.2.2.1 g, (x_st_iff.mp (h.2.1.2.2.1 g)).1⟩⟩
theorem z_g.k9 {o n q : Nat} {M N : z_Mem} {T : Nat → Nat} (h : z_g o M N T n q) (k : Nat) (hk : k < 4) (hk0 : k ≠ 0) : (M.1 (o + 499) 9 = Int32.ofNat k ↔ q < n ∧ x_kd (T q) = k) ∧ (N.1 (o + 548) 27 = Int32.ofNat k ↔ q < n ∧ x_kd (T q) = k) := by
  have h9 := h.2.1.2.2.2.2.1
  have ha := h.2.2.2
  have kl := x_kd_le (T q)
  by_cases g : q < n
  · rw [if_pos g] at h9
    rw [h9, (ha.2.1 g).1, i_eq (by omega) (by omega)]
    exact ⟨⟨fun e => ⟨g, e⟩, fun e => e.2⟩, ⟨fun e => ⟨g, e⟩, fun e => e.2⟩⟩
  · rw [if_neg g] at h9
    rw [h9, (ha.2.2 g).1]
    refine ⟨⟨fun e => ?_, fun e => absurd e.1 g⟩, ⟨fun e => ?_, fun e => absurd e.1 g⟩⟩
    · have := (i_eq (a := 4) (by decide) (by omega)).mp e
      omega
    · have := (i_eq (a := 0) (by decide) (by omega)).mp e
      omega
theorem z_g.end {o n q : Nat} {M N : z_Mem} {T : Nat → Nat} (h : z_g o M N T n q) : (M.1 (o + 499) 9 = 4 ↔ ¬ q < n) ∧ (N.1 (o + 548) 27 = 0 ↔ ¬ q < n) := by
  have h9 := h.2.1.2.2.2.2.1
  have ha := h.2.2.2
  have kl := x_kd_le (T q)
  by_cases g : q < n
  · rw [if_pos g] at h9
    have k0 := (h.le.2.2 g).2
    rw [h9, (ha.2.1 g).1]
    refine ⟨⟨fun e => ?_, fun e => absurd g e⟩, ⟨fun e => ?_, fun e => absurd g e⟩⟩
    · have := (i_eq (b := 4) (by omega) (by decide)).mp e
      omega
    · have := (i_eq (b := 0) (by omega) (by decide)).mp e
      omega
  · rw [if_neg g] at h9
    rw [h9, (ha.2.2 g).1]
    exact ⟨⟨fun _ => g, fun _ => rfl⟩, ⟨fun _ => g, fun _ => rfl⟩⟩
theorem j_next {o n q : Nat} {M N : z_Mem} {T : Nat → Nat} (hT : ∀ k, T k < 256) (h : z_g o M N T n q) : ∃ M' N', F_Tokens_next o M = some M' ∧ F_Model_next (o + 548) N = some N' ∧ z_g o M' N' T n (x_to T n q) ∧ c_ks o M M' ∧ n_ks (o + 548) N N' := by
  obtain ⟨⟨h0, h1, g0, g1⟩, ha, hr, hy⟩ := h
  have hn := hr.2.1
  obtain ⟨M', e, a', c1, c2, c3⟩ := c_next hn ha
  have hp : ∃ p, p ≤ n ∧ N.1 (o + 548) 25 = Int32.ofNat p ∧ x_sk T n p = x_to T n q := by
    unfold x_to
    by_cases g : q < n
    · rw [if_pos g]
      exact ⟨_, (x_en_spec g).2.1, (hy.2.1 g).2.1, rfl⟩
    · rw [if_neg g]
      have hq := ha.2.1
      refine ⟨q, hq, (hy.2.2 g).2, ?_⟩
      have hs := x_sk_spec (T := T) hq
      omega
  obtain ⟨p, hp, e25, ep⟩ := hp
  obtain ⟨N', eN, aN, d1, d2, d3⟩ := m_next hT hp hr e25
  rw [ep] at aN
  exact ⟨M', N', e, eN, ⟨⟨(c2 0 (by decide) (by decide) (by decide)).trans h0, (c2 1 (by decide) (by decide) (by decide)).trans h1, (d2 30 (by omega)).trans g0, (d2 31 (by omega)).trans g1⟩, a', ⟨(d2 24 (by omega)).trans hr.1, hn, fun k hk => (congrFun (d1 _ (by omega)) k).trans (hr.2.2 k hk)⟩, aN⟩, ⟨c1, fun k a b c d => c2 k b c d, c3, fun g => absurd h0 g⟩, ⟨d1, fun k hk => d2 k (by omega), d3⟩⟩
theorem j_fail {o n q : Nat} {M N : z_Mem} {T : Nat → Nat} {e : Int32} (he : e ≠ 0) (h : z_g o M N T n q) : ∃ M' N', F_Tokens_fail o e M = some M' ∧ F_Model_wrongs (o + 548) e N = some (0, N') ∧ z_b o M' N' ∧ c_ks o M M' ∧ n_ks (o + 548) N N' := by
  obtain ⟨⟨h0, h1, g0, g1⟩, ha, hr, hy⟩ := h
  have hn := hr.2.1
  have hc := x_cn_le T q
  have hq := ha.2.1
  unfold F_Tokens_fail F_Model_wrongs
  rw [if_pos h0, if_pos g0, ha.2.2.2.1, if_neg (i_nn (by omega)), if_neg (show ¬ (800 : Int32) < Int32.ofNat (x_cn T q) from fun g => by have := (i_lt (a := 800) (by decide) (by omega)).mp g; omega), zl_eq, w_slot _ (show (8 : Nat) ≠ 0 by decide), ha.2.2.2.1, if_pos ((i_inb (by omega)).mpr (by omega)), zl_eq, i_cl (by omega), w_addr _ (by omega), zl_eq, w_slot _ (show (26 : Nat) ≠ 30 by decide), hy.1, zl_eq]
  have e1 : M.1 (o + 501) (x_cn T q) = Int32.ofNat q := by
    by_cases g : q < n
    · exact (ha.1.2.2.2 q g (ha.2.2.1 g)).2.1
    · rw [show q = n by omega]
      exact ha.1.2.2.1
  rw [e1]
  refine ⟨_, _, rfl, rfl, ⟨?_, ?_, ?_⟩, ⟨fun x hx => funext fun k => (w_addr _ hx).trans (w_addr _ hx), fun k a b c d => (w_slot _ (by omega)).trans (w_slot _ (by omega)), rfl, fun g => absurd h0 g⟩, ⟨fun x hx => funext fun k => (w_addr _ hx).trans (w_addr _ hx), fun k hk => (w_slot _ (by omega)).trans (w_slot _ (by omega)), fun x k _ => rfl⟩⟩
  · rw [w_slot _ (by decide), w_same]
    exact he
  · rw [w_slot _ (by decide), w_same, w_slot _ (by decide), w_same]
  · rw [w_same, w_same]
/-- what the class makes of a number's figures: the same up to a million -/
theorem y_cap {T : Nat → Nat} {n q : Nat} (hq : q < n) (hs : x_st T q = true) (h2 : x_kd (T q) = 2) : ∀ d, q + d < x_en T n q → x_vl T (q + d) = min 1000000 (y_nm T q (d + 1))
  | 0, hd => by
    have h48 := x_kd_2.mp h2
    rw [Nat.add_zero, x_vl_st hs, if_pos h2]
    show _ = min 1000000 (if y_nm T q 0 ≤ 9999999 then 10 * y_nm T q 0 + T (q + 0) - 48 else _)
    rw [if_pos (by show 0 ≤ _; omega), Nat.add_zero, Nat.min_eq_right (by show 10 * 0 + T q - 48 ≤ _; omega)]
    show T q - 48 = 10 * 0 + T q - 48
    omega
  | d + 1, hd => by
    have ih := y_cap hq hs h2 d (by omega)
    have hk := (x_en_spec hq).2.2.1 (q + (d + 1)) (by omega) hd
    have hf := x_in_st hq (show q < q + (d + 1) by omega) hd (by rw [h2]; decide)
    have h48 := x_kd_2.mp (hk.trans h2)
    rw [x_vl_ns (by omega) hf, if_pos (hk.trans h2), show q + (d + 1) - 1 = q + d by omega, ih]
    show _ = min 1000000 (if y_nm T q (d + 1) ≤ 9999999 then 10 * y_nm T q (d + 1) + T (q + (d + 1)) - 48 else y_nm T q (d + 1))
    generalize y_nm T q (d + 1) = Y
    by_cases g : Y ≤ 9999999
    · rw [if_pos g]
      by_cases g2 : Y ≤ 1000000
      · rw [Nat.min_eq_right g2]
      · rw [Nat.min_eq_left (show 1000000 ≤ Y by omega), Nat.min_eq_left (by omega), Nat.min_eq_left (by omega)]
    · rw [if_neg g, Nat.min_eq_left (show 1000000 ≤ Y by omega), Nat.min_eq_left (by omega)]
/-- a number that must lie between a and b -/
theorem j_check {o n q a b : Nat} {M N : z_Mem} {T : Nat → Nat} (hT : ∀ k, T k < 256) (hb : b ≤ 99999) (hab : a ≤ b) (h : z_g o M N T n q) :
    (∃ t M' N', a ≤ t ∧ t ≤ b ∧ q < n ∧ F_Tokens_checkNumber o (Int32.ofNat a) (Int32.ofNat b) M = some (Int32.ofNat t, M) ∧ N.1 (o + 548) 28 = Int32.ofNat t ∧ N.1 (o + 548) 27 = 2 ∧ F_Model_in (N.1 (o + 548) 28).toInt64 (Int32.ofNat a).toInt64 (Int32.ofNat b).toInt64 N = some 1 ∧ F_Tokens_next o M = some M' ∧ F_Model_number (o + 548) (Int32.ofNat a) (Int32.ofNat b) N = some (Int32.ofNat t, N') ∧ z_g o M' N' T n (x_to T n q) ∧ c_ks o M M' ∧ n_ks (o + 548) N N') ∨
    (∃ M' N', F_Tokens_checkNumber o (Int32.ofNat a) (Int32.ofNat b) M = some (-1, M') ∧ F_Model_number (o + 548) (Int32.ofNat a) (Int32.ofNat b) N = some (Int32.ofNat a, N') ∧ z_b o M' N' ∧ c_ks o M M' ∧ n_ks (o + 548) N N' ∧ (N.1 (o + 548) 27 = 2 → F_Model_in (N.1 (o + 548) 28).toInt64 (Int32.ofNat a).toInt64 (Int32.ofNat b).toInt64 N = some 0)) := by
  have hk9 := h.k9 2 (by decide) (by decide)
  have hgd := b_ok h.1.2.2.1
  unfold F_Tokens_checkNumber F_Model_number
  rw [zb_ok hgd, if_neg ne10]
  by_cases g : q < n ∧ x_kd (T q) = 2
  · have e9 : M.1 (o + 499) 9 = 2 := hk9.1.mpr g
    have e27 : N.1 (o + 548) 27 = 2 := hk9.2.mpr g
    rw [if_pos e9, if_pos e27]
    have hs := (h.le.2.2 g.1).1
    have he := x_en_spec (T := T) g.1
    have cap := y_cap g.1 hs g.2 (x_en T n q - q - 1) (by omega)
    rw [show q + (x_en T n q - q - 1) = x_en T n q - 1 by omega, show x_en T n q - q - 1 + 1 = x_en T n q - q by omega] at cap
    have e28 := (h.2.2.2.2.1 g.1).2.2.1 g.2
    have e10 := h.2.1.2.2.2.2.2 g.1
    unfold x_va at e10
    rw [if_neg (by rw [g.2]; decide), cap] at e10
    have hY := y_nm_le hT q (x_en T n q - q)
    generalize y_nm T q (x_en T n q - q) = Y at e28 e10 hY
    have hin := fun N1 => p_inx (Int32.ofNat Y) (Int32.ofNat a) (Int32.ofNat b) N1 rfl rfl
    rw [e28, e10]
    by_cases r : a ≤ Y ∧ Y ≤ b
    · have em : min 1000000 Y = Y := Nat.min_eq_right (by omega)
      have hnr : ¬ (Int32.ofNat Y < Int32.ofNat a ∨ Int32.ofNat b < Int32.ofNat Y) := fun k => by
        rcases k with k | k
        · have := (i_lt (by omega) (by omega)).mp k
          omega
        · have := (i_lt (by omega) (by omega)).mp k
          omega
      obtain ⟨M', N', eM, eN, hg', c, d⟩ := j_next hT h
      left
      refine ⟨Y, M', N', r.1, r.2, g.1, ?_, rfl, e27, ?_, eM, ?_, hg', c, d⟩
      · rw [em, if_neg (fun k => hnr (Or.inl k)), if_pos ((i_le (by omega) (by omega)).mpr r.2)]
      · rw [hin, if_neg hnr]
      · rw [zb_ok ((hin N).trans (by rw [if_neg hnr])), if_neg (by decide)]
        unfold F_Model_number_J47
        rw [zb_ok hgd, if_neg ne10, zl_eq, e28, zb_ok eN]
    · right
      have hnr : Int32.ofNat Y < Int32.ofNat a ∨ Int32.ofNat b < Int32.ofNat Y := by
        by_cases k : Y < a
        · exact Or.inl ((i_lt (by omega) (by omega)).mpr k)
        · exact Or.inr ((i_lt (by omega) (by omega)).mpr (by omega))
      obtain ⟨M', N', eM, eN, hb', c, d⟩ := j_fail (e := 2) (by decide) h
      refine ⟨M', N', ?_, ?_, hb', c, d, fun _ => by rw [hin, if_pos hnr]⟩
      · have j31 : F_Tokens_checkNumber_J31 o M = some (-1, M') := by
          unfold F_Tokens_checkNumber_J31
          rw [zb_ok eM]
        by_cases k : Int32.ofNat (min 1000000 Y) < Int32.ofNat a
        · rw [if_pos k]
          exact j31
        · rw [if_neg k, if_neg (fun k2 => by
            have a1 := (i_le (by omega) (by omega)).mp k2
            have a2 : ¬ min 1000000 Y < a := fun z => k ((i_lt (by omega) (by omega)).mpr z)
            have : Y ≤ 1000000 := by
              rcases Nat.lt_or_ge 1000000 Y with z | z
              · rw [Nat.min_eq_left (by omega)] at a1
                omega
              · exact z
            rw [Nat.min_eq_right this] at a1 a2
            exact r ⟨by omega, a1⟩)]
          exact j31
      · rw [zb_ok ((hin N).trans (by rw [if_pos hnr])), if_pos rfl, zb2_ok eN]
        unfold F_Model_number_J47
        rw [zb_ok (b_good hb'.n), if_pos rfl]
  · have e9 : ¬ M.1 (o + 499) 9 = 2 := fun k => g (hk9.1.mp k)
    have e27 : ¬ N.1 (o + 548) 27 = 2 := fun k => g (hk9.2.mp k)
    rw [if_neg e9, if_neg e27]
    obtain ⟨M', N', eM, eN, hb', c, d⟩ := j_fail (e := 1) (by decide) h
    right
    refine ⟨M', N', ?_, ?_, hb', c, d, fun k => absurd k e27⟩
    · rw [zb_ok eM]
    · rw [zb2_ok eN]
      unfold F_Model_number_J47
      rw [zb_ok (b_good hb'.n), if_pos rfl]
theorem j_number {o n q a b : Nat} {M N : z_Mem} {T : Nat → Nat} (hT : ∀ k, T k < 256) (hb : b ≤ 99999) (hab : a ≤ b) (h : z_g o M N T n q) :
    ∃ x y M' N', F_Tokens_takeNumber o (Int32.ofNat a) (Int32.ofNat b) M = some (x, M') ∧ F_Model_number (o + 548) (Int32.ofNat a) (Int32.ofNat b) N = some (y, N') ∧ c_ks o M M' ∧ n_ks (o + 548) N N' ∧ (z_b o M' N' ∨ ∃ t q', a ≤ t ∧ t ≤ b ∧ x = Int32.ofNat t ∧ y = Int32.ofNat t ∧ q < q' ∧ z_g o M' N' T n q') := by
  rcases j_check hT hb hab h with ⟨t, M', N', h1, h2, hq, e1, -, -, -, e2, e3, hg, c, d⟩ | ⟨M', N', e1, e2, hb', c, d, -⟩
  · refine ⟨Int32.ofNat t, Int32.ofNat t, M', N', ?_, e3, c, d, Or.inr ⟨t, _, h1, h2, rfl, rfl, (x_to_le h.le.1 (fun g => (h.le.2.2 g).1)).2.2.1 hq, hg⟩⟩
    unfold F_Tokens_takeNumber
    rw [zb2_ok e1, zb_ok e2]
  · obtain ⟨M2, e3, c2⟩ := t_next o M'
    refine ⟨-1, Int32.ofNat a, M2, N', ?_, e2, c.tr c2, d, Or.inl (hb'.c c2)⟩
    unfold F_Tokens_takeNumber
    rw [zb2_ok e1, zb_ok e3]
/-! signs -/
def s_is (T : Nat → Nat) (n q b : Nat) : Prop := q < n ∧ x_kd (T q) = 3 ∧ T q = b
theorem x_va3 {T : Nat → Nat} {n q : Nat} (hq : q < n) (h : x_kd (T q) = 3) : x_va T n q = Int32.ofNat (T q) := by
  unfold x_va
  rw [if_neg (by rw [h]; decide), (x_en_spec hq).2.2.2.2 h, show q + 1 - 1 = q by omega]
  cases q with
  | zero =>
    show Int32.ofNat (if x_kd (T 0) = 2 then T 0 - 48 else T 0) = _
    rw [if_neg (by rw [h]; decide)]
  | succ q =>
    show Int32.ofNat (if x_kd (T (q + 1)) = 2 then _ else T (q + 1)) = _
    rw [if_neg (by rw [h]; decide)]
theorem j_isSign {o n q b : Nat} {M N : z_Mem} {T : Nat → Nat} (hT : ∀ k, T k < 256) (hb : b < 256) (h : z_g o M N T n q) :
    (s_is T n q b ∧ F_Tokens_isSign o (Int32.ofNat b) M = some 1 ∧ F_Model_isByte (o + 548) (Int32.ofNat b) N = some 1 ∧ M.1 (o + 499) 9 = 3 ∧ M.1 (o + 499) 10 = Int32.ofNat b) ∨ (¬ s_is T n q b ∧ F_Tokens_isSign o (Int32.ofNat b) M = some 0 ∧ F_Model_isByte (o + 548) (Int32.ofNat b) N = some 0 ∧ ¬ (M.1 (o + 499) 9 = 3 ∧ M.1 (o + 499) 10 = Int32.ofNat b)) := by
  have hk9 := h.k9 3 (by decide) (by decide)
  have hn := h.le
  unfold F_Tokens_isSign F_Model_isByte
  rw [zb_ok (b_ok h.1.2.2.1), if_neg ne10]
  by_cases g : q < n ∧ x_kd (T q) = 3
  · have e9 : M.1 (o + 499) 9 = 3 := hk9.1.mpr g
    have e27 : N.1 (o + 548) 27 = 3 := hk9.2.mpr g
    have e10 := h.2.1.2.2.2.2.2 g.1
    rw [x_va3 g.1 g.2] at e10
    rw [if_pos e9, if_pos e27, e10, h.2.2.2.1, if_pos ((i_inb (by omega)).mpr (by omega)), i_cl (by omega), h.2.2.1.2.2 q g.1]
    by_cases e : T q = b
    · rw [if_pos (by rw [e])]
      exact Or.inl ⟨⟨g.1, g.2, e⟩, rfl, rfl, e9, by rw [e]⟩
    · have hne : ¬ Int32.ofNat (T q) = Int32.ofNat b := fun k => e ((i_eq (by have := hT q; omega) (by omega)).mp k)
      rw [if_neg hne]
      exact Or.inr ⟨fun k => e k.2.2, rfl, rfl, fun k => hne k.2⟩
  · have e9 : ¬ M.1 (o + 499) 9 = 3 := fun k => g (hk9.1.mp k)
    have e27 : ¬ N.1 (o + 548) 27 = 3 := fun k => g (hk9.2.mp k)
    rw [if_neg e9, if_neg e27]
    exact Or.inr ⟨fun k => g ⟨k.1, k.2.1⟩, rfl, rfl, fun k => e9 k.1⟩
theorem j_sign {o n q b : Nat} {M N : z_Mem} {T : Nat → Nat} (hT : ∀ k, T k < 256) (hb : b < 256) (h : z_g o M N T n q) :
    ∃ M' N', F_Tokens_takeSign o (Int32.ofNat b) M = some M' ∧ F_Model_must (o + 548) (Int32.ofNat b) N = some N' ∧ c_ks o M M' ∧ n_ks (o + 548) N N' ∧ (z_b o M' N' ∨ ∃ q', q < q' ∧ z_g o M' N' T n q') := by
  unfold F_Tokens_takeSign F_Model_must
  rw [zb_ok (b_ok h.1.2.2.1), if_neg ne10]
  rcases j_isSign hT hb h with ⟨hs, e1, e2, e3, e4⟩ | ⟨hs, e1, e2, e3⟩
  · obtain ⟨M', N', eM, eN, hg, c, d⟩ := j_next hT h
    rw [if_pos e3, if_pos e4, zb_ok eM, zb_ok e2, if_neg (by decide), zb_ok eN]
    exact ⟨M', N', rfl, rfl, c, d, Or.inr ⟨_, (x_to_le h.le.1 (fun g => (h.le.2.2 g).1)).2.2.1 hs.1, hg⟩⟩
  · obtain ⟨M', N', eM, eN, hb', c, d⟩ := j_fail (e := 1) (by decide) h
    have j23 : F_Tokens_takeSign_J23 o M = some M' := by
      unfold F_Tokens_takeSign_J23
      rw [zb_ok eM]
    rw [zb_ok e2, if_pos rfl, zb2_ok eN]
    refine ⟨M', N', ?_, rfl, c, d, Or.inl hb'⟩
    by_cases k : M.1 (o + 499) 9 = 3
    · rw [if_pos k, if_neg (fun k2 => e3 ⟨k, k2⟩)]
      exact j23
    · rw [if_neg k]
      exact j23
/-! words -/
abbrev v_is (T : Nat → Nat) (n q j : Nat) : Prop := q < n ∧ x_kd (T q) = 1 ∧ w_is T q (x_en T n q - q) j
theorem v_is.one {T : Nat → Nat} {n q j k : Nat} (hj : j < 26) (hk : k < 26) (h : v_is T n q j) (h' : v_is T n q k) : j = k := w_is_one hj hk h.2.2 h'.2.2
theorem l_toInt {a : Nat} (h : a < 2 ^ 63) : (Int64.ofNat a).toInt = a := Int64.toInt_ofNat_of_lt h
theorem l_eq {a b : Nat} (ha : a < 2 ^ 63) (hb : b < 2 ^ 63) : Int64.ofNat a = Int64.ofNat b ↔ a = b := by
  constructor
  · intro h
    have := congrArg Int64.toInt h
    rw [l_toInt ha, l_toInt hb] at this
    omega
  · exact fun h => by rw [h]
theorem y_wd_lt {T : Nat → Nat} (hT : ∀ k, T k < 256) (q : Nat) : ∀ d, d ≤ 10 → y_wd T q d ≤ 256 * 28 ^ d
  | 0, _ => by show 0 ≤ _; omega
  | d + 1, h => by
    have ih := y_wd_lt hT q d (by omega)
    have := hT (q + d)
    rw [y_wd_S (by omega), Nat.pow_succ]
    have h1 : 1 ≤ 28 ^ d := Nat.pos_of_ne_zero (by simp)
    omega
theorem w_clt : ∀ j : Fin 26, w_c j.val < 2 ^ 62 := by decide +kernel
theorem j_isWord {o n q j : Nat} {M N : z_Mem} {T : Nat → Nat} (hT : ∀ k, T k < 256) (hj : j < 26) (h : z_g o M N T n q) :
    F_Tokens_isWord o (Int32.ofNat j) M = some (if v_is T n q j then 1 else 0) ∧ F_Model_isWord (o + 548) (Int64.ofNat (w_c j)) N = some (if v_is T n q j then 1 else 0) := by
  have hk9 := h.k9 1 (by decide) (by decide)
  have hn := h.le
  unfold F_Tokens_isWord F_Model_isWord
  rw [zb_ok (b_ok h.1.2.2.1), if_neg ne10]
  by_cases g : q < n ∧ x_kd (T q) = 1
  · have e9 : M.1 (o + 499) 9 = 1 := hk9.1.mpr g
    have e27 : N.1 (o + 548) 27 = 1 := hk9.2.mpr g
    have e10 := h.2.1.2.2.2.2.2 g.1
    have he := x_en_spec (T := T) g.1
    unfold x_va at e10
    rw [if_pos g.2] at e10
    have a25 := (h.2.2.2.2.1 g.1).2.1
    have a29 := (h.2.2.2.2.1 g.1).2.2.2 g.2
    rw [if_pos e9, if_pos e27, e10, a25, h.2.2.2.1, i_sub (by omega), a29]
    have hw := w_ix_iff (T := T) (q := q) (l := x_en T n q - q) hj
    have hc := w_clt ⟨j, hj⟩
    dsimp only at hc
    constructor
    · by_cases k : v_is T n q j
      · rw [if_pos (hw.mpr k.2.2), if_pos k]
      · rw [if_neg (fun z => k ⟨g.1, g.2, hw.mp z⟩), if_neg k]
    · by_cases k : 10 < x_en T n q - q
      · rw [if_pos (show (10 : Int32) < _ from (i_lt (a := 10) (by decide) (by omega)).mpr k), if_neg (fun z => by have := z.2.2.1; omega)]
      · have hlt := y_wd_lt hT q (x_en T n q - q) (by omega)
        have hp : 28 ^ (x_en T n q - q) ≤ 28 ^ 10 := Nat.pow_le_pow_right (by decide) (by omega)
        rw [if_neg (show ¬ (10 : Int32) < _ from fun z => k ((i_lt (a := 10) (by decide) (by omega)).mp z))]
        have e28 : (28 : Nat) ^ 10 = 296196766695424 := by decide
        rw [e28] at hp
        have iff : lg_cmp (Int64.ofNat (y_wd T q (x_en T n q - q))) (Int64.ofNat (w_c j)) = 0 ↔ v_is T n q j := by
          rw [i_cmp0, l_eq (by omega) (by omega)]
          exact ⟨fun z => ⟨g.1, g.2, by omega, z⟩, fun z => z.2.2.2⟩
        by_cases z : v_is T n q j
        · rw [if_pos (iff.mpr z), if_pos z]
        · rw [if_neg (fun y => z (iff.mp y)), if_neg z]
  · have e9 : ¬ M.1 (o + 499) 9 = 1 := fun k => g (hk9.1.mp k)
    have e27 : ¬ N.1 (o + 548) 27 = 1 := fun k => g (hk9.2.mp k)
    rw [if_neg e9, if_neg e27, if_neg (fun k : v_is T n q j => g ⟨k.1, k.2.1⟩)]
    exact ⟨rfl, rfl⟩
/-- a word between a and b is taken, or an error told -/
theorem j_takeWord {o n q a b : Nat} {M N : z_Mem} {T : Nat → Nat} (hT : ∀ k, T k < 256) (ha : a ≤ b) (hb : b < 26) (h : z_g o M N T n q) :
    (∃ j M' N', a ≤ j ∧ j ≤ b ∧ v_is T n q j ∧ q < n ∧ F_Tokens_takeWord o (Int32.ofNat a) (Int32.ofNat b) M = some (Int32.ofNat j, M') ∧ F_Model_next (o + 548) N = some N' ∧ z_g o M' N' T n (x_to T n q) ∧ c_ks o M M' ∧ n_ks (o + 548) N N') ∨
    (∃ M' N', (∀ j, a ≤ j → j ≤ b → ¬ v_is T n q j) ∧ F_Tokens_takeWord o (Int32.ofNat a) (Int32.ofNat b) M = some (-1, M') ∧ F_Model_wrongs (o + 548) 1 N = some (0, N') ∧ z_b o M' N' ∧ c_ks o M M' ∧ n_ks (o + 548) N N') := by
  have hk9 := h.k9 1 (by decide) (by decide)
  obtain ⟨Mf, Nf, eMf, eNf, hb', cf, df⟩ := j_fail (e := 1) (by decide) h
  have j24 : F_Tokens_takeWord_J24 o M = some (-1, Mf) := by
    unfold F_Tokens_takeWord_J24
    rw [zb_ok eMf]
  unfold F_Tokens_takeWord
  by_cases g : q < n ∧ x_kd (T q) = 1
  · have e9 : M.1 (o + 499) 9 = 1 := hk9.1.mpr g
    have e10 := h.2.1.2.2.2.2.2 g.1
    unfold x_va at e10
    rw [if_pos g.2] at e10
    rw [if_pos e9, e10]
    rcases w_ix_cases T q (x_en T n q - q) with ⟨j, hj, hw, e⟩ | ⟨e, hw⟩
    · rw [e]
      by_cases hab : a ≤ j ∧ j ≤ b
      · obtain ⟨M', N', eM, eN, hg, c, d⟩ := j_next hT h
        rw [if_neg (fun z => by have := (i_lt (by omega) (by omega)).mp z; omega), if_pos ((i_le (by omega) (by omega)).mpr hab.2), zl_eq, zb_ok eM]
        exact Or.inl ⟨j, M', N', hab.1, hab.2, ⟨g.1, g.2, hw⟩, g.1, rfl, eN, hg, c, d⟩
      · refine Or.inr ⟨Mf, Nf, fun k h1 h2 z => hab ?_, ?_, eNf, hb', cf, df⟩
        · have := w_is_one hj (show k < 26 by omega) hw z.2.2
          omega
        · by_cases k : j < a
          · rw [if_pos ((i_lt (by omega) (by omega)).mpr k)]
            exact j24
          · rw [if_neg (fun z => k ((i_lt (by omega) (by omega)).mp z)), if_neg (fun z => by have := (i_le (by omega) (by omega)).mp z; omega)]
            exact j24
    · rw [e]
      refine Or.inr ⟨Mf, Nf, fun k h1 h2 z => hw k (by omega) z.2.2, ?_, eNf, hb', cf, df⟩
      rw [if_pos (by
        rw [Int32.lt_iff_toInt_lt, i_toInt (by omega)]
        have : ((-1 : Int32)).toInt = -1 := by decide
        omega)]
      exact j24
  · have e9 : ¬ M.1 (o + 499) 9 = 1 := fun k => g (hk9.1.mp k)
    rw [if_neg e9]
    exact Or.inr ⟨Mf, Nf, fun k _ _ z => g ⟨z.1, z.2.1⟩, j24, eNf, hb', cf, df⟩
/-- passes: the reference's taking of one word -/
theorem j_passes {o n q j : Nat} {M N : z_Mem} {T : Nat → Nat} (hT : ∀ k, T k < 256) (hj : j < 26) (h : z_g o M N T n q) :
    F_Model_passes (o + 548) (Int64.ofNat (w_c j)) N = if v_is T n q j then zb (F_Model_next (o + 548) N) fun N' => some (1, N') else some (0, N) := by
  unfold F_Model_passes
  rw [zb_ok (j_isWord hT hj h).2]
  by_cases k : v_is T n q j
  · rw [if_pos k, if_pos k, if_neg (by decide)]
  · rw [if_neg k, if_neg k, if_pos rfl]
