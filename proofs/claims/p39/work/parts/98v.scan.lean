/-! ===== the class's side (out of whole, by program) ===== -/
/-- frames of scanning: the class's, with an error kept; the reference's -/
def c_ks (o : Nat) (M M' : z_Mem) : Prop := (∀ x, x ≠ o + 499 → M'.1 x = M.1 x) ∧ (∀ k, 2 ≤ k → k ≠ 8 → k ≠ 9 → k ≠ 10 → M'.1 (o + 499) k = M.1 (o + 499) k) ∧ M'.2 = M.2 ∧ (M.1 (o + 499) 0 ≠ 0 → M'.1 (o + 499) 0 = M.1 (o + 499) 0 ∧ M'.1 (o + 499) 1 = M.1 (o + 499) 1)
theorem c_ks.rfl' {o : Nat} {M : z_Mem} : c_ks o M M := ⟨fun _ _ => rfl, fun _ _ _ _ _ => rfl, rfl, fun _ => ⟨rfl, rfl⟩⟩
theorem c_ks.tr {o : Nat} {M M' M'' : z_Mem} (h : c_ks o M M') (h' : c_ks o M' M'') : c_ks o M M'' := ⟨fun x hx => (h'.1 x hx).trans (h.1 x hx), fun k a b c d => (h'.2.1 k a b c d).trans (h.2.1 k a b c d), h'.2.2.1.trans h.2.2.1, fun g => by
  obtain ⟨a, b⟩ := h.2.2.2 g
  obtain ⟨a', b'⟩ := h'.2.2.2 (by rw [a]; exact g)
  exact ⟨a'.trans a, b'.trans b⟩⟩
def n_ks (m : Nat) (N N' : z_Mem) : Prop := (∀ x, x ≠ m → N'.1 x = N.1 x) ∧ (∀ k, (k < 25 ∨ 32 ≤ k) → N'.1 m k = N.1 m k) ∧ ∀ x k, x ≠ m ∨ k ≠ 29 → N'.2 x k = N.2 x k
theorem n_ks.rfl' {m : Nat} {N : z_Mem} : n_ks m N N := ⟨fun _ _ => rfl, fun _ _ => rfl, fun _ _ _ => rfl⟩
theorem n_ks.tr {m : Nat} {N N' N'' : z_Mem} (h : n_ks m N N') (h' : n_ks m N' N'') : n_ks m N N'' := ⟨fun x hx => (h'.1 x hx).trans (h.1 x hx), fun k hk => (h'.2.1 k hk).trans (h.2.1 k hk), fun x k hk => (h'.2.2 x k hk).trans (h.2.2 x k hk)⟩
theorem ne10 : ¬ (1 : Int32) = 0 := by decide
theorem t_fail (o : Nat) (e : Int32) (M : z_Mem) : ∃ M', F_Tokens_fail o e M = some M' ∧ c_ks o M M' := by
  unfold F_Tokens_fail
  by_cases h0 : M.1 (o + 499) 0 = 0
  · rw [if_pos h0]
    by_cases h1 : M.1 (o + 499) 8 < 0
    · rw [if_pos h1]
      exact ⟨M, rfl, c_ks.rfl'⟩
    rw [if_neg h1]
    by_cases h2 : 800 < M.1 (o + 499) 8
    · rw [if_pos h2]
      exact ⟨M, rfl, c_ks.rfl'⟩
    obtain ⟨t, ht, et⟩ := i_ex h1
    have ht8 : t ≤ 800 := by
      rw [et] at h2
      rcases Nat.lt_or_ge 800 t with g | g
      · exact absurd ((i_lt (a := 800) (by decide) ht).mpr g) h2
      · exact g
    rw [if_neg h2, zl_eq, w_slot _ (show (8 : Nat) ≠ 0 by decide), et, if_pos ((i_inb ht).mpr (by omega)), zl_eq]
    exact ⟨_, rfl, fun x hx => funext fun k => (w_addr _ hx).trans (w_addr _ hx), fun k a b c d => (w_slot _ (by omega)).trans (w_slot _ (by omega)), rfl, fun g => absurd h0 g⟩
  · rw [if_neg h0]
    exact ⟨M, rfl, c_ks.rfl'⟩
theorem t_next (o : Nat) (M : z_Mem) : ∃ M', F_Tokens_next o M = some M' ∧ c_ks o M M' := by
  have end_ : ∀ M1 v1 s0, ∃ M', F_Tokens_next_J85 o s0 (z_wI M1 (o + 499) 9 v1) = some M' ∧ c_ks o M1 M' := fun M1 v1 s0 => ⟨_, rfl, fun x hx => funext fun k => (w_addr _ hx).trans (w_addr _ hx), fun k a b c d => (w_slot _ (by omega)).trans (w_slot _ (by omega)), rfl, fun _ => ⟨(w_slot _ (by decide)).trans (w_slot _ (by decide)), (w_slot _ (by decide)).trans (w_slot _ (by decide))⟩⟩
  have h23 : ∀ M1, ∃ M', F_Tokens_next_J23 o M1 = some M' ∧ c_ks o M1 M' := fun M1 => by
    have h44 : ∃ M', F_Tokens_next_J44 o M1 = some M' ∧ c_ks o M1 M' := by
      unfold F_Tokens_next_J44 F_Tokens_next_J45 F_Tokens_next_J64
      rw [if_pos rfl, zl_eq, if_pos rfl]
      exact end_ _ _ _
    unfold F_Tokens_next_J23
    by_cases h1 : M1.1 (o + 499) 8 < 0
    · rw [if_pos h1]
      exact h44
    rw [if_neg h1]
    by_cases h2 : 800 < M1.1 (o + 499) 8
    · rw [if_pos h2]
      exact h44
    obtain ⟨t, ht, et⟩ := i_ex h1
    have ht8 : t ≤ 800 := by
      rw [et] at h2
      rcases Nat.lt_or_ge 800 t with g | g
      · exact absurd ((i_lt (a := 800) (by decide) ht).mpr g) h2
      · exact g
    have ib : z_inb (M1.1 (o + 499) 8) 801 := by
      rw [et]
      exact (i_inb ht).mpr (by omega)
    rw [if_neg h2]
    unfold F_Tokens_next_J45 F_Tokens_next_J64
    rw [if_neg (by decide), if_pos ib, zl_eq, if_neg (by decide), w_slot _ (show (8 : Nat) ≠ 9 by decide), if_pos ib]
    exact end_ _ _ _
  unfold F_Tokens_next
  by_cases h : M.1 (o + 499) 7 - 1 ≤ M.1 (o + 499) 8
  · rw [if_pos h]
    exact h23 M
  · rw [if_neg h, zl_eq]
    obtain ⟨M', e, c⟩ := h23 (z_wI M (o + 499) 8 (M.1 (o + 499) 8 + 1))
    exact ⟨M', e, fun x hx => (c.1 x hx).trans (funext fun k => w_addr _ hx), fun k a b d f => (c.2.1 k a b d f).trans (w_slot _ b), c.2.2.1, fun g => by
      obtain ⟨a, b⟩ := c.2.2.2 (by rw [w_slot _ (by decide)]; exact g)
      exact ⟨a.trans (w_slot _ (by decide)), b.trans (w_slot _ (by decide))⟩⟩
theorem t_check (o : Nat) (p q : Int32) (M : z_Mem) : ∃ x M', F_Tokens_checkNumber o p q M = some (x, M') ∧ c_ks o M M' := by
  have j31 : ∃ x M', F_Tokens_checkNumber_J31 o M = some (x, M') ∧ c_ks o M M' := by
    obtain ⟨M', e, c⟩ := t_fail o 2 M
    unfold F_Tokens_checkNumber_J31
    rw [zb_ok e]
    exact ⟨_, _, rfl, c⟩
  unfold F_Tokens_checkNumber
  by_cases h1 : M.1 (o + 499) 9 = 2
  · rw [if_pos h1]
    by_cases h2 : M.1 (o + 499) 10 < p
    · rw [if_pos h2]
      exact j31
    rw [if_neg h2]
    by_cases h3 : M.1 (o + 499) 10 ≤ q
    · rw [if_pos h3]
      exact ⟨_, _, rfl, c_ks.rfl'⟩
    · rw [if_neg h3]
      exact j31
  · rw [if_neg h1]
    obtain ⟨M', e, c⟩ := t_fail o 1 M
    rw [zb_ok e]
    exact ⟨_, _, rfl, c⟩
theorem t_number (o : Nat) (p q : Int32) (M : z_Mem) : ∃ x M', F_Tokens_takeNumber o p q M = some (x, M') ∧ c_ks o M M' := by
  obtain ⟨x, M1, e, c⟩ := t_check o p q M
  obtain ⟨M2, e2, c2⟩ := t_next o M1
  unfold F_Tokens_takeNumber
  rw [zb2_ok e, zb_ok e2]
  exact ⟨_, _, rfl, c.tr c2⟩
theorem t_sign (o : Nat) (p : Int32) (M : z_Mem) : ∃ M', F_Tokens_takeSign o p M = some M' ∧ c_ks o M M' := by
  have j23 : ∃ M', F_Tokens_takeSign_J23 o M = some M' ∧ c_ks o M M' := by
    obtain ⟨M', e, c⟩ := t_fail o 1 M
    unfold F_Tokens_takeSign_J23
    rw [zb_ok e]
    exact ⟨_, rfl, c⟩
  unfold F_Tokens_takeSign
  by_cases h1 : M.1 (o + 499) 9 = 3
  · rw [if_pos h1]
    by_cases h2 : M.1 (o + 499) 10 = p
    · rw [if_pos h2]
      obtain ⟨M', e, c⟩ := t_next o M
      rw [zb_ok e]
      exact ⟨_, rfl, c⟩
    · rw [if_neg h2]
      exact j23
  · rw [if_neg h1]
    exact j23
def z_b (o : Nat) (M N : z_Mem) : Prop := M.1 (o + 499) 0 ≠ 0 ∧ N.1 (o + 548) 30 = M.1 (o + 499) 0 ∧ N.1 (o + 548) 31 = M.1 (o + 499) 1
def z_g (o : Nat) (M N : z_Mem) (T : Nat → Nat) (n q : Nat) : Prop := (M.1 (o + 499) 0 = 0 ∧ M.1 (o + 499) 1 = -1 ∧ N.1 (o + 548) 30 = 0 ∧ N.1 (o + 548) 31 = -1) ∧ x_all M o T n q ∧ y_rd N (o + 548) n T ∧ y_at N (o + 548) n T q
theorem z_b.n {o : Nat} {M N : z_Mem} (h : z_b o M N) : N.1 (o + 548) 30 ≠ 0 := by rw [h.2.1]; exact h.1
theorem z_b.c {o : Nat} {M N M' : z_Mem} (h : z_b o M N) (c : c_ks o M M') : z_b o M' N := by
  obtain ⟨a, b⟩ := c.2.2.2 h.1
  exact ⟨by rw [a]; exact h.1, h.2.1.trans a.symm, h.2.2.trans b.symm⟩
theorem z_g.le {o n q : Nat} {M N : z_Mem} {T : Nat → Nat} (h : z_g o M N T n q) : q ≤ n ∧ n ≤ 800 ∧ (q < n → x_st T q = true ∧ x_kd (T q) ≠ 0) := ⟨h.2.1.2.1, h.2.2.1.2.1, fun g => ⟨h.2.1.2.2.1 g, (x_st_iff.mp (h.2.1.2.2.1 g)).1⟩⟩
abbrev v_is (T : Nat → Nat) (n q j : Nat) : Prop := q < n ∧ x_kd (T q) = 1 ∧ w_is T q (x_en T n q - q) j
theorem v_is.one {T : Nat → Nat} {n q j k : Nat} (hj : j < 26) (hk : k < 26) (h : v_is T n q j) (h' : v_is T n q k) : j = k := w_is_one hj hk h.2.2 h'.2.2
