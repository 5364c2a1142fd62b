/-! ===== PURE: the class's readers never fail ===== -/
def c_kp (o : Nat) (M M' : z_Mem) : Prop := (∀ x, x ≠ o + 499 → (x < o + 505 ∨ o + 547 ≤ x) → M'.1 x = M.1 x) ∧ (∀ k, 2 ≤ k → k ≠ 8 → k ≠ 9 → k ≠ 10 → M'.1 (o + 499) k = M.1 (o + 499) k) ∧ M'.2 = M.2 ∧ (M.1 (o + 499) 0 ≠ 0 → M'.1 (o + 499) 0 = M.1 (o + 499) 0 ∧ M'.1 (o + 499) 1 = M.1 (o + 499) 1)
theorem c_kp.rfl' {o : Nat} {M : z_Mem} : c_kp o M M := ⟨fun _ _ _ => rfl, fun _ _ _ _ _ => rfl, rfl, fun _ => ⟨rfl, rfl⟩⟩
theorem c_kp.tr {o : Nat} {M M' M'' : z_Mem} (h : c_kp o M M') (h' : c_kp o M' M'') : c_kp o M M'' := ⟨fun x hx hy => (h'.1 x hx hy).trans (h.1 x hx hy), fun k a b c d => (h'.2.1 k a b c d).trans (h.2.1 k a b c d), h'.2.2.1.trans h.2.2.1, fun g => by
  obtain ⟨a, b⟩ := h.2.2.2 g
  obtain ⟨a', b'⟩ := h'.2.2.2 (by rw [a]; exact g)
  exact ⟨a'.trans a, b'.trans b⟩⟩
theorem c_ks.kp {o : Nat} {M M' : z_Mem} (h : c_ks o M M') : c_kp o M M' := ⟨fun x hx _ => h.1 x hx, h.2⟩
/-- only what lies at o + 505 .. o + 546 changes -/
theorem c_kp.in {o : Nat} {M M' : z_Mem} (h : ∀ x, (x < o + 505 ∨ o + 547 ≤ x) → M'.1 x = M.1 x) (h2 : M'.2 = M.2) : c_kp o M M' := ⟨fun x _ hy => h x hy, fun k _ _ _ _ => by rw [h _ (by omega)], h2, fun _ => ⟨by rw [h _ (by omega)], by rw [h _ (by omega)]⟩⟩
theorem c_kp.w {o a k : Nat} {M : z_Mem} {v : Int32} (h1 : o + 505 ≤ a) (h2 : a < o + 547) : c_kp o M (z_wI M a k v) := c_kp.in (fun x hx => funext fun j => w_addr _ (by omega)) rfl
theorem z_b.kp {o : Nat} {M N M' : z_Mem} (h : z_b o M N) (c : c_kp o M M') : z_b o M' N := by
  obtain ⟨a, b⟩ := c.2.2.2 h.1
  exact ⟨by rw [a]; exact h.1, h.2.1.trans a.symm, h.2.2.trans b.symm⟩
/-- the whole of a reader fails nowhere -/
def t_ok (o : Nat) (F : z_Mem → Option z_Mem) : Prop := ∀ M, ∃ M', F M = some M' ∧ c_kp o M M'
theorem i_up {p : Int32} {b : Nat} (hb : b < 2 ^ 31) (h0 : ¬ p < 0) (h : ¬ Int32.ofNat b ≤ p) : ∃ t, t < b ∧ p = Int32.ofNat t := by
  obtain ⟨t, ht, e⟩ := i_ex h0
  refine ⟨t, ?_, e⟩
  rw [e] at h
  rcases Nat.lt_or_ge t b with g | g
  · exact g
  · exact absurd ((i_le hb ht).mpr g) h
theorem t_places (p q : Int32) (M : z_Mem) : F_Town_hasPlaces p q M = some 0 ∨ F_Town_hasPlaces p q M = some 1 ∧ ∃ a b, a < 8 ∧ b < 8 ∧ p = Int32.ofNat a ∧ q = Int32.ofNat b := by
  unfold F_Town_hasPlaces
  by_cases h1 : p < 0
  · rw [if_pos h1]
    exact Or.inl rfl
  rw [if_neg h1]
  by_cases h2 : 8 ≤ p
  · rw [if_pos h2]
    exact Or.inl rfl
  rw [if_neg h2]
  by_cases h3 : q < 0
  · rw [if_pos h3]
    exact Or.inl rfl
  rw [if_neg h3]
  by_cases h4 : 8 ≤ q
  · rw [if_pos h4]
    exact Or.inl rfl
  rw [if_neg h4]
  obtain ⟨a, ha, ea⟩ := i_up (b := 8) (by decide) h1 h2
  obtain ⟨b, hb, eb⟩ := i_up (b := 8) (by decide) h3 h4
  exact Or.inr ⟨rfl, a, b, ha, hb, ea, eb⟩
theorem i_88 {a b : Nat} (ha : a < 8) (hb : b < 8) : Int32.ofNat a * 8 + Int32.ofNat b = Int32.ofNat (8 * a + b) ∧ z_inb (Int32.ofNat (8 * a + b)) 64 ∧ (Int32.ofNat (8 * a + b)).toNatClampNeg = 8 * a + b := by
  refine ⟨?_, (i_inb (by omega)).mpr (by omega), i_cl (by omega)⟩
  rw [show (8 : Int32) = Int32.ofNat 8 from rfl, i_mul, i_add, Nat.mul_comm]
theorem t_way (a : Nat) (p q : Int32) (M : z_Mem) : ∃ x, F_Town_wayMinutes a p q M = some x := by
  unfold F_Town_wayMinutes
  rcases t_places p q M with e | ⟨e, i, j, hi, hj, rfl, rfl⟩
  · rw [zb_ok e, if_pos rfl]
    exact ⟨_, rfl⟩
  · obtain ⟨e8, ib, -⟩ := i_88 hi hj
    rw [zb_ok e, if_neg (by decide), e8, if_pos ib]
    exact ⟨_, rfl⟩
theorem t_addRoad (a : Nat) (p q v : Int32) (M : z_Mem) : ∃ M', F_Town_addRoad a p q v M = some M' ∧ (∀ x, x ≠ a → x ≠ a + 1 → M'.1 x = M.1 x) ∧ M'.2 = M.2 := by
  unfold F_Town_addRoad
  rcases t_places p q M with e | ⟨e, i, j, hi, hj, rfl, rfl⟩
  · rw [zb_ok e, if_pos rfl]
    exact ⟨_, rfl, fun _ _ _ => rfl, rfl⟩
  · obtain ⟨e8, ib, -⟩ := i_88 hi hj
    obtain ⟨e8', ib', -⟩ := i_88 hj hi
    rw [zb_ok e, if_neg (by decide), zl_eq, e8, if_pos ib, zl_eq, e8', if_pos ib', zl_eq]
    exact ⟨_, rfl, fun x h1 h2 => funext fun k => (w_addr _ h2).trans ((w_addr _ h2).trans (w_addr _ h1)), rfl⟩
theorem t_shorten (a : Nat) (p q r : Int32) (M : z_Mem) : ∃ M', F_Town_shorten a p q r M = some M' ∧ (∀ x, x ≠ a + 1 → M'.1 x = M.1 x) ∧ M'.2 = M.2 := by
  obtain ⟨x1, e1⟩ := t_way a p r M
  obtain ⟨x2, e2⟩ := t_way a r q M
  obtain ⟨x4, e4⟩ := t_way a p q M
  unfold F_Town_shorten
  rw [zb_ok e1, zb_ok e2]
  by_cases h1 : x1 = -1
  · rw [if_pos h1]
    exact ⟨_, rfl, fun _ _ => rfl, rfl⟩
  rw [if_neg h1]
  by_cases h2 : x2 = -1
  · rw [if_pos h2]
    exact ⟨_, rfl, fun _ _ => rfl, rfl⟩
  rw [if_neg h2]
  rcases t_places p q M with e | ⟨e, i, j, hi, hj, rfl, rfl⟩
  · rw [zb_ok e, if_pos rfl]
    exact ⟨_, rfl, fun _ _ => rfl, rfl⟩
  · have j61 : ∃ M', F_Town_shorten_J61 a (Int32.ofNat i) (Int32.ofNat j) x1 x2 M = some M' ∧ (∀ x, x ≠ a + 1 → M'.1 x = M.1 x) ∧ M'.2 = M.2 := by
      obtain ⟨e8, ib, -⟩ := i_88 hi hj
      unfold F_Town_shorten_J61
      rw [e8, if_pos ib, zl_eq]
      exact ⟨_, rfl, fun x hx => funext fun k => w_addr _ hx, rfl⟩
    rw [zb_ok e, if_neg (by decide), zb_ok e4]
    by_cases h4 : x4 = -1
    · rw [if_pos h4]
      exact j61
    rw [if_neg h4]
    by_cases h5 : x4 ≤ x1 + x2
    · rw [if_pos h5]
      exact ⟨_, rfl, fun _ _ => rfl, rfl⟩
    · rw [if_neg h5]
      exact j61
theorem t_ways_j {a : Nat} {k i : Int32} {rec2 : Int32 → z_Mem → Option z_Mem} {rec10 : Int32 → Int32 → z_Mem → Option z_Mem} (h10 : ∀ M, ∃ M', rec10 k (i + 1) M = some M' ∧ (∀ x, x ≠ a + 1 → M'.1 x = M.1 x) ∧ M'.2 = M.2) : ∀ (r j f : Nat) (M : z_Mem), j + r = 8 → r < f → ∃ M', F_Town_findWays_L18 a rec2 rec10 f k i (Int32.ofNat j) M = some M' ∧ (∀ x, x ≠ a + 1 → M'.1 x = M.1 x) ∧ M'.2 = M.2 := by
  intro r
  induction r with
  | zero =>
    intro j f M hj hf
    obtain ⟨f, rfl⟩ : ∃ g, f = g + 1 := ⟨f - 1, by omega⟩
    unfold F_Town_findWays_L18 F_Town_findWays_B18
    rw [if_pos (show (8 : Int32) ≤ Int32.ofNat j from (i_le (a := 8) (by decide) (by omega)).mpr (by omega)), zl_eq]
    exact h10 M
  | succ r ih =>
    intro j f M hj hf
    obtain ⟨f, rfl⟩ : ∃ g, f = g + 1 := ⟨f - 1, by omega⟩
    have eU : F_Town_findWays_L18 a rec2 rec10 (f + 1) k i (Int32.ofNat j) M = F_Town_findWays_B18 a rec2 rec10 (F_Town_findWays_L18 a rec2 rec10 f) k i (Int32.ofNat j) M := rfl
    obtain ⟨M1, e1, c1, d1⟩ := t_shorten a i (Int32.ofNat j) k M
    rw [eU]
    unfold F_Town_findWays_B18
    rw [if_neg (show ¬ (8 : Int32) ≤ Int32.ofNat j from i_nle (a := 8) (by decide) (by omega) (by omega)), zb_ok e1, zl_eq, i_succ]
    obtain ⟨M', e, c, d⟩ := ih (j + 1) f M1 (by omega) (by omega)
    exact ⟨M', e, fun x hx => (c x hx).trans (c1 x hx), d.trans d1⟩
theorem t_ways_i {a : Nat} {k : Int32} {rec2 : Int32 → z_Mem → Option z_Mem} (h2 : ∀ M, ∃ M', rec2 (k + 1) M = some M' ∧ (∀ x, x ≠ a + 1 → M'.1 x = M.1 x) ∧ M'.2 = M.2) : ∀ (r i f : Nat) (M : z_Mem), i + r = 8 → r < f → ∃ M', F_Town_findWays_L10 a rec2 f k (Int32.ofNat i) M = some M' ∧ (∀ x, x ≠ a + 1 → M'.1 x = M.1 x) ∧ M'.2 = M.2 := by
  intro r
  induction r with
  | zero =>
    intro i f M hi hf
    obtain ⟨f, rfl⟩ : ∃ g, f = g + 1 := ⟨f - 1, by omega⟩
    have eU : F_Town_findWays_L10 a rec2 (f + 1) k (Int32.ofNat i) M = F_Town_findWays_B10 a rec2 (F_Town_findWays_L10 a rec2 f) k (Int32.ofNat i) M := rfl
    rw [eU]
    unfold F_Town_findWays_B10
    rw [if_pos (show (8 : Int32) ≤ Int32.ofNat i from (i_le (a := 8) (by decide) (by omega)).mpr (by omega)), zl_eq]
    exact h2 M
  | succ r ih =>
    intro i f M hi hf
    obtain ⟨f, rfl⟩ : ∃ g, f = g + 1 := ⟨f - 1, by omega⟩
    have eU : F_Town_findWays_L10 a rec2 (f + 1) k (Int32.ofNat i) M = F_Town_findWays_B10 a rec2 (F_Town_findWays_L10 a rec2 f) k (Int32.ofNat i) M := rfl
    rw [eU]
    unfold F_Town_findWays_B10
    rw [if_neg (show ¬ (8 : Int32) ≤ Int32.ofNat i from i_nle (a := 8) (by decide) (by omega) (by omega))]
    exact t_ways_j (fun M1 => by rw [i_succ]; exact ih (i + 1) f M1 (by omega) (by omega)) 8 0 10000 M rfl (by omega)
theorem t_ways_k {a : Nat} : ∀ (r k f : Nat) (M : z_Mem), k + r = 8 → r < f → ∃ M', F_Town_findWays_L2 a f (Int32.ofNat k) M = some M' ∧ (∀ x, x ≠ a + 1 → M'.1 x = M.1 x) ∧ M'.2 = M.2 := by
  intro r
  induction r with
  | zero =>
    intro k f M hk hf
    obtain ⟨f, rfl⟩ : ∃ g, f = g + 1 := ⟨f - 1, by omega⟩
    have eU : F_Town_findWays_L2 a (f + 1) (Int32.ofNat k) M = F_Town_findWays_B2 a (F_Town_findWays_L2 a f) (Int32.ofNat k) M := rfl
    rw [eU]
    unfold F_Town_findWays_B2
    rw [if_pos (show (8 : Int32) ≤ Int32.ofNat k from (i_le (a := 8) (by decide) (by omega)).mpr (by omega))]
    exact ⟨_, rfl, fun _ _ => rfl, rfl⟩
  | succ r ih =>
    intro k f M hk hf
    obtain ⟨f, rfl⟩ : ∃ g, f = g + 1 := ⟨f - 1, by omega⟩
    have eU : F_Town_findWays_L2 a (f + 1) (Int32.ofNat k) M = F_Town_findWays_B2 a (F_Town_findWays_L2 a f) (Int32.ofNat k) M := rfl
    rw [eU]
    unfold F_Town_findWays_B2
    rw [if_neg (show ¬ (8 : Int32) ≤ Int32.ofNat k from i_nle (a := 8) (by decide) (by omega) (by omega))]
    exact t_ways_i (fun M1 => by rw [i_succ]; exact ih (k + 1) f M1 (by omega) (by omega)) 8 0 10000 M rfl (by omega)
theorem t_findWays (a : Nat) (M : z_Mem) : ∃ M', F_Town_findWays a M = some M' ∧ (∀ x, x ≠ a + 1 → M'.1 x = M.1 x) ∧ M'.2 = M.2 := t_ways_k 8 0 10000 M rfl (by omega)
/-! the clauses -/
theorem t_road57 (o : Nat) (p q : Int32) : t_ok o (F_TextReader_readRoad_J57 o p q) := fun M => by
  obtain ⟨M1, e1, c1⟩ := t_next o M
  obtain ⟨x, M2, e2, c2⟩ := t_number o 1 99 M1
  obtain ⟨M3, e3, c3, d3⟩ := t_addRoad (o + 505) p q x M2
  unfold F_TextReader_readRoad_J57
  rw [zb_ok e1, zb2_ok e2, zb_ok e3]
  exact ⟨_, rfl, c1.kp.tr (c2.kp.tr (c_kp.in (fun x hx => c3 x (by omega) (by omega)) d3))⟩
theorem t_road2 (o : Nat) (x2 : Int32) (M1 : z_Mem) : ∃ M', (zb2 (F_Tokens_checkNumber o 0 ((M1.1 (o + 505) 0) - 1) M1) fun x4 M3 => zb (F_Town_wayMinutes (o + 505) x2 x4 M3) fun x5 => if x5 = (-1) then F_TextReader_readRoad_J57 o x2 x4 M3 else zb (F_Tokens_fail o 4 M3) fun M6 => F_TextReader_readRoad_J57 o x2 x4 M6) = some M' ∧ c_kp o M1 M' := by
  obtain ⟨x4, M3, e3, c3⟩ := t_check o 0 ((M1.1 (o + 505) 0) - 1) M1
  obtain ⟨x5, e5⟩ := t_way (o + 505) x2 x4 M3
  rw [zb2_ok e3, zb_ok e5]
  by_cases h : x5 = -1
  · rw [if_pos h]
    obtain ⟨M', e, c⟩ := t_road57 o x2 x4 M3
    exact ⟨M', e, c3.kp.tr c⟩
  · rw [if_neg h]
    obtain ⟨M6, e6, c6⟩ := t_fail o 4 M3
    obtain ⟨M', e, c⟩ := t_road57 o x2 x4 M6
    rw [zb_ok e6]
    exact ⟨M', e, c3.kp.tr (c6.kp.tr c)⟩
theorem t_road (o : Nat) : t_ok o (F_TextReader_readRoad o) := fun M => by
  obtain ⟨x2, M1, e1, c1⟩ := t_number o 0 ((M.1 (o + 505) 0) - 1) M
  obtain ⟨M', e, c⟩ := t_road2 o x2 M1
  unfold F_TextReader_readRoad
  rw [zb2_ok e1]
  exact ⟨M', e, c1.kp.tr c⟩
theorem t_changeRule (d : Nat) (p v : Int32) (M : z_Mem) : ∃ M', F_Desk_changeRule d p v M = some M' ∧ (∀ x, x ≠ d + 1 → M'.1 x = M.1 x) ∧ M'.2 = M.2 := by
  unfold F_Desk_changeRule
  by_cases h1 : p < 0
  · rw [if_pos h1]
    exact ⟨_, rfl, fun _ _ => rfl, rfl⟩
  rw [if_neg h1]
  by_cases h2 : 10 ≤ p
  · rw [if_pos h2]
    exact ⟨_, rfl, fun _ _ => rfl, rfl⟩
  obtain ⟨t, ht, rfl⟩ := i_up (b := 10) (by decide) h1 h2
  rw [if_neg h2, if_pos ((i_inb (by omega)).mpr ht), zl_eq]
  exact ⟨_, rfl, fun x hx => funext fun k => w_addr _ hx, rfl⟩
theorem t_ruleV (o : Nat) (p : Int32) : t_ok o (F_TextReader_readRuleValue o p) := fun M => by
  unfold F_TextReader_readRuleValue
  by_cases h1 : p < 0
  · rw [if_pos h1]
    exact ⟨_, rfl, c_kp.rfl'⟩
  rw [if_neg h1]
  by_cases h2 : 10 ≤ p
  · rw [if_pos h2]
    exact ⟨_, rfl, c_kp.rfl'⟩
  obtain ⟨t, ht, rfl⟩ := i_up (b := 10) (by decide) h1 h2
  have ib : z_inb (Int32.ofNat t) 10 := (i_inb (by omega)).mpr ht
  rw [if_neg h2, if_pos ib, if_pos ib]
  obtain ⟨x, M1, e1, c1⟩ := t_number o (z_sv 1 (Int32.ofNat t).toNatClampNeg) (z_sv 2 (Int32.ofNat t).toNatClampNeg) M
  obtain ⟨M3, e3, c3, d3⟩ := t_changeRule (o + 507) (Int32.ofNat t) x M1
  rw [zb2_ok e1, zb_ok e3]
  exact ⟨_, rfl, c1.kp.tr (c_kp.in (fun x hx => c3 x (by omega)) d3)⟩
theorem t_startShift (a : Nat) (p0 p1 p2 p3 : Int32) (M : z_Mem) : ∃ M', F_Taxi_startShift a p0 p1 p2 p3 M = some M' ∧ (M'.1 a 0 = p0 ∧ M'.1 a 1 = p1 ∧ M'.1 a 2 = p2 ∧ M'.1 a 3 = p2 ∧ M'.1 a 4 = p3 ∧ M'.1 a 5 = 0 ∧ M'.1 a 6 = -1 ∧ M'.1 a 7 = 0 ∧ M'.1 a 8 = 0 ∧ ∀ k, 11 ≤ k → k ≤ 16 → M'.1 a k = 0) ∧ (∀ x, x ≠ a → M'.1 x = M.1 x) ∧ M'.2 = M.2 := by
  unfold F_Taxi_startShift
  simp only [zl_eq]
  refine ⟨_, rfl, ?_, fun x hx => funext fun k => ?_, rfl⟩
  · refine ⟨?_, ?_, ?_, ?_, ?_, ?_, ?_, ?_, ?_, fun k h1 h2 => ?_⟩
    · repeat (first | exact w_same _ _ _ _ | rw [w_slot _ (by decide)])
    · repeat (first | exact w_same _ _ _ _ | rw [w_slot _ (by decide)])
    · repeat (first | exact w_same _ _ _ _ | rw [w_slot _ (by decide)])
    · repeat (first | exact w_same _ _ _ _ | rw [w_slot _ (by decide)])
    · repeat (first | exact w_same _ _ _ _ | rw [w_slot _ (by decide)])
    · repeat (first | exact w_same _ _ _ _ | rw [w_slot _ (by decide)])
    · repeat (first | exact w_same _ _ _ _ | rw [w_slot _ (by decide)])
    · repeat (first | exact w_same _ _ _ _ | rw [w_slot _ (by decide)])
    · repeat (first | exact w_same _ _ _ _ | rw [w_slot _ (by decide)])
    · rcases (show k = 11 ∨ k = 12 ∨ k = 13 ∨ k = 14 ∨ k = 15 ∨ k = 16 by omega) with rfl | rfl | rfl | rfl | rfl | rfl <;> repeat (first | exact w_same _ _ _ _ | rw [w_slot _ (by decide)])
  · simp only [w_addr _ hx]
theorem t_taxi68 (o : Nat) (a b c d : Int32) : t_ok o (F_TextReader_readTaxi_J68 o a b c d) := fun M => by
  obtain ⟨M1, e1, c1⟩ := t_next o M
  unfold F_TextReader_readTaxi_J68
  rw [zb_ok e1]
  by_cases h1 : M1.1 (o + 507) 3 < 0
  · rw [if_pos h1]
    exact ⟨_, rfl, c1.kp⟩
  rw [if_neg h1]
  by_cases h2 : 4 ≤ M1.1 (o + 507) 3
  · rw [if_pos h2]
    exact ⟨_, rfl, c1.kp⟩
  obtain ⟨t, ht, et⟩ := i_up (b := 4) (by decide) h1 h2
  rw [if_neg h2, et, if_pos ((i_inb (by omega)).mpr ht), zl_eq, i_cl (by omega)]
  obtain ⟨M2, e2, -, c2, d2⟩ := t_startShift (o + 507 + 4 + 3 * t) a b c d M1
  rw [zb_ok e2, zl_eq]
  exact ⟨_, rfl, c1.kp.tr ((c_kp.in (fun x hx => c2 x (by omega)) d2).tr (c_kp.w (by omega) (by omega)))⟩
theorem t_taxiA (o : Nat) (x2 x4 x6 : Int32) : t_ok o (fun M5 => zb2 (F_Tokens_checkNumber o 0 2879 M5) fun x8 M7 => if x6 < x8 then F_TextReader_readTaxi_J68 o x2 x4 x6 x8 M7 else zb (F_Tokens_fail o 4 M7) fun M9 => F_TextReader_readTaxi_J68 o x2 x4 x6 x8 M9) := fun M5 => by
  obtain ⟨x8, M7, e7, c7⟩ := t_check o 0 2879 M5
  show ∃ M', (zb2 (F_Tokens_checkNumber o 0 2879 M5) fun x8 M7 => if x6 < x8 then F_TextReader_readTaxi_J68 o x2 x4 x6 x8 M7 else zb (F_Tokens_fail o 4 M7) fun M9 => F_TextReader_readTaxi_J68 o x2 x4 x6 x8 M9) = some M' ∧ _
  rw [zb2_ok e7]
  by_cases h : x6 < x8
  · rw [if_pos h]
    obtain ⟨M', e, c⟩ := t_taxi68 o x2 x4 x6 x8 M7
    exact ⟨M', e, c7.kp.tr c⟩
  · rw [if_neg h]
    obtain ⟨M9, e9, c9⟩ := t_fail o 4 M7
    obtain ⟨M', e, c⟩ := t_taxi68 o x2 x4 x6 x8 M9
    rw [zb_ok e9]
    exact ⟨M', e, c7.kp.tr (c9.kp.tr c)⟩
theorem t_taxiB (o : Nat) (x2 x4 : Int32) : t_ok o (fun M3 => zb2 (F_Tokens_takeNumber o 0 2879 M3) fun x6 M5 => zb2 (F_Tokens_checkNumber o 0 2879 M5) fun x8 M7 => if x6 < x8 then F_TextReader_readTaxi_J68 o x2 x4 x6 x8 M7 else zb (F_Tokens_fail o 4 M7) fun M9 => F_TextReader_readTaxi_J68 o x2 x4 x6 x8 M9) := fun M3 => by
  obtain ⟨x6, M5, e5, c5⟩ := t_number o 0 2879 M3
  obtain ⟨M', e, c⟩ := t_taxiA o x2 x4 x6 M5
  exact ⟨M', (zb2_ok e5 _).trans e, c5.kp.tr c⟩
theorem t_taxiC (o : Nat) (x2 : Int32) : t_ok o (fun M1 => zb2 (F_Tokens_takeNumber o 0 ((M1.1 (o + 505) 0) - 1) M1) fun x4 M3 => zb2 (F_Tokens_takeNumber o 0 2879 M3) fun x6 M5 => zb2 (F_Tokens_checkNumber o 0 2879 M5) fun x8 M7 => if x6 < x8 then F_TextReader_readTaxi_J68 o x2 x4 x6 x8 M7 else zb (F_Tokens_fail o 4 M7) fun M9 => F_TextReader_readTaxi_J68 o x2 x4 x6 x8 M9) := fun M1 => by
  obtain ⟨x4, M3, e3, c3⟩ := t_number o 0 ((M1.1 (o + 505) 0) - 1) M1
  obtain ⟨M', e, c⟩ := t_taxiB o x2 x4 M3
  exact ⟨M', (zb2_ok e3 _).trans e, c3.kp.tr c⟩
theorem t_taxi (o : Nat) : t_ok o (F_TextReader_readTaxi o) := fun M => by
  obtain ⟨x2, M1, e1, c1⟩ := t_number o 1 6 M
  obtain ⟨M', e, c⟩ := t_taxiC o x2 M1
  exact ⟨M', (zb2_ok e1 _).trans e, c1.kp.tr c⟩
theorem t_end (o : Nat) : t_ok o (F_TextReader_readClause_J167 o) := fun M => by
  obtain ⟨M1, e1, c1⟩ := t_sign o 59 M
  unfold F_TextReader_readClause_J167
  rw [zb_ok e1]
  exact ⟨_, rfl, c1.kp⟩
theorem t_then {o : Nat} {F G : z_Mem → Option z_Mem} (hF : t_ok o F) (hG : t_ok o G) : t_ok o (fun M => zb (F M) G) := fun M => by
  obtain ⟨M1, e1, c1⟩ := hF M
  obtain ⟨M2, e2, c2⟩ := hG M1
  exact ⟨M2, (zb_ok e1 _).trans e2, c1.tr c2⟩
theorem t_tariffB (o : Nat) : t_ok o (fun M14 => zb2 (F_Tokens_takeNumber o 0 999 M14) fun x16 M15 => zl (z_wI M15 (o + 507) 2 x16) fun M17 => F_TextReader_readClause_J167 o M17) := fun M => by
  obtain ⟨x, M1, e1, c1⟩ := t_number o 0 999 M
  obtain ⟨M2, e2, c2⟩ := t_end o (z_wI M1 (o + 507) 2 x)
  refine ⟨M2, ?_, c1.kp.tr ((c_kp.w (by omega) (by omega)).tr c2)⟩
  show zb2 (F_Tokens_takeNumber o 0 999 M) (fun x16 M15 => zl (z_wI M15 (o + 507) 2 x16) fun M17 => F_TextReader_readClause_J167 o M17) = some M2
  rw [zb2_ok e1, zl_eq]
  exact e2
theorem t_tariff (o : Nat) : t_ok o (fun M3 => zb2 (F_Tokens_takeNumber o 0 9999 M3) fun x13 M12 => zl (z_wI M12 (o + 507) 1 x13) fun M14 => zb2 (F_Tokens_takeNumber o 0 999 M14) fun x16 M15 => zl (z_wI M15 (o + 507) 2 x16) fun M17 => F_TextReader_readClause_J167 o M17) := fun M => by
  obtain ⟨x, M1, e1, c1⟩ := t_number o 0 9999 M
  obtain ⟨M2, e2, c2⟩ := t_tariffB o (z_wI M1 (o + 507) 1 x)
  refine ⟨M2, ?_, c1.kp.tr ((c_kp.w (by omega) (by omega)).tr c2)⟩
  show zb2 (F_Tokens_takeNumber o 0 9999 M) (fun x13 M12 => zl (z_wI M12 (o + 507) 1 x13) fun M14 => zb2 (F_Tokens_takeNumber o 0 999 M14) fun x16 M15 => zl (z_wI M15 (o + 507) 2 x16) fun M17 => F_TextReader_readClause_J167 o M17) = some M2
  rw [zb2_ok e1, zl_eq]
  exact e2
theorem t_clause30 (o : Nat) : t_ok o (F_TextReader_readClause_J30 o) := fun M => by
  obtain ⟨x4, M3, e3, c3⟩ := t_takeWord o 1 5 M
  unfold F_TextReader_readClause_J30
  rw [zb2_ok e3]
  have fin : ∀ F, t_ok o F → ∃ M', F M3 = some M' ∧ c_kp o M M' := fun F hF => by
    obtain ⟨M', e, c⟩ := hF M3
    exact ⟨M', e, c3.kp.tr c⟩
  by_cases h1 : x4 = 1
  · rw [if_pos h1]
    exact fin _ (t_then (t_road o) (t_end o))
  rw [if_neg h1]
  by_cases h2 : x4 = 2
  · rw [if_pos h2]
    exact fin _ (t_tariff o)
  rw [if_neg h2]
  by_cases h3 : x4 = 3
  · rw [if_pos h3]
    obtain ⟨x, M9, e9, c9⟩ := t_number o 2 4 M3
    obtain ⟨M', e, c⟩ := t_then (t_ruleV o ((7 + x) - 2)) (t_end o) M9
    rw [zb2_ok e9]
    exact ⟨M', e, c3.kp.tr (c9.kp.tr c)⟩
  rw [if_neg h3]
  by_cases h4 : x4 = 4
  · rw [if_pos h4]
    obtain ⟨x, M6, e6, c6⟩ := t_takeWord o 14 20 M3
    obtain ⟨M', e, c⟩ := t_then (t_ruleV o (x - 14)) (t_end o) M6
    rw [zb2_ok e6]
    exact ⟨M', e, c3.kp.tr (c6.kp.tr c)⟩
  rw [if_neg h4]
  by_cases h5 : x4 = 5
  · rw [if_pos h5]
    exact fin _ (t_then (t_taxi o) (t_end o))
  rw [if_neg h5]
  exact fin _ (t_end o)
theorem t_clause (o : Nat) : t_ok o (F_TextReader_readClause o) := fun M => by
  obtain ⟨x1, e1⟩ := t_isWord o 5 M
  unfold F_TextReader_readClause
  rw [zb_ok e1]
  by_cases h : x1 = 0
  · rw [if_pos h]
    exact t_clause30 o M
  rw [if_neg h]
  by_cases h2 : M.1 (o + 507) 3 < 4
  · rw [if_pos h2]
    exact t_clause30 o M
  · rw [if_neg h2]
    obtain ⟨M2, e2, c2⟩ := t_fail o 3 M
    obtain ⟨M', e, c⟩ := t_clause30 o M2
    rw [zb_ok e2]
    exact ⟨M', e, c2.kp.tr c⟩
