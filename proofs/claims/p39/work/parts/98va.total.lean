/-! ===== the class's side (out of whole, by program) ===== -/
def c_kp (o : Nat) (M M' : z_Mem) : Prop := (∀ x, x ≠ o + 499 → (x < o + 505 ∨ o + 547 ≤ x) → M'.1 x = M.1 x) ∧ (∀ k, 2 ≤ k → k ≠ 8 → k ≠ 9 → k ≠ 10 → M'.1 (o + 499) k = M.1 (o + 499) k) ∧ M'.2 = M.2 ∧ (M.1 (o + 499) 0 ≠ 0 → M'.1 (o + 499) 0 = M.1 (o + 499) 0 ∧ M'.1 (o + 499) 1 = M.1 (o + 499) 1)
theorem c_kp.rfl' {o : Nat} {M : z_Mem} : c_kp o M M := ⟨fun _ _ _ => rfl, fun _ _ _ _ _ => rfl, rfl, fun _ => ⟨rfl, rfl⟩⟩
theorem c_kp.tr {o : Nat} {M M' M'' : z_Mem} (h : c_kp o M M') (h' : c_kp o M' M'') : c_kp o M M'' := ⟨fun x hx hy => (h'.1 x hx hy).trans (h.1 x hx hy), fun k a b c d => (h'.2.1 k a b c d).trans (h.2.1 k a b c d), h'.2.2.1.trans h.2.2.1, fun g => by
  obtain ⟨a, b⟩ := h.2.2.2 g
  obtain ⟨a', b'⟩ := h'.2.2.2 (by rw [a]; exact g)
  exact ⟨a'.trans a, b'.trans b⟩⟩
theorem c_ks.kp {o : Nat} {M M' : z_Mem} (h : c_ks o M M') : c_kp o M M' := ⟨fun x hx _ => h.1 x hx, h.2⟩
/-- only what lies at o + 505 .. o + 546 changes -/
theorem c_kp.in {o : Nat} {M M' : z_Mem} (h : ∀ x, (x < o + 505 ∨ o + 547 ≤ x) → M'.1 x = M.1 x) (h2 : M'.2 = M.2) : c_kp o M M' := ⟨fun x _ hy => h x hy, fun k _ _ _ _ => by rw [h _ (by omega)], h2, fun _ => ⟨by rw [h _ (by omega)], by rw [h _ (by omega)]⟩⟩
theorem c_kp.w {o a k : Nat} {M : z_Mem} {v : Int32} (h1 : o + 505 ≤ a) (h2 : a < o + 547) : c_kp o M (z_wI M a k v) := c_kp.in (fun x hx => funext fun j => w_addr _ (by omega)) rfl
theorem z_b.kp {o : Nat} {M N M' : z_Mem} (h : z_b o M N) (c : c_kp o M M') : z_b o M' N := by
  obtain ⟨a, b⟩ := c.2.2.2 h.1
  exact ⟨by rw [a]; exact h.1, h.2.1.trans a.symm, h.2.2.trans b.symm⟩
theorem i_up {p : Int32} {b : Nat} (hb : b < 2 ^ 31) (h0 : ¬ p < 0) (h : ¬ Int32.ofNat b ≤ p) : ∃ t, t < b ∧ p = Int32.ofNat t := by
  obtain ⟨t, ht, e⟩ := i_ex h0
  refine ⟨t, ?_, e⟩
  rw [e] at h
  rcases Nat.lt_or_ge t b with g | g
  · exact g
  · exact absurd ((i_le hb ht).mpr g) h
theorem t_places (p q : Int32) (M : z_Mem) : F_Town_hasPlaces p q M = some 0 ∨ F_Town_hasPlaces p q M = some 1 ∧ ∃ a b, a < 8 ∧ b < 8 ∧ p = Int32.ofNat a ∧ q = Int32.ofNat b := by
  unfold F_Town_hasPlaces
  by_cases h1 : p < 0
  · rw [if_pos h1]
    exact Or.inl rfl
  rw [if_neg h1]
  by_cases h2 : 8 ≤ p
  · rw [if_pos h2]
    exact Or.inl rfl
  rw [if_neg h2]
  by_cases h3 : q < 0
  · rw [if_pos h3]
    exact Or.inl rfl
  rw [if_neg h3]
  by_cases h4 : 8 ≤ q
  · rw [if_pos h4]
    exact Or.inl rfl
  rw [if_neg h4]
  obtain ⟨a, ha, ea⟩ := i_up (b := 8) (by decide) h1 h2
  obtain ⟨b, hb, eb⟩ := i_up (b := 8) (by decide) h3 h4
  exact Or.inr ⟨rfl, a, b, ha, hb, ea, eb⟩
theorem i_88 {a b : Nat} (ha : a < 8) (hb : b < 8) : Int32.ofNat a * 8 + Int32.ofNat b = Int32.ofNat (8 * a + b) ∧ z_inb (Int32.ofNat (8 * a + b)) 64 ∧ (Int32.ofNat (8 * a + b)).toNatClampNeg = 8 * a + b := by
  refine ⟨?_, (i_inb (by omega)).mpr (by omega), i_cl (by omega)⟩
  rw [show (8 : Int32) = Int32.ofNat 8 from rfl, i_mul, i_add, Nat.mul_comm]
theorem t_way (a : Nat) (p q : Int32) (M : z_Mem) : ∃ x, F_Town_wayMinutes a p q M = some x := by
  unfold F_Town_wayMinutes
  rcases t_places p q M with e | ⟨e, i, j, hi, hj, rfl, rfl⟩
  · rw [zb_ok e, if_pos rfl]
    exact ⟨_, rfl⟩
  · obtain ⟨e8, ib, -⟩ := i_88 hi hj
    rw [zb_ok e, if_neg (by decide), e8, if_pos ib]
    exact ⟨_, rfl⟩
theorem t_shorten (a : Nat) (p q r : Int32) (M : z_Mem) : ∃ M', F_Town_shorten a p q r M = some M' ∧ (∀ x, x ≠ a + 1 → M'.1 x = M.1 x) ∧ M'.2 = M.2 := by
  obtain ⟨x1, e1⟩ := t_way a p r M
  obtain ⟨x2, e2⟩ := t_way a r q M
  obtain ⟨x4, e4⟩ := t_way a p q M
  unfold F_Town_shorten
  rw [zb_ok e1, zb_ok e2]
  by_cases h1 : x1 = -1
  · rw [if_pos h1]
    exact ⟨_, rfl, fun _ _ => rfl, rfl⟩
  rw [if_neg h1]
  by_cases h2 : x2 = -1
  · rw [if_pos h2]
    exact ⟨_, rfl, fun _ _ => rfl, rfl⟩
  rw [if_neg h2]
  rcases t_places p q M with e | ⟨e, i, j, hi, hj, rfl, rfl⟩
  · rw [zb_ok e, if_pos rfl]
    exact ⟨_, rfl, fun _ _ => rfl, rfl⟩
  · have j61 : ∃ M', F_Town_shorten_J61 a (Int32.ofNat i) (Int32.ofNat j) x1 x2 M = some M' ∧ (∀ x, x ≠ a + 1 → M'.1 x = M.1 x) ∧ M'.2 = M.2 := by
      obtain ⟨e8, ib, -⟩ := i_88 hi hj
      unfold F_Town_shorten_J61
      rw [e8, if_pos ib, zl_eq]
      exact ⟨_, rfl, fun x hx => funext fun k => w_addr _ hx, rfl⟩
    rw [zb_ok e, if_neg (by decide), zb_ok e4]
    by_cases h4 : x4 = -1
    · rw [if_pos h4]
      exact j61
    rw [if_neg h4]
    by_cases h5 : x4 ≤ x1 + x2
    · rw [if_pos h5]
      exact ⟨_, rfl, fun _ _ => rfl, rfl⟩
    · rw [if_neg h5]
      exact j61
theorem t_ways_j {a : Nat} {k i : Int32} {rec2 : Int32 → z_Mem → Option z_Mem} {rec10 : Int32 → Int32 → z_Mem → Option z_Mem} (h10 : ∀ M, ∃ M', rec10 k (i + 1) M = some M' ∧ (∀ x, x ≠ a + 1 → M'.1 x = M.1 x) ∧ M'.2 = M.2) : ∀ (r j f : Nat) (M : z_Mem), j + r = 8 → r < f → ∃ M', F_Town_findWays_L18 a rec2 rec10 f k i (Int32.ofNat j) M = some M' ∧ (∀ x, x ≠ a + 1 → M'.1 x = M.1 x) ∧ M'.2 = M.2 := by
  intro r
  induction r with
  | zero =>
    intro j f M hj hf
    obtain ⟨f, rfl⟩ : ∃ g, f = g + 1 := ⟨f - 1, by omega⟩
    unfold F_Town_findWays_L18 F_Town_findWays_B18
    rw [if_pos (show (8 : Int32) ≤ Int32.ofNat j from (i_le (a := 8) (by decide) (by omega)).mpr (by omega)), zl_eq]
    exact h10 M
  | succ r ih =>
    intro j f M hj hf
    obtain ⟨f, rfl⟩ : ∃ g, f = g + 1 := ⟨f - 1, by omega⟩
    have eU : F_Town_findWays_L18 a rec2 rec10 (f + 1) k i (Int32.ofNat j) M = F_Town_findWays_B18 a rec2 rec10 (F_Town_findWays_L18 a rec2 rec10 f) k i (Int32.ofNat j) M := rfl
    obtain ⟨M1, e1, c1, d1⟩ := t_shorten a i (Int32.ofNat j) k M
    rw [eU]
    unfold F_Town_findWays_B18
    rw [if_neg (show ¬ (8 : Int32) ≤ Int32.ofNat j from i_nle (a := 8) (by decide) (by omega) (by omega)), zb_ok e1, zl_eq, i_succ]
    obtain ⟨M', e, c, d⟩ := ih (j + 1) f M1 (by omega) (by omega)
    exact ⟨M', e, fun x hx => (c x hx).trans (c1 x hx), d.trans d1⟩
theorem t_ways_i {a : Nat} {k : Int32} {rec2 : Int32 → z_Mem → Option z_Mem} (h2 : ∀ M, ∃ M', rec2 (k + 1) M = some M' ∧ (∀ x, x ≠ a + 1 → M'.1 x = M.1 x) ∧ M'.2 = M.2) : ∀ (r i f : Nat) (M : z_Mem), i + r = 8 → r < f → ∃ M', F_Town_findWays_L10 a rec2 f k (Int32.ofNat i) M = some M' ∧ (∀ x, x ≠ a + 1 → M'.1 x = M.1 x) ∧ M'.2 = M.2 := by
  intro r
  induction r with
  | zero =>
    intro i f M hi hf
    obtain ⟨f, rfl⟩ : ∃ g, f = g + 1 := ⟨f - 1, by omega⟩
    have eU : F_Town_findWays_L10 a rec2 (f + 1) k (Int32.ofNat i) M = F_Town_findWays_B10 a rec2 (F_Town_findWays_L10 a rec2 f) k (Int32.ofNat i) M := rfl
    rw [eU]
    unfold F_Town_findWays_B10
    rw [if_pos (show (8 : Int32) ≤ Int32.ofNat i from (i_le (a := 8) (by decide) (by omega)).mpr (by omega)), zl_eq]
    exact h2 M
  | succ r ih =>
    intro i f M hi hf
    obtain ⟨f, rfl⟩ : ∃ g, f = g + 1 := ⟨f - 1, by omega⟩
    have eU : F_Town_findWays_L10 a rec2 (f + 1) k (Int32.ofNat i) M = F_Town_findWays_B10 a rec2 (F_Town_findWays_L10 a rec2 f) k (Int32.ofNat i) M := rfl
    rw [eU]
    unfold F_Town_findWays_B10
    rw [if_neg (show ¬ (8 : Int32) ≤ Int32.ofNat i from i_nle (a := 8) (by decide) (by omega) (by omega))]
    exact t_ways_j (fun M1 => by rw [i_succ]; exact ih (i + 1) f M1 (by omega) (by omega)) 8 0 10000 M rfl (by omega)
theorem t_ways_k {a : Nat} : ∀ (r k f : Nat) (M : z_Mem), k + r = 8 → r < f → ∃ M', F_Town_findWays_L2 a f (Int32.ofNat k) M = some M' ∧ (∀ x, x ≠ a + 1 → M'.1 x = M.1 x) ∧ M'.2 = M.2 := by
  intro r
  induction r with
  | zero =>
    intro k f M hk hf
    obtain ⟨f, rfl⟩ : ∃ g, f = g + 1 := ⟨f - 1, by omega⟩
    have eU : F_Town_findWays_L2 a (f + 1) (Int32.ofNat k) M = F_Town_findWays_B2 a (F_Town_findWays_L2 a f) (Int32.ofNat k) M := rfl
    rw [eU]
    unfold F_Town_findWays_B2
    rw [if_pos (show (8 : Int32) ≤ Int32.ofNat k from (i_le (a := 8) (by decide) (by omega)).mpr (by omega))]
    exact ⟨_, rfl, fun _ _ => rfl, rfl⟩
  | succ r ih =>
    intro k f M hk hf
    obtain ⟨f, rfl⟩ : ∃ g, f = g + 1 := ⟨f - 1, by omega⟩
    have eU : F_Town_findWays_L2 a (f + 1) (Int32.ofNat k) M = F_Town_findWays_B2 a (F_Town_findWays_L2 a f) (Int32.ofNat k) M := rfl
    rw [eU]
    unfold F_Town_findWays_B2
    rw [if_neg (show ¬ (8 : Int32) ≤ Int32.ofNat k from i_nle (a := 8) (by decide) (by omega) (by omega))]
    exact t_ways_i (fun M1 => by rw [i_succ]; exact ih (k + 1) f M1 (by omega) (by omega)) 8 0 10000 M rfl (by omega)
theorem t_findWays (a : Nat) (M : z_Mem) : ∃ M', F_Town_findWays a M = some M' ∧ (∀ x, x ≠ a + 1 → M'.1 x = M.1 x) ∧ M'.2 = M.2 := t_ways_k 8 0 10000 M rfl (by omega)
