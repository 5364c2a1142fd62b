/-! ===== the class's side (out of whole, by program) ===== -/
theorem x_vl_le {T : Nat → Nat} (hT : ∀ k, T k < 256) : ∀ i, x_vl T i ≤ 1000000
  | 0 => by
    have := hT 0
    unfold x_vl
    split <;> omega
  | i + 1 => by
    have := hT (i + 1)
    unfold x_vl
    split
    · split
      · omega
      · exact Nat.min_le_left _ _
    · omega
/-- the token to which a byte belongs -/
theorem x_ow_spec {T : Nat → Nat} {n : Nat} : ∀ i, i < n → x_kd (T i) ≠ 0 → x_st T (x_ow T i) = true ∧ x_ow T i ≤ i ∧ i < x_en T n (x_ow T i) ∧ x_cn T (i + 1) = x_cn T (x_ow T i) + 1 ∧ (x_st T i = false → x_ow T i < i)
  | 0, hn, hk => by
    have hs : x_st T 0 = true := x_st_iff.mpr ⟨hk, Or.inr (Or.inl rfl)⟩
    exact ⟨hs, Nat.le_refl _, (x_en_spec hn).1, x_cn_st hs, fun h => by rw [hs] at h; cases h⟩
  | i + 1, hn, hk => by
    by_cases hs : x_st T (i + 1) = true
    · have e : x_ow T (i + 1) = i + 1 := if_pos hs
      rw [e]
      exact ⟨hs, Nat.le_refl _, (x_en_spec hn).1, x_cn_st hs, fun h => by rw [hs] at h; cases h⟩
    · have e : x_ow T (i + 1) = x_ow T i := if_neg hs
      have n3 : x_kd (T (i + 1)) ≠ 3 := fun g => hs (x_st_iff.mpr ⟨hk, Or.inl g⟩)
      have same : x_kd (T i) = x_kd (T (i + 1)) := by
        rcases Nat.decEq (x_kd (T i)) (x_kd (T (i + 1))) with g | g
        · exact absurd (x_st_iff.mpr ⟨hk, Or.inr (Or.inr g)⟩) hs
        · exact g
      obtain ⟨h1, h2, h3, h4, -⟩ := x_ow_spec (T := T) (n := n) i (by omega) (by rw [same]; exact hk)
      obtain ⟨e1, e2, e3, e4, e5⟩ := x_en_spec (T := T) (n := n) (q := x_ow T i) (by omega)
      have hq := e3 i h2 h3
      rw [e]
      refine ⟨h1, by omega, ?_, ?_, fun _ => by omega⟩
      · rcases Nat.lt_or_ge (i + 1) (x_en T n (x_ow T i)) with g | g
        · exact g
        · have ee : x_en T n (x_ow T i) = i + 1 := by omega
          rw [ee] at e4
          have := e4 hn (same.symm.trans hq)
          exact absurd (same.symm.trans (hq.trans this)) n3
      · show x_cn T (i + 1) + (if x_st T (i + 1) then 1 else 0) = _
        rw [if_neg hs, h4]
theorem c_append {o j k p : Nat} {M : z_Mem} (h7 : M.1 (o + 499) 7 = Int32.ofNat j) (hj : j ≤ 800) : ∃ M', F_Tokens_appendToken o (Int32.ofNat k) (Int32.ofNat p) M = some M' ∧ M'.1 (o + 499) 7 = Int32.ofNat (j + 1) ∧ (∀ k', k' ≠ 7 → M'.1 (o + 499) k' = M.1 (o + 499) k') ∧ (M'.1 (o + 500) j = Int32.ofNat k ∧ M'.1 (o + 501) j = Int32.ofNat p ∧ M'.1 (o + 502) j = Int32.ofNat 0 ∧ M'.1 (o + 503) j = Int32.ofNat 0) ∧ (∀ x j', j' ≠ j → x ≠ o + 499 → M'.1 x j' = M.1 x j') ∧ (∀ x, (x < o + 499 ∨ o + 504 ≤ x) → M'.1 x = M.1 x) ∧ M'.2 = M.2 := by
  have ib : z_inb (Int32.ofNat j) 801 := (i_inb (by omega)).mpr (by omega)
  have cj : (Int32.ofNat j).toNatClampNeg = j := i_cl (by omega)
  unfold F_Tokens_appendToken
  rw [h7, if_neg (i_nn (by omega)), if_neg (show ¬ (800 : Int32) < Int32.ofNat j from fun q => by have := (i_lt (a := 800) (by decide) (by omega)).mp q; omega), if_pos ib]
  simp only [zl]
  have s7 : ∀ (N : z_Mem) x a v, x ≠ o + 499 → N.1 (o + 499) 7 = Int32.ofNat j → (z_wI N x a v).1 (o + 499) 7 = Int32.ofNat j := fun N x a v hx hN => (w_addr _ (Ne.symm hx)).trans hN
  have a1 := s7 M (o + 500) (Int32.ofNat j).toNatClampNeg (Int32.ofNat k) (by omega) h7
  rw [a1, if_pos ib]
  have a2 := s7 _ (o + 501) (Int32.ofNat j).toNatClampNeg (Int32.ofNat p) (by omega) a1
  rw [a2, if_pos ib]
  have a3 := s7 _ (o + 502) (Int32.ofNat j).toNatClampNeg 0 (by omega) a2
  rw [a3, if_pos ib]
  have a4 := s7 _ (o + 503) (Int32.ofNat j).toNatClampNeg 0 (by omega) a3
  rw [a4, i_succ]
  refine ⟨_, rfl, w_same _ _ _ _, fun k' hk => ?_, ⟨?_, ?_, ?_, ?_⟩, fun x j' hj' hx => ?_, fun x hx => funext fun a => ?_, rfl⟩
  · rw [w_slot _ hk, w_addr _ (by omega), w_addr _ (by omega), w_addr _ (by omega), w_addr _ (by omega)]
  · rw [w_addr _ (by omega), w_addr _ (by omega), w_addr _ (by omega), w_addr _ (by omega), cj, w_same]
  · rw [w_addr _ (by omega), w_addr _ (by omega), w_addr _ (by omega), cj, w_same]
  · rw [w_addr _ (by omega), w_addr _ (by omega), cj, w_same]
    rfl
  · rw [w_addr _ (by omega), cj, w_same]
    rfl
  · rw [w_addr _ hx, cj]
    have st : ∀ (N : z_Mem) y v, (z_wI N y j v).1 x j' = N.1 x j' := fun N y v => by
      by_cases hy : x = y
      · rw [← hy, w_slot _ hj']
      · exact w_addr _ hy
    rw [st, st, st, st]
  · rw [w_addr _ (by omega), w_addr _ (by omega), w_addr _ (by omega), w_addr _ (by omega), w_addr _ (by omega)]
theorem c_extend {o j k l v t : Nat} {M : z_Mem} (h7 : M.1 (o + 499) 7 = Int32.ofNat (j + 1)) (hj : j ≤ 800) (hk : M.1 (o + 500) j = Int32.ofNat k) (hl : M.1 (o + 502) j = Int32.ofNat l) (hv : M.1 (o + 503) j = Int32.ofNat v) (k4 : k < 4) (hv6 : v ≤ 1000000) (ht : t < 256) (h48 : k = 2 → 48 ≤ t) : ∃ M', F_Tokens_extendToken o (Int32.ofNat t) M = some M' ∧ M'.1 (o + 502) j = Int32.ofNat (l + 1) ∧ M'.1 (o + 503) j = Int32.ofNat (if k = 2 then min 1000000 (10 * v + t - 48) else t) ∧ (∀ x j', j' ≠ j → M'.1 x j' = M.1 x j') ∧ (∀ x, x ≠ o + 502 → x ≠ o + 503 → M'.1 x = M.1 x) ∧ M'.2 = M.2 := by
  have ib : z_inb (Int32.ofNat j) 801 := (i_inb (by omega)).mpr (by omega)
  have cj : (Int32.ofNat j).toNatClampNeg = j := i_cl (by omega)
  have e1 : Int32.ofNat (j + 1) - 1 = Int32.ofNat j := i_sub (a := j + 1) (b := 1) (by omega)
  have ek : (z_wI M (o + 502) j (Int32.ofNat (l + 1))).1 (o + 500) j = Int32.ofNat k := (w_addr _ (by omega)).trans hk
  have ev : (z_wI M (o + 502) j (Int32.ofNat (l + 1))).1 (o + 503) j = Int32.ofNat v := (w_addr _ (by omega)).trans hv
  have fin : ∀ w, ∃ M', some (z_wI (z_wI M (o + 502) j (Int32.ofNat (l + 1))) (o + 503) j w) = some M' ∧ M'.1 (o + 502) j = Int32.ofNat (l + 1) ∧ M'.1 (o + 503) j = w ∧ (∀ x j', j' ≠ j → M'.1 x j' = M.1 x j') ∧ (∀ x, x ≠ o + 502 → x ≠ o + 503 → M'.1 x = M.1 x) ∧ M'.2 = M.2 := fun w => by
    refine ⟨_, rfl, (w_addr _ (by omega)).trans (w_same _ _ _ _), w_same _ _ _ _, fun x j' hj' => ?_, fun x h2 h3 => funext fun a => (w_addr a h3).trans (w_addr a h2), rfl⟩
    have st : ∀ (N : z_Mem) y v, (z_wI N y j v).1 x j' = N.1 x j' := fun N y v => by
      by_cases hy : x = y
      · rw [← hy, w_slot _ hj']
      · exact w_addr _ hy
    rw [st, st]
  unfold F_Tokens_extendToken
  simp only [zl]
  rw [h7, e1, if_neg (i_nn (by omega)), if_pos (show Int32.ofNat j ≤ (800 : Int32) from (i_le (b := 800) (by omega) (by decide)).mpr hj)]
  simp only [if_pos ib]
  rw [cj, hl, i_succ, ek]
  by_cases k2 : k = 2
  · have h48' := h48 k2
    rw [if_pos (by rw [k2]; rfl), ev]
    have en : Int32.ofNat v * 10 + Int32.ofNat t - 48 = Int32.ofNat (10 * v + t - 48) := by
      rw [show (10 : Int32) = Int32.ofNat 10 from rfl, i_mul, i_add, show (48 : Int32) = Int32.ofNat 48 from rfl, i_sub (by omega), Nat.mul_comm]
    rw [en, if_pos k2]
    have em : (if (1000000 : Int32) < Int32.ofNat (10 * v + t - 48) then (1000000 : Int32) else Int32.ofNat (10 * v + t - 48)) = Int32.ofNat (min 1000000 (10 * v + t - 48)) := by
      by_cases hm : 1000000 < 10 * v + t - 48
      · rw [if_pos (show (1000000 : Int32) < Int32.ofNat (10 * v + t - 48) from (i_lt (a := 1000000) (by decide) (by omega)).mpr hm), Nat.min_eq_left (by omega)]
        rfl
      · rw [if_neg (show ¬ (1000000 : Int32) < Int32.ofNat (10 * v + t - 48) from fun q => hm ((i_lt (a := 1000000) (by decide) (by omega)).mp q)), Nat.min_eq_right (by omega)]
    rw [em]
    exact fin _
  · rw [if_neg (show ¬ Int32.ofNat k = (2 : Int32) from fun q => k2 ((i_eq (b := 2) (by omega) (by decide)).mp q)), if_neg k2]
    exact fin _
/-- the tokens that i bytes make lie in the class's arrays -/
def x_tok (M : z_Mem) (o : Nat) (T : Nat → Nat) (n i : Nat) : Prop := M.1 (o + 499) 7 = Int32.ofNat (x_cn T i) ∧ ∀ q, q < i → x_st T q = true → M.1 (o + 500) (x_cn T q) = Int32.ofNat (x_kd (T q)) ∧ M.1 (o + 501) (x_cn T q) = Int32.ofNat q ∧ M.1 (o + 502) (x_cn T q) = Int32.ofNat (min (x_en T n q) i - q) ∧ M.1 (o + 503) (x_cn T q) = Int32.ofNat (x_vl T (min (x_en T n q) i - 1))
def x_ch (o : Nat) (M M' : z_Mem) : Prop := (∀ k, k ≠ 7 → M'.1 (o + 499) k = M.1 (o + 499) k) ∧ (∀ x, (x < o + 499 ∨ o + 504 ≤ x) → M'.1 x = M.1 x) ∧ M'.2 = M.2
theorem x_ch.tr {o : Nat} {M M' M'' : z_Mem} (h : x_ch o M M') (h' : x_ch o M' M'') : x_ch o M M'' := ⟨fun k hk => (h'.1 k hk).trans (h.1 k hk), fun x hx => (h'.2.1 x hx).trans (h.2.1 x hx), h'.2.2.trans h.2.2⟩
/-- byte i is blank: nothing changes -/
theorem x_tok_0 {M : z_Mem} {o i n : Nat} {T : Nat → Nat} (h : x_tok M o T n i) (hi : i < n) (hk : x_kd (T i) = 0) : x_tok M o T n (i + 1) := by
  have hs : x_st T i = false := by
    cases hh : x_st T i with
    | false => rfl
    | true => exact absurd hk (x_st_iff.mp hh).1
  refine ⟨h.1.trans ?_, fun q hq hqs => ?_⟩
  · show _ = Int32.ofNat (x_cn T i + (if x_st T i then 1 else 0))
    rw [hs]
    rfl
  · have hqi : q < i := by
      rcases Nat.lt_succ_iff_lt_or_eq.mp hq with g | g
      · exact g
      · rw [g, hs] at hqs
        cases hqs
    have he : x_en T n q ≤ i := by
      rcases Nat.lt_or_ge i (x_en T n q) with g | g
      · have := (x_en_spec (T := T) (n := n) (q := q) (by omega)).2.2.1 i (by omega) g
        rw [hk] at this
        exact absurd this.symm (x_st_iff.mp hqs).1
      · exact g
    have e := h.2 q hqi hqs
    rw [Nat.min_eq_left he] at e
    rw [Nat.min_eq_left (by omega : x_en T n q ≤ i + 1)]
    exact e
/-- byte i belongs to a token: at its place, one byte more; elsewhere nothing -/
theorem x_tok_1 {M M' : z_Mem} {o i n : Nat} {T : Nat → Nat} (h : x_tok M o T n i) (hi : i < n) (hk : x_kd (T i) ≠ 0) (h7 : M'.1 (o + 499) 7 = Int32.ofNat (x_cn T (i + 1))) (ho : ∀ x j, (x = o + 500 ∨ x = o + 501 ∨ x = o + 502 ∨ x = o + 503) → j < x_cn T i → j ≠ x_cn T (x_ow T i) → M'.1 x j = M.1 x j) (hq : M'.1 (o + 500) (x_cn T (x_ow T i)) = Int32.ofNat (x_kd (T (x_ow T i))) ∧ M'.1 (o + 501) (x_cn T (x_ow T i)) = Int32.ofNat (x_ow T i) ∧ M'.1 (o + 502) (x_cn T (x_ow T i)) = Int32.ofNat (i + 1 - x_ow T i) ∧ M'.1 (o + 503) (x_cn T (x_ow T i)) = Int32.ofNat (x_vl T i)) : x_tok M' o T n (i + 1) := by
  obtain ⟨w1, w2, w3, w4, -⟩ := x_ow_spec (T := T) (n := n) i hi hk
  refine ⟨h7, fun q hqi hqs => ?_⟩
  by_cases hw : q = x_ow T i
  · rw [hw, Nat.min_eq_right (by omega : i + 1 ≤ x_en T n (x_ow T i))]
    exact hq
  · have hzq := (x_st_iff.mp hqs).1
    have hzw := (x_st_iff.mp w1).1
    have hqi' : q < i := by
      rcases Nat.lt_succ_iff_lt_or_eq.mp hqi with g | g
      · exact g
      · rw [g] at hqs hw
        have := x_in_st (T := T) (n := n) (q := x_ow T i) (r := i) (by omega) (by omega) w3 hzw
        rw [hqs] at this
        cases this
    have hlt : q < x_ow T i := by
      rcases Nat.lt_or_ge q (x_ow T i) with g | g
      · exact g
      · have := x_in_st (T := T) (n := n) (q := x_ow T i) (r := q) (by omega) (by omega) (by omega) hzw
        rw [hqs] at this
        cases this
    have he : x_en T n q ≤ x_ow T i := by
      rcases Nat.lt_or_ge (x_ow T i) (x_en T n q) with g | g
      · have := x_in_st (T := T) (n := n) (q := q) (r := x_ow T i) (by omega) hlt g hzq
        rw [w1] at this
        cases this
      · exact g
    have hc := x_cn_lt hqs hlt
    have hci := x_cn_lt hqs hqi'
    have e := h.2 q hqi' hqs
    rw [Nat.min_eq_left (by omega : x_en T n q ≤ i)] at e
    rw [Nat.min_eq_left (by omega : x_en T n q ≤ i + 1), ho _ _ (Or.inl rfl) hci (by omega), ho _ _ (Or.inr (Or.inl rfl)) hci (by omega), ho _ _ (Or.inr (Or.inr (Or.inl rfl))) hci (by omega), ho _ _ (Or.inr (Or.inr (Or.inr rfl))) hci (by omega)]
    exact e
