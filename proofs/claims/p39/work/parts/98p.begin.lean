/-! ===== the class's side (out of whole, by program) ===== -/
theorem x_vl_st {T : Nat → Nat} {i : Nat} (h : x_st T i = true) : x_vl T i = if x_kd (T i) = 2 then T i - 48 else T i := by
  cases i with
  | zero => rfl
  | succ i =>
    show (if x_kd (T (i + 1)) = 2 then (if x_st T (i + 1) then T (i + 1) - 48 else _) else T (i + 1)) = _
    rw [h]
    rfl
theorem x_vl_ns {T : Nat → Nat} {i : Nat} (h0 : i ≠ 0) (h : x_st T i = false) : x_vl T i = if x_kd (T i) = 2 then min 1000000 (10 * x_vl T (i - 1) + T i - 48) else T i := by
  cases i with
  | zero => exact absurd rfl h0
  | succ i =>
    show (if x_kd (T (i + 1)) = 2 then (if x_st T (i + 1) then T (i + 1) - 48 else _) else T (i + 1)) = _
    rw [h]
    rfl
theorem x_ow_st {T : Nat → Nat} {i : Nat} (h : x_st T i = true) : x_ow T i = i := by
  cases i with
  | zero => rfl
  | succ i => exact if_pos h
theorem x_kd2 {t : Nat} (h : x_kd t = 2) : 48 ≤ t := by
  unfold x_kd at h
  split at h
  · cases h
  · split at h
    · cases h
    · split at h
      · omega
      · cases h
/-- a byte that starts a token -/
theorem c_tok_new {o i n : Nat} {T : Nat → Nat} {M : z_Mem} (hT : ∀ k, T k < 256) (hn : n ≤ 800) (hi : i < n) (h : x_tok M o T n i) (hs : x_st T i = true) : ∃ M1 M2, F_Tokens_appendToken o (Int32.ofNat (x_kd (T i))) (Int32.ofNat i) M = some M1 ∧ F_Tokens_extendToken o (Int32.ofNat (T i)) M1 = some M2 ∧ x_tok M2 o T n (i + 1) ∧ x_ch o M M2 := by
  have hk := (x_st_iff.mp hs).1
  have k4 := x_kd_le (T i)
  have hc := x_cn_le T i
  obtain ⟨M1, e1, a7, as, ⟨b0, b1, b2, b3⟩, aj, ax, a2⟩ := c_append (k := x_kd (T i)) (p := i) h.1 (by omega)
  obtain ⟨M2, e2, d2, d3, dj, dx, dM⟩ := c_extend (t := T i) a7 (by omega) b0 b2 b3 (by omega) (by omega) (hT i) (fun q => x_kd2 q)
  have how := x_ow_st hs
  have hcs := x_cn_st hs
  refine ⟨M1, M2, e1, e2, x_tok_1 h hi hk (by rw [dx _ (by omega) (by omega), a7, hcs]) (fun x j hx hj hj' => ?_) ?_, ⟨fun k hk => by rw [dx _ (by omega) (by omega)]; exact as k hk, fun x hx => by rw [dx _ (by omega) (by omega)]; exact ax x hx, dM.trans a2⟩⟩
  · rw [how] at hj'
    rw [dj _ _ hj', aj _ _ hj' (by omega)]
  · rw [how]
    refine ⟨?_, ?_, ?_, ?_⟩
    · rw [dx _ (by omega) (by omega)]; exact b0
    · rw [dx _ (by omega) (by omega)]; exact b1
    · rw [d2, show i + 1 - i = 0 + 1 by omega]
    · rw [d3, x_vl_st hs]
      have ht := hT i
      by_cases k2 : x_kd (T i) = 2
      · rw [if_pos k2, if_pos k2, Nat.min_eq_right (by omega)]
        congr 1
        omega
      · rw [if_neg k2, if_neg k2]
/-- a byte that goes on with a token -/
theorem c_tok_on {o i n : Nat} {T : Nat → Nat} {M : z_Mem} (hT : ∀ k, T k < 256) (hn : n ≤ 800) (hi : i < n) (h : x_tok M o T n i) (hs : x_st T i = false) (hk : x_kd (T i) ≠ 0) : ∃ M2, F_Tokens_extendToken o (Int32.ofNat (T i)) M = some M2 ∧ x_tok M2 o T n (i + 1) ∧ x_ch o M M2 := by
  obtain ⟨w1, w2, w3, w4, w5⟩ := x_ow_spec (T := T) (n := n) i hi hk
  have w6 := w5 hs
  have hcn : x_cn T (i + 1) = x_cn T i := by
    show x_cn T i + (if x_st T i then 1 else 0) = _
    rw [hs]
    rfl
  have k4 := x_kd_le (T (x_ow T i))
  have hc := x_cn_le T (x_ow T i)
  obtain ⟨g0, g1, g2, g3⟩ := h.2 _ w6 w1
  rw [Nat.min_eq_right (by omega : i ≤ x_en T n (x_ow T i))] at g2 g3
  have same : x_kd (T i) = x_kd (T (x_ow T i)) := (x_en_spec (T := T) (n := n) (q := x_ow T i) (by omega)).2.2.1 i w2 w3
  have a7 : M.1 (o + 499) 7 = Int32.ofNat (x_cn T (x_ow T i) + 1) := by rw [h.1, ← hcn, w4]
  obtain ⟨M2, e2, d2, d3, dj, dx, dM⟩ := c_extend (t := T i) a7 (by omega) g0 g2 g3 (by omega) (x_vl_le hT _) (hT i) (fun q => x_kd2 (same.trans q))
  refine ⟨M2, e2, x_tok_1 h hi hk (by rw [dx _ (by omega) (by omega), h.1, hcn]) (fun x j hx hj hj' => dj _ _ hj') ⟨?_, ?_, ?_, ?_⟩, ⟨fun k hk => by rw [dx _ (by omega) (by omega)], fun x hx => dx _ (by omega) (by omega), dM⟩⟩
  · rw [dx _ (by omega) (by omega)]; exact g0
  · rw [dx _ (by omega) (by omega)]; exact g1
  · rw [d2, show i - x_ow T i + 1 = i + 1 - x_ow T i by omega]
  · rw [d3, x_vl_ns (by omega) hs, same]
def x_pv (T : Nat → Nat) (i : Nat) : Nat := if i = 0 then 0 else x_kd (T (i - 1))
theorem c_byteAt {o i n : Nat} {T : Nat → Nat} {M : z_Mem} (hn : n ≤ 800) (hi : i < n) (hb : ∀ k, k < n → M.1 (o + 1) k &&& 255 = Int32.ofNat (T k)) : F_Tokens_byteAt o (Int32.ofNat i) M = some (Int32.ofNat (T i)) := by
  unfold F_Tokens_byteAt
  rw [if_neg (i_nn (by omega)), if_neg (show ¬ (800 : Int32) ≤ Int32.ofNat i from i_nle (a := 800) (by decide) (by omega) (by omega)), if_pos ((i_inb (by omega)).mpr (by omega)), i_cl (by omega), hb i hi]
theorem c_kindOf {t : Nat} (ht : t < 256) (M : z_Mem) : F_Tokens_kindOf (Int32.ofNat t) M = some (Int32.ofNat (x_kd t)) := by
  have lt : ∀ a, a < 256 → (Int32.ofNat t < Int32.ofNat a ↔ t < a) := fun a ha => i_lt (by omega) (by omega)
  have gt : ∀ a, a < 256 → (Int32.ofNat a < Int32.ofNat t ↔ a < t) := fun a ha => i_lt (by omega) (by omega)
  have eq : ∀ a, a < 256 → (Int32.ofNat t = Int32.ofNat a ↔ t = a) := fun a ha => i_eq (by omega) (by omega)
  unfold F_Tokens_kindOf F_Tokens_kindOf_J28 x_kd
  by_cases h1 : t = 32
  · rw [if_pos (show Int32.ofNat t = (32 : Int32) from (eq 32 (by omega)).mpr h1), if_pos (Or.inl h1)]
    rfl
  rw [if_neg (show ¬ Int32.ofNat t = (32 : Int32) from fun q => h1 ((eq 32 (by omega)).mp q))]
  by_cases h2 : t = 10
  · rw [if_pos (show Int32.ofNat t = (10 : Int32) from (eq 10 (by omega)).mpr h2), if_pos (Or.inr h2)]
    rfl
  rw [if_neg (show ¬ Int32.ofNat t = (10 : Int32) from fun q => h2 ((eq 10 (by omega)).mp q)), if_neg (by omega : ¬ (t = 32 ∨ t = 10))]
  have j28 : (if Int32.ofNat t < 48 then some (3 : Int32) else if (57 : Int32) < Int32.ofNat t then some 3 else some 2) = some (Int32.ofNat (if 48 ≤ t ∧ t ≤ 57 then 2 else 3)) := by
    by_cases h5 : t < 48
    · rw [if_pos (show Int32.ofNat t < (48 : Int32) from (lt 48 (by omega)).mpr h5), if_neg (by omega : ¬ (48 ≤ t ∧ t ≤ 57))]
      rfl
    rw [if_neg (show ¬ Int32.ofNat t < (48 : Int32) from fun q => h5 ((lt 48 (by omega)).mp q))]
    by_cases h6 : 57 < t
    · rw [if_pos (show (57 : Int32) < Int32.ofNat t from (gt 57 (by omega)).mpr h6), if_neg (by omega : ¬ (48 ≤ t ∧ t ≤ 57))]
      rfl
    rw [if_neg (show ¬ (57 : Int32) < Int32.ofNat t from fun q => h6 ((gt 57 (by omega)).mp q)), if_pos (by omega : 48 ≤ t ∧ t ≤ 57)]
    rfl
  by_cases h3 : t < 97
  · rw [if_pos (show Int32.ofNat t < (97 : Int32) from (lt 97 (by omega)).mpr h3), if_neg (by omega : ¬ (97 ≤ t ∧ t ≤ 122))]
    exact j28
  rw [if_neg (show ¬ Int32.ofNat t < (97 : Int32) from fun q => h3 ((lt 97 (by omega)).mp q))]
  by_cases h4 : 122 < t
  · rw [if_pos (show (122 : Int32) < Int32.ofNat t from (gt 122 (by omega)).mpr h4), if_neg (by omega : ¬ (97 ≤ t ∧ t ≤ 122))]
    exact j28
  rw [if_neg (show ¬ (122 : Int32) < Int32.ofNat t from fun q => h4 ((gt 122 (by omega)).mp q)), if_pos (by omega : 97 ≤ t ∧ t ≤ 122)]
  rfl
theorem c_tok_L {o n : Nat} {T : Nat → Nat} (hT : ∀ k, T k < 256) (hn : n ≤ 800) : ∀ (r i f : Nat) (M : z_Mem), i + r = n → r < f → (∀ k, k < n → M.1 (o + 1) k &&& 255 = Int32.ofNat (T k)) → x_tok M o T n i → ∃ M' f', F_Tokens_begin_L19 o f (Int32.ofNat n) (Int32.ofNat (x_pv T i)) (Int32.ofNat i) M = F_Tokens_begin_L19 o (f' + 1) (Int32.ofNat n) (Int32.ofNat (x_pv T n)) (Int32.ofNat n) M' ∧ x_tok M' o T n n ∧ x_ch o M M' := by
  intro r
  induction r with
  | zero =>
    intro i f M hi hf hb h
    obtain ⟨f, rfl⟩ : ∃ g, f = g + 1 := ⟨f - 1, by omega⟩
    have hin : i = n := by omega
    rw [hin] at h ⊢
    exact ⟨M, f, rfl, h, ⟨fun _ _ => rfl, fun _ _ => rfl, rfl⟩⟩
  | succ r ih =>
    intro i f M hi hf hb h
    obtain ⟨f, rfl⟩ : ∃ g, f = g + 1 := ⟨f - 1, by omega⟩
    have hp : x_pv T (i + 1) = x_kd (T i) := if_neg (by omega)
    have hB : F_Tokens_begin_L19 o (f + 1) (Int32.ofNat n) (Int32.ofNat (x_pv T i)) (Int32.ofNat i) M = F_Tokens_begin_B19 o (F_Tokens_begin_L19 o f) (Int32.ofNat n) (Int32.ofNat (x_pv T i)) (Int32.ofNat i) M := rfl
    have k4 := x_kd_le (T i)
    have go : ∀ M2, x_tok M2 o T n (i + 1) → x_ch o M M2 → ∃ M' f', F_Tokens_begin_J73 o (F_Tokens_begin_L19 o f) (Int32.ofNat n) (Int32.ofNat i) (Int32.ofNat (x_kd (T i))) M2 = F_Tokens_begin_L19 o (f' + 1) (Int32.ofNat n) (Int32.ofNat (x_pv T n)) (Int32.ofNat n) M' ∧ x_tok M' o T n n ∧ x_ch o M M' := fun M2 h2 c2 => by
      obtain ⟨M', f', e, h', c'⟩ := ih (i + 1) f M2 (by omega) (by omega) (fun k hk => by rw [c2.2.1 _ (by omega)]; exact hb k hk) h2
      refine ⟨M', f', ?_, h', c2.tr c'⟩
      unfold F_Tokens_begin_J73
      rw [zl_eq, i_succ, ← hp]
      exact e
    have k0 : ¬ Int32.ofNat (x_kd (T i)) = 0 ↔ x_kd (T i) ≠ 0 := ⟨fun q g => q (by rw [g]; rfl), fun g => i_ne0 (by omega) g⟩
    rw [hB]
    generalize F_Tokens_begin_L19 o f = R at go
    unfold F_Tokens_begin_B19
    rw [if_neg (i_nle (by omega) (by omega) (by omega)), zb_ok (c_byteAt hn (by omega) hb), zb_ok (c_kindOf (hT i) M)]
    cases hs : x_st T i with
    | true =>
      obtain ⟨M1, M2, e1, e2, h2, c2⟩ := c_tok_new hT hn (by omega) h hs
      have hst := x_st_iff.mp hs
      have j55 : ∃ M' f', F_Tokens_begin_J55 o R (Int32.ofNat n) (Int32.ofNat i) (Int32.ofNat (T i)) (Int32.ofNat (x_kd (T i))) M = F_Tokens_begin_L19 o (f' + 1) (Int32.ofNat n) (Int32.ofNat (x_pv T n)) (Int32.ofNat n) M' ∧ x_tok M' o T n n ∧ x_ch o M M' := by
        unfold F_Tokens_begin_J55 F_Tokens_begin_J62
        rw [zb_ok e1, if_neg (k0.mpr hst.1), zb_ok e2]
        exact go M2 h2 c2
      by_cases h3 : x_kd (T i) = 3
      · rw [if_pos (show Int32.ofNat (x_kd (T i)) = (3 : Int32) by rw [h3]; rfl)]
        exact j55
      · rw [if_neg (show ¬ Int32.ofNat (x_kd (T i)) = (3 : Int32) from fun q => h3 ((i_eq (b := 3) (by omega) (by decide)).mp q)), if_neg (k0.mpr hst.1), if_neg (fun q => by
          have q := (i_eq (by omega) (by unfold x_pv; split; omega; have := x_kd_le (T (i - 1)); omega)).mp q
          unfold x_pv at q
          by_cases hi0 : i = 0
          · rw [if_pos hi0] at q
            exact hst.1 q
          · rw [if_neg hi0] at q
            rcases hst.2 with g | g | g
            · exact h3 g
            · exact hi0 g
            · exact g q.symm)]
        exact j55
    | false =>
      by_cases hk : x_kd (T i) = 0
      · rw [if_neg (show ¬ Int32.ofNat (x_kd (T i)) = (3 : Int32) by rw [hk]; decide), if_pos (by rw [hk]; rfl)]
        unfold F_Tokens_begin_J62
        rw [if_pos (by rw [hk]; rfl)]
        exact go M (x_tok_0 h (by omega) hk) ⟨fun _ _ => rfl, fun _ _ => rfl, rfl⟩
      · obtain ⟨M2, e2, h2, c2⟩ := c_tok_on hT hn (by omega) h hs hk
        have ns : ¬ (x_kd (T i) = 3 ∨ i = 0 ∨ x_kd (T (i - 1)) ≠ x_kd (T i)) := fun g => by
          have := x_st_iff.mpr ⟨hk, g⟩
          rw [hs] at this
          cases this
        have hpv : x_pv T i = x_kd (T i) := by
          unfold x_pv
          rw [if_neg (fun g => ns (Or.inr (Or.inl g)))]
          rcases Nat.decEq (x_kd (T (i - 1))) (x_kd (T i)) with g | g
          · exact absurd (Or.inr (Or.inr g)) ns
          · exact g
        rw [if_neg (show ¬ Int32.ofNat (x_kd (T i)) = (3 : Int32) from fun q => ns (Or.inl ((i_eq (b := 3) (by omega) (by decide)).mp q))), if_neg (k0.mpr hk), if_pos (by rw [hpv])]
        unfold F_Tokens_begin_J62
        rw [if_neg (k0.mpr hk), zb_ok e2]
        exact go M2 h2 c2
