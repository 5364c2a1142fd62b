/-! ===== PURE: the clauses of a known text, read ===== -/
theorem r_C.z {o Z : Nat} {M : z_Mem} {R : Int32} {c A : q_R} {W : q_W} (h : r_C o M Z R c A W) (hZ : 2 ≤ Z) : M.1 (o + 505) 0 - 1 = Int32.ofNat (Z - 1) := by
  rw [h.1]
  exact i_sub (a := Z) (b := 1) (by omega)
theorem r_C.nx {o Z : Nat} {M M' : z_Mem} {R : Int32} {c A : q_R} {W : q_W} (h : r_C o M Z R c A W) (hk : x_nx o M M') : r_C o M' Z R c A W := h.ks hk.ks
def v_J (c A : q_R) : Prop := A 0 = 0 ∧ (∃ v, v ≤ 9 ∧ A 4 = Int32.ofNat v) ∧ (∃ v, v ≤ 30 ∧ A 6 = Int32.ofNat v) ∧ ∀ t, t < q_T c → (∃ f, f ≤ 2879 ∧ A (14 + 40 * t) = Int32.ofNat f) ∧ ∀ k, 18 ≤ k → k ≤ 23 → A (k + 40 * t) = 0
/-- the reader before X, and what has been read -/
def v_D (o : Nat) (M : z_Mem) (X : List Nat) (Z : Nat) (R : Int32) (c A : q_R) (W : q_W) : Prop := v_K o M X ∧ r_C o M Z R c A W ∧ r_I Z c A W ∧ v_J c A
theorem v_c30 {o j : Nat} {M : z_Mem} {X : List Nat} {Z : Nat} {R : Int32} {c A : q_R} {W : q_W} (h : v_D o M (v_wd j ++ 32 :: X) Z R c A W) (h1 : 1 ≤ j) (h5 : j ≤ 5) (hX : v_hd X) (hT : j = 5 → q_T c < 4) : ∃ M1, v_D o M1 X Z R c A W ∧ x_nx o M M1 ∧ F_TextReader_readClause o M = (if Int32.ofNat j = 1 then zb (F_TextReader_readRoad o M1) fun M18 => F_TextReader_readClause_J167 o M18 else if Int32.ofNat j = 2 then zb2 (F_Tokens_takeNumber o 0 9999 M1) fun x13 M12 => zl (z_wI M12 (o + 507) 1 x13) fun M14 => zb2 (F_Tokens_takeNumber o 0 999 M14) fun x16 M15 => zl (z_wI M15 (o + 507) 2 x16) fun M17 => F_TextReader_readClause_J167 o M17 else if Int32.ofNat j = 3 then zb2 (F_Tokens_takeNumber o 2 4 M1) fun x10 M9 => zb (F_TextReader_readRuleValue o ((7 + x10) - 2) M9) fun M11 => F_TextReader_readClause_J167 o M11 else if Int32.ofNat j = 4 then zb2 (F_Tokens_takeWord o 14 20 M1) fun x7 M6 => zb (F_TextReader_readRuleValue o (x7 - 14) M6) fun M8 => F_TextReader_readClause_J167 o M8 else if Int32.ofNat j = 5 then zb (F_TextReader_readTaxi o M1) fun M5 => F_TextReader_readClause_J167 o M5 else F_TextReader_readClause_J167 o M1) := by
  obtain ⟨hK, hC, hI, hJ⟩ := h
  obtain ⟨e9, e10, -⟩ := hK.word (by omega) hX
  obtain ⟨M1, e1, hK1, hx⟩ := v_takeWord (lo := 1) (hi := 5) hK (by omega) hX (fun q => absurd ((i_lt (b := 1) (by omega) (by decide)).mp q) (by omega)) ((i_le (b := 5) (by omega) (by decide)).mpr h5)
  refine ⟨M1, ⟨hK1, hC.nx hx, hI, hJ⟩, hx, ?_⟩
  have c30 : F_TextReader_readClause_J30 o M = (if Int32.ofNat j = 1 then zb (F_TextReader_readRoad o M1) fun M18 => F_TextReader_readClause_J167 o M18 else if Int32.ofNat j = 2 then zb2 (F_Tokens_takeNumber o 0 9999 M1) fun x13 M12 => zl (z_wI M12 (o + 507) 1 x13) fun M14 => zb2 (F_Tokens_takeNumber o 0 999 M14) fun x16 M15 => zl (z_wI M15 (o + 507) 2 x16) fun M17 => F_TextReader_readClause_J167 o M17 else if Int32.ofNat j = 3 then zb2 (F_Tokens_takeNumber o 2 4 M1) fun x10 M9 => zb (F_TextReader_readRuleValue o ((7 + x10) - 2) M9) fun M11 => F_TextReader_readClause_J167 o M11 else if Int32.ofNat j = 4 then zb2 (F_Tokens_takeWord o 14 20 M1) fun x7 M6 => zb (F_TextReader_readRuleValue o (x7 - 14) M6) fun M8 => F_TextReader_readClause_J167 o M8 else if Int32.ofNat j = 5 then zb (F_TextReader_readTaxi o M1) fun M5 => F_TextReader_readClause_J167 o M5 else F_TextReader_readClause_J167 o M1) := by
    unfold F_TextReader_readClause_J30
    rw [zb2_ok e1]
  rw [← c30]
  unfold F_TextReader_readClause F_Tokens_isWord
  rw [if_pos e9, e10]
  by_cases hj : j = 5
  · have e3 : M.1 (o + 507) 3 = Int32.ofNat (q_T c) := hC.2.2.2.2.2.2.2.1.trans hI.2.2.1.1
    have hT4 := hT hj
    rw [if_pos (show Int32.ofNat j = 5 by rw [hj]; rfl), zb_ok rfl, if_neg ne10, e3, if_pos (show Int32.ofNat (q_T c) < 4 from (i_lt (b := 4) (by omega) (by decide)).mpr hT4)]
  · rw [if_neg (show ¬ Int32.ofNat j = 5 from i_ne (b := 5) (by omega) (by decide) hj), zb_ok rfl, if_pos rfl]
theorem v_end {o : Nat} {M : z_Mem} {B : List Nat} {Z : Nat} {R : Int32} {c A : q_R} {W : q_W} (h : v_D o M (59 :: B) Z R c A W) (hB : v_hd B) : ∃ M', F_TextReader_readClause_J167 o M = some M' ∧ v_D o M' B Z R c A W ∧ v_kp o M M' := by
  obtain ⟨hK, hC, hI, hJ⟩ := h
  obtain ⟨M', e, hK', hx⟩ := v_takeSign hK hB
  refine ⟨M', ?_, ⟨hK', hC.nx hx, hI, hJ⟩, hx.kp⟩
  unfold F_TextReader_readClause_J167
  rw [zb_ok e]
def v_n3 (a : Nat) (B : List Nat) : List Nat := v_dg a ++ 32 :: B
def v_n9 (a : Nat) (B : List Nat) : List Nat := v_dg a ++ 59 :: B
theorem v_n3_hd {a : Nat} (h : a < 1000) (B : List Nat) : v_hd (v_n3 a B) := v_dg_hd h _
theorem v_n9_hd {a : Nat} (h : a < 1000) (B : List Nat) : v_hd (v_n9 a B) := v_dg_hd h _
theorem v_59_hd (B : List Nat) : v_hd (59 :: B) := fun x hx => by
  rw [← Option.some.inj hx]
  decide
theorem v_take3 {o v a b : Nat} {M : z_Mem} {B : List Nat} {Z : Nat} {R : Int32} {c A : q_R} {W : q_W} (h : v_D o M (v_n3 v B) Z R c A W) (hv : v < 1000) (hB : v_hd B) (ha : a ≤ v) (hb : v ≤ b) (hb3 : b < 2 ^ 31) : ∃ M', F_Tokens_takeNumber o (Int32.ofNat a) (Int32.ofNat b) M = some (Int32.ofNat v, M') ∧ v_D o M' B Z R c A W ∧ x_nx o M M' := by
  obtain ⟨hK, hC, hI, hJ⟩ := h
  obtain ⟨M', e, hK', hx⟩ := v_takeNumber (R := 32 :: B) (B := B) hK hv ⟨hB, Or.inl rfl⟩ ha hb hb3
  exact ⟨M', e, ⟨hK', hC.nx hx, hI, hJ⟩, hx⟩
theorem v_take9 {o v a b : Nat} {M : z_Mem} {B : List Nat} {Z : Nat} {R : Int32} {c A : q_R} {W : q_W} (h : v_D o M (v_n9 v B) Z R c A W) (hv : v < 1000) (ha : a ≤ v) (hb : v ≤ b) (hb3 : b < 2 ^ 31) : ∃ M', F_Tokens_takeNumber o (Int32.ofNat a) (Int32.ofNat b) M = some (Int32.ofNat v, M') ∧ v_D o M' (59 :: B) Z R c A W ∧ x_nx o M M' := by
  obtain ⟨hK, hC, hI, hJ⟩ := h
  obtain ⟨M', e, hK', hx⟩ := v_takeNumber (R := 59 :: B) (B := 59 :: B) hK hv ⟨v_59_hd B, Or.inr ⟨rfl, B, rfl⟩⟩ ha hb hb3
  exact ⟨M', e, ⟨hK', hC.nx hx, hI, hJ⟩, hx⟩
/-! the clauses -/
def v_road (i t v : Nat) (B : List Nat) : List Nat := v_wd 1 ++ 32 :: v_n3 i (v_n3 t (v_n9 v B))
def v_taxi (s z b e : Nat) (B : List Nat) : List Nat := v_wd 5 ++ 32 :: v_n3 s (v_n3 z (v_n3 b (v_n9 e B)))
def v_tarf (f r : Nat) (B : List Nat) : List Nat := v_wd 2 ++ 32 :: v_n3 f (v_n9 r B)
def v_disc (n v : Nat) (B : List Nat) : List Nat := v_wd 3 ++ 32 :: v_n3 n (v_n9 v B)
def v_rule (k v : Nat) (B : List Nat) : List Nat := v_wd 4 ++ 32 :: (v_wd (14 + k) ++ 32 :: v_n9 v B)
theorem v_readRoad {o i t v Z : Nat} {M : z_Mem} {B : List Nat} {R : Int32} {c A : q_R} {W : q_W} (h : v_D o M (v_road i t v B) Z R c A W) (hB : v_hd B) (hi : i < Z) (ht : t < Z) (hit : i ≠ t) (hW : W i t = none) (h1 : 1 ≤ v) (h99 : v ≤ 99) : ∃ M', F_TextReader_readClause o M = some M' ∧ v_D o M' B Z (R + 1) c A (r_W W i t v) ∧ v_kp o M M' := by
  have hZ := h.2.2.1.1
  obtain ⟨M1, D1, x1, e1⟩ := v_c30 h (by omega) (by omega) (v_n3_hd (by omega) _) (fun q => by omega)
  rw [e1, if_pos (show Int32.ofNat 1 = 1 by decide)]
  unfold F_TextReader_readRoad
  obtain ⟨M2, e2, D2, x2⟩ := v_take3 (a := 0) (b := Z - 1) D1 (by omega) (v_n3_hd (by omega) _) (by omega) (by omega) (by omega)
  rw [D1.2.1.z hZ.1, zb2_ok (show F_Tokens_takeNumber o 0 (Int32.ofNat (Z - 1)) M1 = some (Int32.ofNat i, M2) from e2)]
  have hc : F_Tokens_checkNumber o (Int32.ofNat 0) (Int32.ofNat (Z - 1)) M2 = some (Int32.ofNat t, M2) := v_check (R := 32 :: v_n9 v B) D2.1 (by omega) ⟨v_n9_hd (by omega) _, Or.inl rfl⟩ (by omega) (by omega) (by omega)
  rw [D2.2.1.z hZ.1, zb2_ok (show F_Tokens_checkNumber o 0 (Int32.ofNat (Z - 1)) M2 = some (Int32.ofNat t, M2) from hc), zb_ok (c_way D2.2.1.2.2.1 (by omega) (by omega)), hW, if_pos (show q_oi none = -1 from rfl)]
  unfold F_TextReader_readRoad_J57
  obtain ⟨-, -, M3, e3, K3, x3⟩ := D2.1.num (R := 32 :: v_n9 v B) (by omega) ⟨v_n9_hd (by omega) _, Or.inl rfl⟩
  have D3 : v_D o M3 (v_n9 v B) Z R c A W := ⟨K3, D2.2.1.nx x3, D2.2.2⟩
  obtain ⟨M4, e4, D4, x4⟩ := v_take9 (a := 1) (b := 99) D3 (by omega) h1 h99 (by omega)
  rw [zb_ok e3, zb2_ok (show F_Tokens_takeNumber o 1 99 M3 = some (Int32.ofNat v, M4) from e4), zb_ok (c_addRoad (by omega) (by omega)), zb_ok rfl]
  obtain ⟨K4, ⟨C1, C2, C3, C4⟩, hI, hJ⟩ := D4
  obtain ⟨M5, eM5⟩ : ∃ M5, M5 = z_wI (z_wI (z_wI M4 (o + 505) 1 (M4.1 (o + 505) 1 + 1)) (o + 505 + 1) (8 * i + t) (Int32.ofNat v)) (o + 505 + 1) (8 * t + i) (Int32.ofNat v) := ⟨_, rfl⟩
  rw [← eM5]
  have hx : ∀ x, x ≠ o + 505 → x ≠ o + 506 → M5.1 x = M4.1 x := fun x h1 h2 => funext fun k => by
    rw [eM5, w_addr _ (by omega), w_addr _ (by omega), w_addr _ (by omega)]
  have D5 : v_D o M5 (59 :: B) Z (R + 1) c A (r_W W i t v) := by
    refine ⟨K4.keep (fun x a b => hx x (by omega) (by omega)), ⟨?_, ?_, ?_, C4.keep (fun x a b => hx x (by omega) (by omega))⟩, ⟨hZ, r_W_ok hI.2.1 (by omega) (by omega) hit h99, hI.2.2⟩, hJ⟩
    · rw [eM5, w_addr _ (by omega), w_addr _ (by omega), w_slot _ (by decide)]
      exact C1
    · rw [eM5, w_addr _ (by omega), w_addr _ (by omega), w_same, C2]
    · rw [eM5]
      exact fun a b ha hb => r_W_mat (M := z_wI M4 (o + 505) 1 (M4.1 (o + 505) 1 + 1)) (by omega) (by omega) (fun _ _ => True) (fun a b ha hb _ => (w_addr _ (by omega)).trans (C3 a b ha hb)) a b ha hb trivial
  obtain ⟨M', e, D', k'⟩ := v_end D5 hB
  exact ⟨M', e, D', x1.kp.tr (x2.kp.tr (x3.kp.tr (x4.kp.tr ((v_kp.in (fun x h => hx x (by omega) (by omega)) (by rw [eM5]; rfl)).tr k'))))⟩
/-- a rule's value -/
theorem v_ruleV {o k v a b Z : Nat} {M : z_Mem} {B : List Nat} {R : Int32} {c A : q_R} {W : q_W} (h : v_D o M (v_n9 v B) Z R c A W) (hk : k < 10) (hv : v < 1000) (ha : z_sv 1 k = Int32.ofNat a) (hb : z_sv 2 k = Int32.ofNat b) (h1 : a ≤ v) (h2 : v ≤ b) (hb3 : b < 2 ^ 31) (h9 : 7 ≤ k → v ≤ 90) (g1 : k = 1 → v ≤ 9) (g3 : k = 3 → v ≤ 30) : ∃ M', F_TextReader_readRuleValue o (Int32.ofNat k) M = some M' ∧ v_D o M' (59 :: B) Z R c (q_w A (3 + k) (Int32.ofNat v)) W ∧ v_kp o M M' := by
  obtain ⟨M1, e1, ⟨hK, ⟨C1, C2, C3, C4⟩, hI, hJ⟩, x1⟩ := v_take9 h hv h1 h2 hb3
  have ib : z_inb (Int32.ofNat k) 10 := (i_inb (by omega)).mpr hk
  have n0 : ¬ Int32.ofNat k < 0 := i_nn (by omega)
  have n10 : ¬ (10 : Int32) ≤ Int32.ofNat k := i_nle (a := 10) (by decide) (by omega) hk
  unfold F_TextReader_readRuleValue
  rw [if_neg n0, if_neg n10, if_pos ib, if_pos ib, i_cl (by omega), ha, hb, zb2_ok e1]
  unfold F_Desk_changeRule
  rw [if_neg n0, if_neg n10, if_pos ib, zl_eq, zb_ok rfl, i_cl (by omega)]
  obtain ⟨i1, i2, i3, i4, ⟨i5, i6⟩, i7, i8⟩ := hI
  obtain ⟨j0, j4, j6, jt⟩ := hJ
  refine ⟨_, rfl, ⟨hK.keep (fun x p q => funext fun j => w_addr _ (by omega)), ⟨(w_addr _ (by omega)).trans C1, (w_addr _ (by omega)).trans C2, fun a b p q => (w_addr _ (by omega)).trans (C3 a b p q), C4.rule i4 hk⟩, ⟨i1, i2, i3, (q_w_ne (by omega)).trans i4, ⟨?_, fun j hj => ?_⟩, fun t ht => ?_, fun j p q => ?_⟩, (q_w_ne (by omega)).trans j0, ?_, ?_, fun t ht => ?_⟩, x1.kp.tr (v_kp.in (fun x p => funext fun j => w_addr _ (by omega)) rfl)⟩
  · rw [q_w_ne (by omega)]
    exact i5
  · by_cases hjk : 10 + j = 3 + k
    · rw [hjk, q_w_same]
      exact ⟨v, h9 (by omega), rfl⟩
    · rw [q_w_ne hjk]
      exact i6 j hj
  · rw [q_w_ne (by omega), q_w_ne (by omega), q_w_ne (by omega), q_w_ne (by omega)]
    exact i7 t ht
  · have hT := i3.2
    rw [q_w_ne (by omega)]
    exact i8 j p q
  · by_cases hk1 : k = 1
    · rw [hk1, q_w_same]
      exact ⟨v, g1 hk1, rfl⟩
    · rw [q_w_ne (by omega)]
      exact j4
  · by_cases hk3 : k = 3
    · rw [hk3, q_w_same]
      exact ⟨v, g3 hk3, rfl⟩
    · rw [q_w_ne (by omega)]
      exact j6
  · obtain ⟨p, q⟩ := jt t ht
    refine ⟨?_, fun j a b => ?_⟩
    · rw [q_w_ne (by omega)]
      exact p
    · rw [q_w_ne (by omega)]
      exact q j a b
theorem v_readRule {o k v a b Z : Nat} {M : z_Mem} {B : List Nat} {R : Int32} {c A : q_R} {W : q_W} (h : v_D o M (v_rule k v B) Z R c A W) (hB : v_hd B) (hk : k < 7) (hv : v < 1000) (ha : z_sv 1 k = Int32.ofNat a) (hb : z_sv 2 k = Int32.ofNat b) (h1 : a ≤ v) (h2 : v ≤ b) (hb3 : b < 2 ^ 31) (g1 : k = 1 → v ≤ 9) (g3 : k = 3 → v ≤ 30) : ∃ M', F_TextReader_readClause o M = some M' ∧ v_D o M' B Z R c (q_w A (3 + k) (Int32.ofNat v)) W ∧ v_kp o M M' := by
  obtain ⟨M1, ⟨K1, C1, I1⟩, x1, e1⟩ := v_c30 h (by omega) (by omega) (v_wd_hd (by omega) _) (fun q => by omega)
  rw [e1, if_neg (by decide), if_neg (by decide), if_neg (by decide), if_pos (by decide)]
  obtain ⟨M2, e2, K2, x2⟩ := v_takeWord (lo := 14) (hi := 20) K1 (by omega) (v_n9_hd (by omega) _) (fun q => absurd ((i_lt (b := 14) (by omega) (by decide)).mp q) (by omega)) ((i_le (b := 20) (by omega) (by decide)).mpr (by omega))
  obtain ⟨M3, e3, D3, k3⟩ := v_ruleV (k := k) ⟨K2, C1.nx x2, I1⟩ (by omega) hv ha hb h1 h2 hb3 (fun q => by omega) g1 g3
  rw [zb2_ok e2, show Int32.ofNat (14 + k) - 14 = Int32.ofNat k by rw [show (14 : Int32) = Int32.ofNat 14 from rfl, i_sub (by omega), show 14 + k - 14 = k by omega], zb_ok e3]
  obtain ⟨M', e, D', k'⟩ := v_end D3 hB
  exact ⟨M', e, D', x1.kp.tr (x2.kp.tr (k3.tr k'))⟩
theorem v_readDisc {o n v Z : Nat} {M : z_Mem} {B : List Nat} {R : Int32} {c A : q_R} {W : q_W} (h : v_D o M (v_disc n v B) Z R c A W) (hB : v_hd B) (hn2 : 2 ≤ n) (hn4 : n ≤ 4) (hv : v ≤ 90) : ∃ M', F_TextReader_readClause o M = some M' ∧ v_D o M' B Z R c (q_w A (8 + n) (Int32.ofNat v)) W ∧ v_kp o M M' := by
  obtain ⟨M1, D1, x1, e1⟩ := v_c30 h (by omega) (by omega) (v_n3_hd (by omega) _) (fun q => by omega)
  rw [e1, if_neg (by decide), if_neg (by decide), if_pos (by decide)]
  obtain ⟨M2, e2, D2, x2⟩ := v_take3 (a := 2) (b := 4) D1 (by omega) (v_n9_hd (by omega) _) hn2 hn4 (by omega)
  have s1 : z_sv 1 (5 + n) = Int32.ofNat 0 := by
    rcases (show n = 2 ∨ n = 3 ∨ n = 4 by omega) with rfl | rfl | rfl <;> rfl
  have s2 : z_sv 2 (5 + n) = Int32.ofNat 90 := by
    rcases (show n = 2 ∨ n = 3 ∨ n = 4 by omega) with rfl | rfl | rfl <;> rfl
  obtain ⟨M3, e3, D3, k3⟩ := v_ruleV (k := 5 + n) D2 (by omega) (by omega) s1 s2 (by omega) hv (by omega) (fun _ => hv) (fun q => by omega) (fun q => by omega)
  rw [zb2_ok (show F_Tokens_takeNumber o 2 4 M1 = some (Int32.ofNat n, M2) from e2), show (7 : Int32) + Int32.ofNat n - 2 = Int32.ofNat (5 + n) by
    rw [show (7 : Int32) = Int32.ofNat 7 from rfl, i_add, show (2 : Int32) = Int32.ofNat 2 from rfl, i_sub (by omega), show 7 + n - 2 = 5 + n by omega], zb_ok e3]
  rw [show 3 + (5 + n) = 8 + n by omega] at D3
  obtain ⟨M', e, D', k'⟩ := v_end D3 hB
  exact ⟨M', e, D', x1.kp.tr (x2.kp.tr (k3.tr k'))⟩
theorem v_readTarf {o f r Z : Nat} {M : z_Mem} {B : List Nat} {R : Int32} {c A : q_R} {W : q_W} (h : v_D o M (v_tarf f r B) Z R c A W) (hB : v_hd B) (hf : f < 1000) (hr : r < 1000) : ∃ M', F_TextReader_readClause o M = some M' ∧ v_D o M' B Z R (q_w c 67 (Int32.ofNat f)) (q_w A 2 (Int32.ofNat r)) W ∧ v_kp o M M' := by
  obtain ⟨M1, D1, x1, e1⟩ := v_c30 h (by omega) (by omega) (v_n3_hd (by omega) _) (fun q => by omega)
  rw [e1, if_neg (by decide), if_pos (by decide)]
  obtain ⟨M2, e2, ⟨K2, ⟨C1, C2, C3, C4⟩, ⟨i1, i2, i3, i4, ⟨i5, i6⟩, i7, i8⟩, ⟨j0, j4, j6, jt⟩⟩, x2⟩ := v_take3 (a := 0) (b := 9999) D1 hf (v_n9_hd hr _) (by omega) (by omega) (by omega)
  rw [zb2_ok (show F_Tokens_takeNumber o 0 9999 M1 = some (Int32.ofNat f, M2) from e2), zl_eq]
  have eT : q_T (q_w c 67 (Int32.ofNat f)) = q_T c := q_T_eq (q_w_ne (by decide))
  have D3 : v_D o (z_wI M2 (o + 507) 1 (Int32.ofNat f)) (v_n9 r B) Z R (q_w c 67 (Int32.ofNat f)) A W := by
    refine ⟨K2.keep (fun x p q => funext fun j => w_addr _ (by omega)), ⟨(w_addr _ (by omega)).trans C1, (w_addr _ (by omega)).trans C2, fun a b p q => (w_addr _ (by omega)).trans (C3 a b p q), C4.flag i4⟩, ⟨i1, i2, ⟨by rw [eT]; exact (q_w_ne (by decide)).trans i3.1, by rw [eT]; exact i3.2⟩, i4, ⟨i5, i6⟩, fun t ht => ?_, fun j p q => ?_⟩, j0, j4, j6, fun t ht => ?_⟩
    · rw [eT] at ht
      rw [q_w_ne (by omega)]
      exact i7 t ht
    · rw [eT] at p
      exact i8 j p q
    · rw [eT] at ht
      exact jt t ht
  obtain ⟨M4, e4, ⟨K4, ⟨C1, C2, C3, C4⟩, ⟨i1, i2, i3, i4, ⟨i5, i6⟩, i7, i8⟩, ⟨j0, j4, j6, jt⟩⟩, x4⟩ := v_take9 (a := 0) (b := 999) D3 hr (by omega) (by omega) (by omega)
  rw [zb2_ok (show F_Tokens_takeNumber o 0 999 _ = some (Int32.ofNat r, M4) from e4), zl_eq]
  have D5 : v_D o (z_wI M4 (o + 507) 2 (Int32.ofNat r)) (59 :: B) Z R (q_w c 67 (Int32.ofNat f)) (q_w A 2 (Int32.ofNat r)) W := by
    refine ⟨K4.keep (fun x p q => funext fun j => w_addr _ (by omega)), ⟨(w_addr _ (by omega)).trans C1, (w_addr _ (by omega)).trans C2, fun a b p q => (w_addr _ (by omega)).trans (C3 a b p q), C4.rate i4⟩, ⟨i1, i2, i3, (q_w_ne (by omega)).trans i4, ⟨⟨r, by omega, q_w_same _ _ _⟩, fun j hj => ?_⟩, fun t ht => ?_, fun j p q => ?_⟩, (q_w_ne (by omega)).trans j0, ?_, ?_, fun t ht => ?_⟩
    · rw [q_w_ne (by omega)]
      exact i6 j hj
    · have := i7 t ht
      rw [q_w_ne (A := A) (by omega), q_w_ne (A := A) (by omega), q_w_ne (A := A) (by omega), q_w_ne (A := A) (by omega)]
      exact this
    · rw [q_w_ne (by omega)]
      exact i8 j p q
    · rw [q_w_ne (by omega)]
      exact j4
    · rw [q_w_ne (by omega)]
      exact j6
    · obtain ⟨p, q⟩ := jt t ht
      refine ⟨?_, fun j a b => ?_⟩
      · rw [q_w_ne (by omega)]
        exact p
      · rw [q_w_ne (by omega)]
        exact q j a b
  obtain ⟨M', e, D', k'⟩ := v_end D5 hB
  exact ⟨M', e, D', x1.kp.tr (x2.kp.tr ((v_kp.in (fun x p => funext fun j => w_addr _ (by omega)) rfl).tr (x4.kp.tr ((v_kp.in (fun x p => funext fun j => w_addr _ (by omega)) rfl).tr k'))))⟩
theorem v_readTaxi {o s z b e Z : Nat} {M : z_Mem} {B : List Nat} {R : Int32} {c A : q_R} {W : q_W} (h : v_D o M (v_taxi s z b e B) Z R c A W) (hB : v_hd B) (ht4 : q_T c < 4) (hs1 : 1 ≤ s) (hs6 : s ≤ 6) (hz : z < Z) (he : e < 1000) (hbe : b < e) : ∃ M', F_TextReader_readClause o M = some M' ∧ v_D o M' B Z R (r_tc c (q_T c) (Int32.ofNat s) (Int32.ofNat b)) (r_tA A (q_T c) (Int32.ofNat z) (Int32.ofNat b) (Int32.ofNat e)) W ∧ v_kp o M M' := by
  have hZ := h.2.2.1.1
  obtain ⟨M1, D1, x1, e1⟩ := v_c30 h (by omega) (by omega) (v_n3_hd (by omega) _) (fun _ => ht4)
  rw [e1, if_neg (by decide), if_neg (by decide), if_neg (by decide), if_neg (by decide), if_pos (by decide)]
  unfold F_TextReader_readTaxi
  obtain ⟨M2, e2, D2, x2⟩ := v_take3 (a := 1) (b := 6) D1 (by omega) (v_n3_hd (by omega) _) hs1 hs6 (by omega)
  obtain ⟨M3, e3, D3, x3⟩ := v_take3 (a := 0) (b := Z - 1) D2 (by omega) (v_n3_hd (by omega) _) (by omega) (by omega) (by omega)
  obtain ⟨M4, e4, D4, x4⟩ := v_take3 (a := 0) (b := 2879) D3 (by omega) (v_n9_hd (by omega) _) (by omega) (by omega) (by omega)
  have hc : F_Tokens_checkNumber o (Int32.ofNat 0) (Int32.ofNat 2879) M4 = some (Int32.ofNat e, M4) := v_check (R := 59 :: B) D4.1 he ⟨v_59_hd B, Or.inr ⟨rfl, B, rfl⟩⟩ (by omega) (by omega) (by omega)
  rw [zb2_ok (show F_Tokens_takeNumber o 1 6 M1 = some (Int32.ofNat s, M2) from e2), D2.2.1.z hZ.1, zb2_ok (show F_Tokens_takeNumber o 0 (Int32.ofNat (Z - 1)) M2 = some (Int32.ofNat z, M3) from e3), zb2_ok (show F_Tokens_takeNumber o 0 2879 M3 = some (Int32.ofNat b, M4) from e4), zb2_ok (show F_Tokens_checkNumber o 0 2879 M4 = some (Int32.ofNat e, M4) from hc), if_pos ((i_lt (by omega) (by omega)).mpr hbe)]
  obtain ⟨-, -, M7, e7, K7, x7⟩ := D4.1.num (R := 59 :: B) he ⟨v_59_hd B, Or.inr ⟨rfl, B, rfl⟩⟩
  obtain ⟨C1, C2, C3, C4⟩ := D4.2.1.nx x7
  obtain ⟨⟨i1, i2, ⟨i3, i3'⟩, i4, ⟨i5, i6⟩, i7, i8⟩, ⟨j0, j4, j6, jt⟩⟩ := D4.2.2
  obtain ⟨t, et⟩ : ∃ t, t = q_T c := ⟨_, rfl⟩
  rw [← et] at i3 i3' i7 i8 ht4 jt ⊢
  have g3 : M7.1 (o + 507) 3 = Int32.ofNat t := C4.2.2.2.2.1.trans i3
  have ib4 : z_inb (Int32.ofNat t) 4 := (i_inb (by omega)).mpr ht4
  unfold F_TextReader_readTaxi_J68
  rw [zb_ok e7, g3, if_neg (i_nn (by omega)), if_neg (show ¬ (4 : Int32) ≤ Int32.ofNat t from i_nle (a := 4) (by decide) (by omega) ht4), if_pos ib4, zl_eq, i_cl (by omega)]
  obtain ⟨M8, e8, hS, hx8, hl8⟩ := t_startShift (o + 507 + 4 + 3 * t) (Int32.ofNat s) (Int32.ofNat z) (Int32.ofNat b) (Int32.ofNat e) M7
  rw [zb_ok e8, zl_eq, hx8 (o + 507) (by omega), g3, i_succ, zb_ok rfl]
  have hC' := C4.more i4 et ht4 i8 hS hx8
  obtain ⟨e66, eT⟩ := r_tc_66 c t (Int32.ofNat s) (Int32.ofNat b) ht4
  obtain ⟨a13, a14, a16, a17⟩ := r_tA_at (A := A) (t := t) (z := Int32.ofNat z) (b := Int32.ofNat b) (e := Int32.ofNat e)
  obtain ⟨c70, c80⟩ := r_tc_70 (c := c) (n := Int32.ofNat s) (b := Int32.ofNat b) ht4
  have k9 : ∀ x, (x < o + 507 ∨ o + 547 ≤ x) → (z_wI M8 (o + 507) 3 (Int32.ofNat (t + 1))).1 x = M7.1 x := fun x hx => (funext fun k => w_addr _ (by omega)).trans (hx8 x (by omega))
  have D9 : v_D o (z_wI M8 (o + 507) 3 (Int32.ofNat (t + 1))) (59 :: B) Z R (r_tc c t (Int32.ofNat s) (Int32.ofNat b)) (r_tA A t (Int32.ofNat z) (Int32.ofNat b) (Int32.ofNat e)) W := by
    refine ⟨K7.keep (fun x p q => k9 x (by omega)), ⟨?_, ?_, ?_, hC'⟩, ⟨i1, i2, ⟨?_, ?_⟩, ?_, ⟨?_, ?_⟩, ?_, ?_⟩, ?_, ?_, ?_, ?_⟩
    · rw [k9 _ (by omega)]; exact C1
    · rw [k9 _ (by omega)]; exact C2
    · intro a b' ha hb'
      rw [k9 _ (by omega)]
      exact C3 a b' ha hb'
    · rw [eT]; exact e66
    · rw [eT]; omega
    · exact (r_tA_ne (by omega)).trans i4
    · rw [r_tA_ne (by omega)]; exact i5
    · intro k hk
      rw [r_tA_ne (by omega)]
      exact i6 k hk
    · intro u hu
      rw [eT] at hu
      by_cases hut : u = t
      · rw [hut, a13, c70, a16, r_tA_ne (by omega), r_tA_ne (by omega)]
        exact ⟨⟨z, by omega, rfl⟩, ⟨s, hs6, rfl⟩, rfl, i8 _ (by omega) (by omega), i8 _ (by omega) (by omega)⟩
      · rw [r_tA_ne (by omega), r_tc_ne (by omega) (by omega) (by omega), r_tA_ne (by omega), r_tA_ne (by omega), r_tA_ne (by omega)]
        exact i7 u (by omega)
    · intro k h1 h2
      rw [eT] at h1
      rw [r_tA_ne (by omega)]
      exact i8 k (by omega) h2
    · rw [r_tA_ne (by omega)]; exact j0
    · rw [r_tA_ne (by omega)]; exact j4
    · rw [r_tA_ne (by omega)]; exact j6
    · intro u hu
      rw [eT] at hu
      by_cases hut : u = t
      · rw [hut, a14]
        refine ⟨⟨b, by omega, rfl⟩, fun k p q => ?_⟩
        rw [r_tA_ne (by omega)]
        exact i8 _ (by omega) (by omega)
      · obtain ⟨p, q⟩ := jt u (by omega)
        refine ⟨?_, fun k a b => ?_⟩
        · rw [r_tA_ne (by omega)]
          exact p
        · rw [r_tA_ne (by omega)]
          exact q k a b
  obtain ⟨M', e', D', k'⟩ := v_end D9 hB
  exact ⟨M', e', D', x1.kp.tr (x2.kp.tr (x3.kp.tr (x4.kp.tr (x7.kp.tr ((v_kp.in (fun x h => k9 x (by omega)) hl8).tr k')))))⟩
