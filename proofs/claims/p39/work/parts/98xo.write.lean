/-! ===== PURE: what the law writes ===== -/
/-- the law's text is X -/
def v_tx (a : Nat) (X : List Nat) (M : z_Mem) : Prop := M.1 a 1 = Int32.ofNat X.length ∧ ∀ i x, X[i]? = some x → M.1 (a + 1) i = Int32.ofNat x ∧ x < 128
def v_fr (a : Nat) (M M' : z_Mem) : Prop := (∀ x, x ≠ a → x ≠ a + 1 → M'.1 x = M.1 x) ∧ ∀ k, k ≠ 1 → M'.1 a k = M.1 a k
theorem v_fr.rfl' {a : Nat} {M : z_Mem} : v_fr a M M := ⟨fun _ _ _ => rfl, fun _ _ => rfl⟩
theorem v_fr.tr {a : Nat} {M M' M'' : z_Mem} (h : v_fr a M M') (h' : v_fr a M' M'') : v_fr a M M'' := ⟨fun x p q => (h'.1 x p q).trans (h.1 x p q), fun k p => (h'.2 k p).trans (h.2 k p)⟩
theorem v_put {a x : Nat} {X : List Nat} {M : z_Mem} (h : v_tx a X M) (hx : x < 128) : v_tx a (X ++ [x]) (z_wI (z_wI M (a + 1) X.length (Int32.ofNat x)) a 1 (Int32.ofNat (X.length + 1))) ∧ v_fr a M (z_wI (z_wI M (a + 1) X.length (Int32.ofNat x)) a 1 (Int32.ofNat (X.length + 1))) := by
  refine ⟨⟨?_, fun i y hy => ?_⟩, fun y p q => funext fun k => (w_addr _ p).trans (w_addr _ q), fun k hk => (w_slot _ hk).trans (w_addr _ (by omega))⟩
  · rw [w_same, List.length_append, List.length_singleton]
  · rw [w_addr _ (by omega)]
    by_cases hi : i < X.length
    · rw [List.getElem?_append_left hi] at hy
      rw [w_slot _ (by omega)]
      exact h.2 i y hy
    · have hl := (List.getElem?_eq_some_iff.mp hy).1
      rw [List.length_append, List.length_singleton] at hl
      have hi : i = X.length := by omega
      rw [hi, List.getElem?_append_right (Nat.le_refl _), Nat.sub_self] at hy
      have hy : x = y := Option.some.inj hy
      rw [hi, w_same, hy]
      exact ⟨rfl, by omega⟩
def v_ch (w : Nat) : List Nat := (z_tw w).2.2.2.map fun x => x.toNatClampNeg
theorem v_chs : ∀ w : Fin 14, w.val ≠ 0 → ((v_ch w.val).length = z_tl w.val ∧ z_tl w.val ≤ 8) ∧ ∀ j : Fin 8, j.val < z_tl w.val → z_tc w.val j.val = Int32.ofNat ((v_ch w.val).getD j.val 0) ∧ (v_ch w.val).getD j.val 0 < 128 := by decide +kernel
theorem v_writesL {a w : Nat} (hw : w < 14) (hw0 : w ≠ 0) : ∀ (r i f : Nat) (M : z_Mem) (X : List Nat), i + r = z_tl w → r < f → X.length + r ≤ 800 → v_tx a X M → ∃ M', F_Law_writes_L2 a w f (Int32.ofNat i) M = some M' ∧ v_tx a (X ++ (v_ch w).drop i) M' ∧ v_fr a M M' := by
  obtain ⟨⟨hl, h8⟩, hch⟩ := v_chs ⟨w, hw⟩ hw0
  have hl : (v_ch w).length = z_tl w := hl
  have h8 : z_tl w ≤ 8 := h8
  intro r
  induction r with
  | zero =>
    intro i f M X hi hf hX h
    obtain ⟨f, rfl⟩ : ∃ g, f = g + 1 := ⟨f - 1, by omega⟩
    refine ⟨M, ?_, ?_, v_fr.rfl'⟩
    · unfold F_Law_writes_L2 F_Law_writes_B2
      rw [if_pos ((i_le (by omega) (by omega)).mpr (by omega))]
    · rw [List.drop_eq_nil_of_le (by omega), List.append_nil]
      exact h
  | succ r ih =>
    intro i f M X hi hf hX h
    obtain ⟨f, rfl⟩ : ∃ g, f = g + 1 := ⟨f - 1, by omega⟩
    obtain ⟨c1, c2⟩ := hch ⟨i, by omega⟩ (by show i < z_tl w; omega)
    have c1 : z_tc w i = Int32.ofNat ((v_ch w).getD i 0) := c1
    have c2 : (v_ch w).getD i 0 < 128 := c2
    obtain ⟨t1, f1⟩ := v_put h c2
    obtain ⟨M', e, t', f'⟩ := ih (i + 1) f _ (X ++ [(v_ch w).getD i 0]) (by omega) (by omega) (by rw [List.length_append, List.length_singleton]; omega) t1
    refine ⟨M', ?_, ?_, f1.tr f'⟩
    · have eU : F_Law_writes_L2 a w (f + 1) (Int32.ofNat i) M = F_Law_writes_B2 a w (F_Law_writes_L2 a w f) (Int32.ofNat i) M := rfl
      rw [eU]
      unfold F_Law_writes_B2
      rw [if_neg (i_nle (by omega) (by omega) (by omega)), if_pos ((i_inb (by omega)).mpr (by omega)), h.1, if_pos ((i_inb (by omega)).mpr (by omega)), i_cl (by omega), i_cl (by omega), zl_eq, zl_eq, zl_eq, w_addr _ (by omega), h.1, i_succ, i_succ, c1]
      exact e
    · have hd : (v_ch w).drop i = (v_ch w).getD i 0 :: (v_ch w).drop (i + 1) := by
        rw [List.drop_eq_getElem_cons (by omega), List.getD_eq_getElem?_getD, List.getElem?_eq_getElem (by omega)]
        rfl
      rw [hd]
      rw [List.append_assoc] at t'
      exact t'
theorem v_writes {a w : Nat} {M : z_Mem} {X : List Nat} (hw : w < 14) (hw0 : w ≠ 0) (hX : X.length + 8 ≤ 800) (h : v_tx a X M) : ∃ M', F_Law_writes a w M = some M' ∧ v_tx a (X ++ v_ch w) M' ∧ v_fr a M M' := by
  have h8 : z_tl w ≤ 8 := (v_chs ⟨w, hw⟩ hw0).1.2
  exact v_writesL hw hw0 (z_tl w) 0 10000 M X (by omega) (by omega) (by omega) h
/-! numbers -/
theorem v_dig {a n p f : Nat} {M : z_Mem} {X : List Nat} (h : v_tx a X M) (hX : X.length < 800) (hp : 0 < p) (hp3 : p < 2 ^ 31) (hn : n < 2 ^ 31) : ∃ M', F_Law_number_L18 a (f + 1) (Int32.ofNat n) (Int32.ofNat p) M = F_Law_number_L18 a f (Int32.ofNat n) (Int32.ofNat (p / 10)) M' ∧ v_tx a (X ++ [48 + n / p % 10]) M' ∧ v_fr a M M' := by
  have hd : n / p ≤ n := Nat.div_le_self _ _
  have hm := Nat.mod_lt (n / p) (show 0 < 10 by omega)
  obtain ⟨t1, f1⟩ := v_put h (show 48 + n / p % 10 < 128 by omega)
  refine ⟨_, ?_, t1, f1⟩
  have eU : F_Law_number_L18 a (f + 1) (Int32.ofNat n) (Int32.ofNat p) M = F_Law_number_B18 a (F_Law_number_L18 a f) (Int32.ofNat n) (Int32.ofNat p) M := rfl
  have r10 : Int32.ofNat (n / p) - Int32.ofNat (n / p) / 10 * 10 = Int32.ofNat (n / p % 10) := i_rem (b := 10) (by omega) (by decide)
  have e48 : (48 : Int32) + Int32.ofNat (n / p % 10) = Int32.ofNat (48 + n / p % 10) := i_add 48 _
  have d10 : Int32.ofNat p / 10 = Int32.ofNat (p / 10) := i_div (b := 10) hp3 (by decide)
  rw [eU]
  unfold F_Law_number_B18
  rw [if_neg (show ¬ Int32.ofNat p ≤ (0 : Int32) from i_nle (b := 0) hp3 (by decide) hp), if_pos (show ¬ Int32.ofNat p = 0 from i_ne0 hp3 (by omega)), h.1, if_pos ((i_inb (by omega)).mpr (by omega)), i_cl (by omega), i_div hn hp3, r10, e48, zl_eq, zl_eq, zl_eq, w_addr _ (by omega), h.1, i_succ, d10]
theorem v_dig0 {a n f : Nat} {M : z_Mem} : F_Law_number_L18 a (f + 1) (Int32.ofNat n) (Int32.ofNat 0) M = some M := by
  unfold F_Law_number_L18 F_Law_number_B18
  rw [if_pos (by decide)]
theorem v_fnd1 {a n p f : Nat} {M : z_Mem} (hp : 0 < p) (hp3 : p < 2 ^ 31) (hn : n < 2 ^ 31) (h : n / p ≤ 9) : F_Law_number_L2 a (f + 1) (Int32.ofNat n) (Int32.ofNat p) M = F_Law_number_L18 a 10000 (Int32.ofNat n) (Int32.ofNat p) M := by
  have eU : F_Law_number_L2 a (f + 1) (Int32.ofNat n) (Int32.ofNat p) M = F_Law_number_B2 a (F_Law_number_L2 a f) (Int32.ofNat n) (Int32.ofNat p) M := rfl
  rw [eU]
  unfold F_Law_number_B2
  rw [if_pos (show ¬ Int32.ofNat p = 0 from i_ne0 hp3 (by omega)), i_div hn hp3, if_pos (show Int32.ofNat (n / p) ≤ (9 : Int32) from (i_le (b := 9) (by omega) (by decide)).mpr h)]
theorem v_fnd2 {a n p f : Nat} {M : z_Mem} (hp : 0 < p) (hp3 : p < 2 ^ 31) (hn : n < 2 ^ 31) (h : ¬ n / p ≤ 9) : F_Law_number_L2 a (f + 1) (Int32.ofNat n) (Int32.ofNat p) M = F_Law_number_L2 a f (Int32.ofNat n) (Int32.ofNat (p * 10)) M := by
  have hd : n / p ≤ n := Nat.div_le_self _ _
  have eU : F_Law_number_L2 a (f + 1) (Int32.ofNat n) (Int32.ofNat p) M = F_Law_number_B2 a (F_Law_number_L2 a f) (Int32.ofNat n) (Int32.ofNat p) M := rfl
  have e10 : Int32.ofNat p * 10 = Int32.ofNat (p * 10) := i_mul p 10
  rw [eU]
  unfold F_Law_number_B2
  rw [if_pos (show ¬ Int32.ofNat p = 0 from i_ne0 hp3 (by omega)), i_div hn hp3, if_neg (show ¬ Int32.ofNat (n / p) ≤ (9 : Int32) from i_nle (b := 9) (by omega) (by decide) (by omega)), zl_eq, e10]
theorem v_numb {a n : Nat} {M : z_Mem} {X : List Nat} (hn : n < 1000) (hX : X.length + 3 ≤ 800) (h : v_tx a X M) : ∃ M', F_Law_number a (Int32.ofNat n) M = some M' ∧ v_tx a (X ++ v_dg n) M' ∧ v_fr a M M' := by
  have e0 : F_Law_number a (Int32.ofNat n) M = F_Law_number_L2 a 10000 (Int32.ofNat n) (Int32.ofNat 1) M := rfl
  rw [e0]
  by_cases c1 : n < 10
  · obtain ⟨M1, e1, t1, f1⟩ := v_dig (n := n) (p := 1) (f := 9999) h (by omega) (by omega) (by omega) (by omega)
    have ed : v_dg n = [48 + n / 1 % 10] := by
      unfold v_dg
      rw [if_pos c1, show n / 1 % 10 = n by omega]
    refine ⟨M1, ?_, by rw [ed]; exact t1, f1⟩
    rw [v_fnd1 (f := 9999) (by omega) (by omega) (by omega) (show n / 1 ≤ 9 by omega), e1]
    exact v_dig0
  · by_cases c2 : n < 100
    · obtain ⟨M1, e1, t1, f1⟩ := v_dig (n := n) (p := 10) (f := 9999) h (by omega) (by omega) (by omega) (by omega)
      obtain ⟨M2, e2, t2, f2⟩ := v_dig (n := n) (p := 10 / 10) (f := 9998) t1 (by rw [List.length_append, List.length_singleton]; omega) (by omega) (by omega) (by omega)
      have ed : v_dg n = [48 + n / 10 % 10] ++ [48 + n / (10 / 10) % 10] := by
        unfold v_dg
        rw [if_neg c1, if_pos c2, show n / 10 % 10 = n / 10 by omega, show n / (10 / 10) % 10 = n % 10 by rw [show 10 / 10 = 1 from rfl, Nat.div_one]]
        rfl
      refine ⟨M2, ?_, by rw [ed, ← List.append_assoc]; exact t2, f1.tr f2⟩
      rw [v_fnd2 (f := 9999) (by omega) (by omega) (by omega) (show ¬ n / 1 ≤ 9 by omega), v_fnd1 (f := 9998) (by omega) (by omega) (by omega) (show n / (1 * 10) ≤ 9 by omega)]
      exact e1.trans (e2.trans v_dig0)
    · obtain ⟨M1, e1, t1, f1⟩ := v_dig (n := n) (p := 100) (f := 9999) h (by omega) (by omega) (by omega) (by omega)
      obtain ⟨M2, e2, t2, f2⟩ := v_dig (n := n) (p := 100 / 10) (f := 9998) t1 (by rw [List.length_append, List.length_singleton]; omega) (by omega) (by omega) (by omega)
      obtain ⟨M3, e3, t3, f3⟩ := v_dig (n := n) (p := 100 / 10 / 10) (f := 9997) t2 (by rw [List.length_append, List.length_singleton, List.length_append, List.length_singleton]; omega) (by omega) (by omega) (by omega)
      have ed : v_dg n = [48 + n / 100 % 10] ++ [48 + n / (100 / 10) % 10] ++ [48 + n / (100 / 10 / 10) % 10] := by
        unfold v_dg
        rw [if_neg c1, if_neg c2, show n / 100 % 10 = n / 100 by omega, show n / (100 / 10 / 10) % 10 = n % 10 by rw [show 100 / 10 / 10 = 1 from rfl, Nat.div_one], show 100 / 10 = 10 from rfl]
        rfl
      refine ⟨M3, ?_, by rw [ed, ← List.append_assoc, ← List.append_assoc]; exact t3, f1.tr (f2.tr f3)⟩
      rw [v_fnd2 (f := 9999) (by omega) (by omega) (by omega) (show ¬ n / 1 ≤ 9 by omega), v_fnd2 (f := 9998) (by omega) (by omega) (by omega) (show ¬ n / (1 * 10) ≤ 9 by omega), v_fnd1 (f := 9997) (by omega) (by omega) (by omega) (show n / (1 * 10 * 10) ≤ 9 by omega)]
      exact e1.trans (e2.trans (e3.trans v_dig0))
/-! clauses -/
theorem v_ch1 : v_ch 1 = [32] := by decide +kernel
theorem v_ch2 : v_ch 2 = [59] := by decide +kernel
theorem v_ch_len {w : Nat} (hw : w < 14) (hw0 : w ≠ 0) : (v_ch w).length ≤ 8 := by
  obtain ⟨⟨h1, h2⟩, -⟩ := v_chs ⟨w, hw⟩ hw0
  have h1 : (v_ch w).length = z_tl w := h1
  have h2 : z_tl w ≤ 8 := h2
  omega
theorem v_spc {a : Nat} {M : z_Mem} {X : List Nat} (hX : X.length + 8 ≤ 800) (h : v_tx a X M) : ∃ M', F_Law_writes a 1 M = some M' ∧ v_tx a (X ++ [32]) M' ∧ v_fr a M M' := by
  rw [← v_ch1]
  exact v_writes (by omega) (by omega) hX h
theorem v_sem {a : Nat} {M : z_Mem} {X : List Nat} (hX : X.length + 8 ≤ 800) (h : v_tx a X M) : ∃ M', F_Law_writes a 2 M = some M' ∧ v_tx a (X ++ [59]) M' ∧ v_fr a M M' := by
  rw [← v_ch2]
  exact v_writes (by omega) (by omega) hX h
/-- a blank and a number -/
theorem v_sn {a n : Nat} {M : z_Mem} {X : List Nat} (hn : n < 1000) (hX : X.length + 16 ≤ 800) (h : v_tx a X M) {K : z_Mem → Option z_Mem} : ∃ M', (zb (F_Law_writes a 1 M) fun M2 => zb (F_Law_number a (Int32.ofNat n) M2) K) = K M' ∧ v_tx a (X ++ 32 :: v_dg n) M' ∧ v_fr a M M' := by
  obtain ⟨M1, e1, t1, f1⟩ := v_spc (by omega) h
  obtain ⟨M2, e2, t2, f2⟩ := v_numb hn (by rw [List.length_append, List.length_singleton]; omega) t1
  refine ⟨M2, ?_, ?_, f1.tr f2⟩
  · rw [zb_ok e1, zb_ok e2]
  · rw [List.append_assoc] at t2
    exact t2
theorem v_len_sn {X : List Nat} {n b : Nat} (h : X.length ≤ b) : (X ++ 32 :: v_dg n).length ≤ b + 4 := by
  have := (v_dg_len n).2
  rw [List.length_append, List.length_cons]
  omega
theorem v_cl2 {a w p q : Nat} {M : z_Mem} {X : List Nat} (hw : w < 14) (hw0 : w ≠ 0) (hp : p < 1000) (hq : q < 1000) (hX : X.length ≤ 700) (h : v_tx a X M) : ∃ M', F_Law_clause a w (Int32.ofNat p) (Int32.ofNat q) (-1) (-1) M = some M' ∧ v_tx a (X ++ v_ch w ++ 32 :: v_dg p ++ 32 :: v_dg q ++ [59]) M' ∧ v_fr a M M' := by
  have hl := v_ch_len hw hw0
  obtain ⟨M1, e1, t1, f1⟩ := v_writes hw hw0 (by omega) h
  have l1 : (X ++ v_ch w).length ≤ 708 := by
    rw [List.length_append]
    omega
  unfold F_Law_clause
  rw [zb_ok e1]
  obtain ⟨M2, e2, t2, f2⟩ := v_sn (n := p) hp (by omega) t1 (K := fun M3 => zb (F_Law_writes a 1 M3) fun M4 => zb (F_Law_number a (Int32.ofNat q) M4) fun M5 => if (-1 : Int32) < 0 then F_Law_clause_J44 a w (-1) M5 else zb (F_Law_writes a 1 M5) fun M6 => zb (F_Law_number a (-1) M6) fun M7 => F_Law_clause_J44 a w (-1) M7)
  have l2 := v_len_sn (n := p) l1
  obtain ⟨M3, e3, t3, f3⟩ := v_sn (n := q) hq (by omega) t2 (K := fun M5 => if (-1 : Int32) < 0 then F_Law_clause_J44 a w (-1) M5 else zb (F_Law_writes a 1 M5) fun M6 => zb (F_Law_number a (-1) M6) fun M7 => F_Law_clause_J44 a w (-1) M7)
  have l3 := v_len_sn (n := q) l2
  obtain ⟨M4, e4, t4, f4⟩ := v_sem (by omega) t3
  refine ⟨M4, ?_, t4, f1.tr (f2.tr (f3.tr f4))⟩
  rw [e2, e3, if_pos (by decide)]
  unfold F_Law_clause_J44 F_Law_clause_J61
  rw [if_pos (by decide), zb_ok e4]
theorem v_cl3 {a w p q r : Nat} {M : z_Mem} {X : List Nat} (hw : w < 14) (hw0 : w ≠ 0) (hp : p < 1000) (hq : q < 1000) (hr : r < 1000) (hX : X.length ≤ 700) (h : v_tx a X M) : ∃ M', F_Law_clause a w (Int32.ofNat p) (Int32.ofNat q) (Int32.ofNat r) (-1) M = some M' ∧ v_tx a (X ++ v_ch w ++ 32 :: v_dg p ++ 32 :: v_dg q ++ 32 :: v_dg r ++ [59]) M' ∧ v_fr a M M' := by
  have hl := v_ch_len hw hw0
  obtain ⟨M1, e1, t1, f1⟩ := v_writes hw hw0 (by omega) h
  have l1 : (X ++ v_ch w).length ≤ 708 := by
    rw [List.length_append]
    omega
  unfold F_Law_clause
  rw [zb_ok e1]
  obtain ⟨M2, e2, t2, f2⟩ := v_sn (n := p) hp (by omega) t1 (K := fun M3 => zb (F_Law_writes a 1 M3) fun M4 => zb (F_Law_number a (Int32.ofNat q) M4) fun M5 => if Int32.ofNat r < 0 then F_Law_clause_J44 a w (-1) M5 else zb (F_Law_writes a 1 M5) fun M6 => zb (F_Law_number a (Int32.ofNat r) M6) fun M7 => F_Law_clause_J44 a w (-1) M7)
  have l2 := v_len_sn (n := p) l1
  obtain ⟨M3, e3, t3, f3⟩ := v_sn (n := q) hq (by omega) t2 (K := fun M5 => if Int32.ofNat r < 0 then F_Law_clause_J44 a w (-1) M5 else zb (F_Law_writes a 1 M5) fun M6 => zb (F_Law_number a (Int32.ofNat r) M6) fun M7 => F_Law_clause_J44 a w (-1) M7)
  have l3 := v_len_sn (n := q) l2
  obtain ⟨M4, e4, t4, f4⟩ := v_sn (n := r) hr (by omega) t3 (K := fun M7 => F_Law_clause_J44 a w (-1) M7)
  have l4 := v_len_sn (n := r) l3
  obtain ⟨M5, e5, t5, f5⟩ := v_sem (by omega) t4
  refine ⟨M5, ?_, t5, f1.tr (f2.tr (f3.tr (f4.tr f5)))⟩
  rw [e2, e3, if_neg (i_nn (by omega)), e4]
  unfold F_Law_clause_J44 F_Law_clause_J61
  rw [if_pos (by decide), zb_ok e5]
theorem v_cl4 {a w p q r u : Nat} {M : z_Mem} {X : List Nat} (hw : w < 14) (hw0 : w ≠ 0) (hp : p < 1000) (hq : q < 1000) (hr : r < 1000) (hu : u < 1000) (hX : X.length ≤ 700) (h : v_tx a X M) : ∃ M', F_Law_clause a w (Int32.ofNat p) (Int32.ofNat q) (Int32.ofNat r) (Int32.ofNat u) M = some M' ∧ v_tx a (X ++ v_ch w ++ 32 :: v_dg p ++ 32 :: v_dg q ++ 32 :: v_dg r ++ 32 :: v_dg u ++ [59]) M' ∧ v_fr a M M' := by
  have hl := v_ch_len hw hw0
  obtain ⟨M1, e1, t1, f1⟩ := v_writes hw hw0 (by omega) h
  have l1 : (X ++ v_ch w).length ≤ 708 := by
    rw [List.length_append]
    omega
  unfold F_Law_clause
  rw [zb_ok e1]
  obtain ⟨M2, e2, t2, f2⟩ := v_sn (n := p) hp (by omega) t1 (K := fun M3 => zb (F_Law_writes a 1 M3) fun M4 => zb (F_Law_number a (Int32.ofNat q) M4) fun M5 => if Int32.ofNat r < 0 then F_Law_clause_J44 a w (Int32.ofNat u) M5 else zb (F_Law_writes a 1 M5) fun M6 => zb (F_Law_number a (Int32.ofNat r) M6) fun M7 => F_Law_clause_J44 a w (Int32.ofNat u) M7)
  have l2 := v_len_sn (n := p) l1
  obtain ⟨M3, e3, t3, f3⟩ := v_sn (n := q) hq (by omega) t2 (K := fun M5 => if Int32.ofNat r < 0 then F_Law_clause_J44 a w (Int32.ofNat u) M5 else zb (F_Law_writes a 1 M5) fun M6 => zb (F_Law_number a (Int32.ofNat r) M6) fun M7 => F_Law_clause_J44 a w (Int32.ofNat u) M7)
  have l3 := v_len_sn (n := q) l2
  obtain ⟨M4, e4, t4, f4⟩ := v_sn (n := r) hr (by omega) t3 (K := fun M7 => F_Law_clause_J44 a w (Int32.ofNat u) M7)
  have l4 := v_len_sn (n := r) l3
  obtain ⟨M5, e5, t5, f5⟩ := v_sn (n := u) hu (by omega) t4 (K := fun M9 => F_Law_clause_J61 a w M9)
  have l5 := v_len_sn (n := u) l4
  obtain ⟨M6, e6, t6, f6⟩ := v_sem (by omega) t5
  refine ⟨M6, ?_, t6, f1.tr (f2.tr (f3.tr (f4.tr (f5.tr f6))))⟩
  rw [e2, e3, if_neg (i_nn (by omega)), e4]
  unfold F_Law_clause_J44
  rw [if_neg (i_nn (by omega)), e5]
  unfold F_Law_clause_J61
  rw [zb_ok e6]
theorem v_ru {a w q : Nat} {M : z_Mem} {X : List Nat} (hw : w < 14) (hw0 : w ≠ 0) (hq : q < 1000) (hX : X.length ≤ 700) (h : v_tx a X M) : ∃ M', F_Law_rule a w (Int32.ofNat q) M = some M' ∧ v_tx a (X ++ v_ch 3 ++ v_ch w ++ 32 :: v_dg q ++ [59]) M' ∧ v_fr a M M' := by
  have hl := v_ch_len hw hw0
  obtain ⟨M0, e0, t0, f0⟩ := v_writes (w := 3) (by omega) (by omega) (by omega) h
  have hl3 := v_ch_len (w := 3) (by omega) (by omega)
  have l0 : (X ++ v_ch 3).length ≤ 708 := by
    rw [List.length_append]
    omega
  obtain ⟨M1, e1, t1, f1⟩ := v_writes hw hw0 (by omega) t0
  have l1 : (X ++ v_ch 3 ++ v_ch w).length ≤ 716 := by
    rw [List.length_append]
    omega
  unfold F_Law_rule
  rw [zb_ok e0, zb_ok e1]
  obtain ⟨M2, e2, t2, f2⟩ := v_sn (n := q) hq (by omega) t1 (K := fun M4 => zb (F_Law_writes a 2 M4) fun M5 => some M5)
  have l2 := v_len_sn (n := q) l1
  obtain ⟨M4, e4, t4, f4⟩ := v_sem (by omega) t2
  refine ⟨M4, ?_, t4, f0.tr (f1.tr (f2.tr f4))⟩
  rw [e2, zb_ok e4]
