/-! ===== PURE: format ===== -/
def q_sf (s : q_S) (b : q_R × Nat) : q_S := (s.1, s.2.1, s.2.2.1, s.2.2.2.1, s.2.2.2.2.1, s.2.2.2.2.2.1, b)
def q_fw (b : q_R × Nat) (ch : Nat) : q_R × Nat := (fun k => if k = b.2 then Int32.ofNat ch else b.1 k, b.2 + 1)
theorem c_all.fmt {o : Nat} {M M' : z_Mem} {s : q_S} {b : q_R × Nat} (h : c_all o M s) (h0 : ∀ k, k ≠ 4 → M'.1 o k = M.1 o k) (hk : ∀ x, x ≠ o → x ≠ o + 2 → M'.1 x = M.1 x) (hb : c_fmt M' o b) : c_all o M' (q_sf s b) := by
  obtain ⟨⟨a1, a2, a3⟩, h2, h3, h4, ⟨b0, b1, b2⟩, h6, h7⟩ := h
  refine ⟨⟨by rw [hk _ (by omega) (by omega)]; exact a1, by rw [hk _ (by omega) (by omega)]; exact a2, fun k hk' => by rw [hk _ (by omega) (by omega)]; exact a3 k hk'⟩, h2.keep (fun a q1 q2 => hk a (by omega) (by omega)), h3.keep (fun a q1 q2 => hk a (by omega) (by omega)), ?_, ⟨b0, by rw [h0 1 (by decide)]; exact b1, fun k hk' => by rw [hk _ (by omega) (by omega)]; exact b2 k hk'⟩, by rw [h0 2 (by decide)]; exact h6, hb⟩
  show c_snap M' o s.1 s.2.2.2.1
  generalize s.2.2.2.1 = sn at h4 ⊢
  cases sn with
  | none =>
    show M'.1 o 9 = 0
    rw [h0 9 (by decide)]
    exact h4
  | some B => exact ⟨by rw [h0 9 (by decide)]; exact h4.1, h4.2.keep (fun a q1 q2 => hk a (by omega) (by omega))⟩
theorem m_all.fmt {m : Nat} {N N' : z_Mem} {s : q_S} {b : q_R × Nat} (h : m_all m N s) (h0 : ∀ k, k ≠ 47 → k ≠ 39 → N'.1 m k = N.1 m k) (hk : ∀ x, x ≠ m → x ≠ m + 21 → (x < m + 13 ∨ m + 20 ≤ x) → N'.1 x = N.1 x) (hb : m_fmt N' m b) : m_all m N' (q_sf s b) := by
  obtain ⟨⟨a1, a2, a3, a4, a5, a6⟩, h2, ⟨b0, b1, b2⟩, h4, ⟨d1, d2⟩, h6, -⟩ := h
  have ad : ∀ j, 1 ≤ j → j < 13 → N'.1 (m + j) = N.1 (m + j) := fun j q1 q2 => hk _ (by omega) (by omega) (by omega)
  have sl : ∀ k, k < 39 → N'.1 m k = N.1 m k := fun k q => h0 k (by omega) (by omega)
  refine ⟨⟨by rw [sl _ (by omega)]; exact a1, by rw [sl _ (by omega)]; exact a2, by rw [sl _ (by omega)]; exact a3, by rw [sl _ (by omega)]; exact a4, fun k hk' => by rw [ad _ (by omega) (by omega)]; exact a5 k hk', fun t ht => by rw [ad _ (by omega) (by omega), ad _ (by omega) (by omega)]; exact a6 t ht⟩, h2.keep (ad _ (by omega) (by omega)), ⟨b0, by rw [sl _ (by omega)]; exact b1, fun j B hB => (b2 j B hB).keep (ad _ (by omega) (by omega))⟩, ?_, ⟨by rw [sl _ (by omega)]; exact d1, fun k hk' => by rw [ad _ (by omega) (by omega)]; exact d2 k hk'⟩, by rw [sl _ (by omega)]; exact h6, hb⟩
  show m_snap N' m s.2.2.2.1
  generalize s.2.2.2.1 = sn at h4 ⊢
  cases sn with
  | none =>
    show N'.1 m 5 = 0
    rw [sl 5 (by omega)]
    exact h4
  | some B => exact ⟨by rw [sl 5 (by omega)]; exact h4.1, h4.2.keep (ad _ (by omega) (by omega))⟩
set_option maxRecDepth 20000 in
theorem i_byteN : ∀ c, c < 128 → (Int32.ofNat c).toInt8.toInt32.toInt8.toInt32 = Int32.ofNat c ∧ Int32.ofNat c &&& 255 = Int32.ofNat c := by decide
theorem c_says {o ch : Nat} {M : z_Mem} {s : q_S} {b : q_R × Nat} (hc : c_all o M (q_sf s b)) (hn : b.2 < 80) (hch : ch < 128) : ∃ M', F_Sys_appendFormatted o (Int32.ofNat ch) M = some M' ∧ c_all o M' (q_sf s (q_fw b ch)) ∧ (∀ x, x ≠ o → x ≠ o + 2 → M'.1 x = M.1 x) ∧ M'.2 = M.2 := by
  obtain ⟨f0, f1, f2⟩ := hc.2.2.2.2.2.2
  have f1 : M.1 o 4 = Int32.ofNat b.2 := f1
  obtain ⟨e1, e2⟩ := i_byteN ch hch
  unfold F_Sys_appendFormatted
  rw [f1, if_neg (i_nn (by omega)), if_neg (show ¬ (80 : Int32) ≤ Int32.ofNat b.2 from i_nle (a := 80) (by decide) (by omega) hn), if_pos ((i_inb (by omega)).mpr hn), i_cl (by omega), e1]
  simp only [zl]
  rw [w_addr _ (show o ≠ o + 2 by omega), f1, i_succ]
  refine ⟨_, rfl, hc.fmt (fun k hk => (w_slot _ hk).trans (w_addr _ (by omega))) (fun x h1 h2 => funext fun k => (w_addr k h1).trans (w_addr k h2)) ⟨by show b.2 + 1 ≤ 80; omega, w_same _ _ _ _, fun k hk => ?_⟩, fun x h1 h2 => funext fun k => (w_addr k h1).trans (w_addr k h2), rfl⟩
  rw [w_addr _ (by omega)]
  show _ = if k = b.2 then Int32.ofNat ch else b.1 k
  by_cases hkb : k = b.2
  · rw [hkb, w_same, if_pos rfl, e2]
  · rw [w_slot _ hkb, if_neg hkb]
    have hk : k < b.2 + 1 := hk
    exact f2 k (by show k < b.2; omega)
def m_say (m : Nat) (N N' : z_Mem) : Prop := (∀ x, x ≠ m → x ≠ m + 21 → N'.1 x = N.1 x) ∧ (∀ k, k ≠ 47 → N'.1 m k = N.1 m k) ∧ N'.2 = N.2
theorem m_say.rfl' {m : Nat} {N : z_Mem} : m_say m N N := ⟨fun _ _ _ => rfl, fun _ _ => rfl, rfl⟩
theorem m_say.tr {m : Nat} {M M' M'' : z_Mem} (h : m_say m M M') (h' : m_say m M' M'') : m_say m M M'' := ⟨fun x h1 h2 => (h'.1 x h1 h2).trans (h.1 x h1 h2), fun k hk => (h'.2.1 k hk).trans (h.2.1 k hk), h'.2.2.trans h.2.2⟩
theorem m_says {m ch : Nat} {N : z_Mem} {s : q_S} {b : q_R × Nat} (hm : m_all m N (q_sf s b)) (hn : b.2 < 120) (hch : ch < 128) : ∃ N', F_Model_says m (Int32.ofNat ch) N = some N' ∧ m_all m N' (q_sf s (q_fw b ch)) ∧ m_say m N N' := by
  obtain ⟨f1, f2⟩ := hm.2.2.2.2.2.2
  have f1 : N.1 m 47 = Int32.ofNat b.2 := f1
  obtain ⟨e1, e2⟩ := i_byteN ch hch
  unfold F_Model_says
  rw [f1, if_pos ((i_inb (by omega)).mpr hn), i_cl (by omega), e1]
  simp only [zl]
  rw [w_addr _ (show m ≠ m + 21 by omega), f1, i_succ]
  refine ⟨_, rfl, hm.fmt (fun k hk _ => (w_slot _ hk).trans (w_addr _ (by omega))) (fun x h1 h2 _ => funext fun k => (w_addr k h1).trans (w_addr k h2)) ⟨w_same _ _ _ _, fun k hk => ?_⟩, fun x h1 h2 => funext fun k => (w_addr k h1).trans (w_addr k h2), fun k hk => (w_slot _ hk).trans (w_addr _ (by omega)), rfl⟩
  rw [w_addr _ (by omega)]
  show _ = if k = b.2 then Int32.ofNat ch else b.1 k
  by_cases hkb : k = b.2
  · rw [hkb, w_same, if_pos rfl]
  · rw [w_slot _ hkb, if_neg hkb]
    have hk : k < b.2 + 1 := hk
    exact f2 k (by show k < b.2; omega)
/-- a number below 100 -/
def f_num (b : q_R × Nat) (v : Nat) : q_R × Nat := if v < 10 then q_fw b (48 + v) else q_fw (q_fw b (48 + v / 10)) (48 + v % 10)
def f_one (A : q_R) (b : q_R × Nat) (x i : Nat) : q_R × Nat := q_fw (q_fw (f_num (q_fw (if i = 0 then b else q_fw b 32) (if x % 2 = 1 then 43 else 45)) (x / 2)) 64) (48 + q_zo A x)
theorem f_num_len (b : q_R × Nat) (v : Nat) : b.2 + 1 ≤ (f_num b v).2 ∧ (f_num b v).2 ≤ b.2 + 2 := by
  unfold f_num
  split
  · exact ⟨Nat.le_refl _, by show b.2 + 1 ≤ _; omega⟩
  · exact ⟨by show b.2 + 1 ≤ b.2 + 1 + 1; omega, Nat.le_refl _⟩
theorem f_one_len (A : q_R) (b : q_R × Nat) (x i : Nat) : (f_one A b x i).2 ≤ b.2 + 6 := by
  have h := (f_num_len (q_fw (if i = 0 then b else q_fw b 32) (if x % 2 = 1 then 43 else 45)) (x / 2)).2
  have h2 : (q_fw (if i = 0 then b else q_fw b 32) (if x % 2 = 1 then 43 else 45)).2 ≤ b.2 + 2 := by
    show (if i = 0 then b else q_fw b 32).2 + 1 ≤ _
    split
    · omega
    · show b.2 + 1 + 1 ≤ _
      omega
  show (f_num _ _).2 + 1 + 1 ≤ _
  omega
theorem i_mod (a b : Nat) (ha : a < 2 ^ 31) (hb : b < 2 ^ 31) : Int32.ofNat a - Int32.ofNat a / Int32.ofNat b * Int32.ofNat b = Int32.ofNat (a % b) := by
  rw [i_div ha hb, i_mul, i_sub (Nat.div_mul_le_self a b)]
  congr 1
  have h := Nat.div_add_mod a b
  rw [Nat.mul_comm] at h
  omega
theorem i_digit {v : Nat} (hv : v < 100) : (48 : Int32) + (Int32.ofNat v - Int32.ofNat v / 10 * 10) = Int32.ofNat (48 + v % 10) ∧ (48 : Int32) + Int32.ofNat v / 10 = Int32.ofNat (48 + v / 10) := by
  have e := i_mod v 10 (by omega) (by omega)
  have e' : Int32.ofNat v - Int32.ofNat v / 10 * 10 = Int32.ofNat (v % 10) := e
  have d : Int32.ofNat v / 10 = Int32.ofNat (v / 10) := i_div (b := 10) (by omega) (by decide)
  rw [e', d]
  exact ⟨i_add 48 _, i_add 48 _⟩
theorem m_num {m v : Nat} {N : z_Mem} {s : q_S} {b : q_R × Nat} (hm : m_all m N (q_sf s b)) (hn : b.2 + 1 < 120) (hv : v < 100) : ∃ N', F_Model_saysNumber m (Int32.ofNat v) N = some N' ∧ m_all m N' (q_sf s (f_num b v)) ∧ m_say m N N' := by
  have d1 : Int32.ofNat v / 1 = Int32.ofNat v := by
    have := i_div (a := v) (b := 1) (by omega) (by decide)
    rw [Nat.div_one] at this
    exact this
  have d10 : Int32.ofNat v / 10 = Int32.ofNat (v / 10) := i_div (b := 10) (by omega) (by decide)
  have last : ∀ (f : Nat) (N : z_Mem) (b : q_R × Nat), m_all m N (q_sf s b) → b.2 < 120 → ∃ N', F_Model_saysNumber_L18 m (f + 2) (Int32.ofNat v) 1 N = some N' ∧ m_all m N' (q_sf s (q_fw b (48 + v % 10))) ∧ m_say m N N' := fun f N b hm hn => by
    obtain ⟨N1, e1, m1, p1⟩ := m_says (ch := 48 + v % 10) hm hn (by omega)
    refine ⟨N1, ?_, m1, p1⟩
    unfold F_Model_saysNumber_L18 F_Model_saysNumber_B18
    rw [if_neg (by decide), if_pos (by decide), d1, (i_digit hv).1, zb_ok e1]
    simp only [zl]
    unfold F_Model_saysNumber_L18 F_Model_saysNumber_B18
    rw [if_pos (by decide)]
  unfold F_Model_saysNumber f_num
  by_cases h : v < 10
  · obtain ⟨N1, e1, m1, p1⟩ := last 9998 N b hm (by omega)
    rw [if_pos h]
    refine ⟨N1, ?_, by rw [show v % 10 = v by omega] at m1; exact m1, p1⟩
    unfold F_Model_saysNumber_L2 F_Model_saysNumber_B2
    rw [if_pos (by decide), d1, if_pos (show Int32.ofNat v ≤ (9 : Int32) from (i_le (b := 9) (by omega) (by decide)).mpr (by omega))]
    exact e1
  · rw [if_neg h]
    obtain ⟨N0, e0, m0, p0⟩ := m_says (ch := 48 + v / 10) hm (by omega) (by omega)
    obtain ⟨N1, e1, m1, p1⟩ := last 9997 N0 _ m0 hn
    refine ⟨N1, ?_, m1, p0.tr p1⟩
    have e10 : (1 : Int32) * 10 = 10 := by decide
    have e101 : (10 : Int32) / 10 = 1 := by decide
    have dd : (48 : Int32) + (Int32.ofNat (v / 10) - Int32.ofNat (v / 10) / 10 * 10) = Int32.ofNat (48 + v / 10) := by
      rw [(i_digit (v := v / 10) (by omega)).1, Nat.mod_eq_of_lt (by omega)]
    unfold F_Model_saysNumber_L2 F_Model_saysNumber_B2
    rw [if_pos (by decide), d1, if_neg (show ¬ Int32.ofNat v ≤ (9 : Int32) from i_nle (b := 9) (by omega) (by decide) (by omega))]
    simp only [zl]
    rw [e10]
    unfold F_Model_saysNumber_L2 F_Model_saysNumber_B2
    rw [if_pos (by decide), d10, if_pos (show Int32.ofNat (v / 10) ≤ (9 : Int32) from (i_le (b := 9) (by omega) (by decide)).mpr (by omega))]
    unfold F_Model_saysNumber_L18 F_Model_saysNumber_B18
    rw [if_neg (by decide), if_pos (by decide), d10, dd, zb_ok e0]
    simp only [zl]
    rw [e101]
    exact e1
theorem c_stop {o x : Nat} {M : z_Mem} {s : q_S} {b : q_R × Nat} (hI : q_In s) (hc : c_all o M (q_sf s b)) (hn : b.2 + 5 ≤ 80) (hx : x < 2 * q_N s.2.1) : ∃ M', F_Sys_appendStop o (Int32.ofNat x) M = some M' ∧ c_all o M' (q_sf s (q_fw (q_fw (f_num (q_fw b (if x % 2 = 1 then 43 else 45)) (x / 2)) 64) (48 + q_zo s.2.1 x))) ∧ (∀ x, x ≠ o → x ≠ o + 2 → M'.1 x = M.1 x) ∧ M'.2 = M.2 := by
  have hN := hI.I.rides24
  have hz8 := hI.zo hx
  obtain ⟨M1, e1, c1, r1, s1⟩ := c_says (ch := if x % 2 = 1 then 43 else 45) hc (by omega) (by split <;> omega)
  have l1 : (q_fw b (if x % 2 = 1 then 43 else 45)).2 = b.2 + 1 := rfl
  have fin : ∀ (b' : q_R × Nat) (M4 : z_Mem), b'.2 + 3 ≤ 80 → c_all o M4 (q_sf s b') → ∃ M', F_Sys_appendStop_J40 o (Int32.ofNat x) (Int32.ofNat (x / 2)) M4 = some M' ∧ c_all o M' (q_sf s (q_fw (q_fw (q_fw b' (48 + x / 2 % 10)) 64) (48 + q_zo s.2.1 x))) ∧ (∀ x, x ≠ o → x ≠ o + 2 → M'.1 x = M4.1 x) ∧ M'.2 = M4.2 := fun b' M4 hb' c4 => by
    obtain ⟨M5, e5, c5, r5, s5⟩ := c_says (ch := 48 + x / 2 % 10) c4 (by omega) (by omega)
    obtain ⟨M6, e6, c6, r6, s6⟩ := c_says (ch := 64) c5 (by show b'.2 + 1 < 80; omega) (by omega)
    obtain ⟨M7, e7, c7, r7, s7⟩ := c_says (ch := 48 + q_zo s.2.1 x) c6 (by show b'.2 + 1 + 1 < 80; omega) (by omega)
    have hIf : q_In (q_sf s (q_fw (q_fw b' (48 + x / 2 % 10)) 64)) := hI
    have ez := (a_zoneStop hIf c6 hx).1
    refine ⟨M7, ?_, c7, fun y h1 h2 => (r7 y h1 h2).trans ((r6 y h1 h2).trans (r5 y h1 h2)), s7.trans (s6.trans s5)⟩
    unfold F_Sys_appendStop_J40
    rw [(i_digit (v := x / 2) (by omega)).1, zb_ok e5, show (64 : Int32) = Int32.ofNat 64 from rfl, zb_ok e6, zb_ok ez]
    have e48 : (48 : Int32) + Int32.ofNat (q_zo s.2.1 x) = Int32.ofNat (48 + q_zo s.2.1 x) := i_add 48 _
    show (zb (F_Sys_appendFormatted o ((48 : Int32) + Int32.ofNat (q_zo s.2.1 x)) M6) fun M8 => some M8) = _
    rw [e48, zb_ok e7]
  have eH : F_Sys_appendStop o (Int32.ofNat x) M = F_Sys_appendStop_J20 o (Int32.ofNat x) (Int32.ofNat (x / 2)) (Int32.ofNat (if x % 2 = 1 then 43 else 45)) M := by
    unfold F_Sys_appendStop
    rw [zb_ok (a_rideNumber (by omega) M), zb_ok (a_isPickup (by omega) M)]
    by_cases ho : x % 2 = 1
    · rw [if_pos ho, if_neg (by decide), if_pos ho]
      rfl
    · rw [if_neg ho, if_pos rfl, if_neg ho]
      rfl
  rw [eH]
  unfold F_Sys_appendStop_J20 f_num
  rw [zb_ok e1]
  by_cases h10 : x / 2 < 10
  · rw [if_pos (i_ltN10 h10), if_pos h10]
    obtain ⟨M', e, c', r, s'⟩ := fin _ M1 (by rw [l1]; omega) c1
    rw [Nat.mod_eq_of_lt h10] at c'
    exact ⟨M', e, c', fun y h1 h2 => (r y h1 h2).trans (r1 y h1 h2), s'.trans s1⟩
  · rw [if_neg (show ¬ Int32.ofNat (x / 2) < (10 : Int32) from fun q => h10 ((i_lt (b := 10) (by omega) (by decide)).mp q)), if_neg h10, (i_digit (v := x / 2) (by omega)).2]
    obtain ⟨M2, e2, c2, r2, s2⟩ := c_says (ch := 48 + x / 2 / 10) c1 (by rw [l1]; omega) (by omega)
    obtain ⟨M', e, c', r, s'⟩ := fin _ M2 (by show (q_fw b _).2 + 1 + 3 ≤ 80; rw [l1]; omega) c2
    rw [zb_ok e2]
    exact ⟨M', e, c', fun y h1 h2 => (r y h1 h2).trans ((r2 y h1 h2).trans (r1 y h1 h2)), s'.trans (s2.trans s1)⟩
/-- the text of a route -/
def f_txt (A : q_R) (l : Nat → Nat) : Nat → q_R × Nat → q_R × Nat
  | 0, b => b
  | i + 1, b => f_one A (f_txt A l i b) (l i) i
theorem f_txt_len (A : q_R) (l : Nat → Nat) (b : q_R × Nat) : ∀ i, (f_txt A l i b).2 ≤ b.2 + 6 * i
  | 0 => Nat.le_refl _
  | i + 1 => by
    have h1 := f_txt_len A l b i
    have h2 := f_one_len A (f_txt A l i b) (l i) i
    show (f_one A (f_txt A l i b) (l i) i).2 ≤ _
    omega
/-! loops -/
def f_text (A : q_R) (l : Nat → Nat) (n : Nat) (b : q_R × Nat) : q_R × Nat := if n = 0 then q_fw b 46 else f_txt A l n b
theorem c_format_L {o t n : Nat} {s : q_S} {rt pt : List Nat} {m : Nat} {b : q_R × Nat} (hI : q_In s) (ht : t < q_T s.1) (hL : q_taxiL s.1 s.2.1 t m rt pt) (hn : rt.length = n) (hb : b.2 = 0) : ∀ (r i f : Nat) (M : z_Mem), i + r = n → r < f → c_all o M (q_sf s (f_txt s.2.1 (g_l rt) i b)) → ∃ M', F_Sys_format_L13 o f (o + 5 + 4 + 3 * t) (Int32.ofNat i) M = some (.ok (Int32.ofNat (f_text s.2.1 (g_l rt) n b).2), M') ∧ c_all o M' (q_sf s (f_text s.2.1 (g_l rt) n b)) ∧ (∀ x, x ≠ o → x ≠ o + 2 → M'.1 x = M.1 x) ∧ M'.2 = M.2 := by
  have hn12 : n ≤ 12 := hn ▸ hL.1.2.1
  have hT := hI.I.taxis4
  have val := hL.val
  intro r
  induction r with
  | zero =>
    intro i f M hi hf hc
    obtain ⟨f, rfl⟩ : ∃ g, f = g + 1 := ⟨f - 1, by omega⟩
    have x7 := (hc.2.1.2.2.2.2.2.2.2.1 t ht).2.2.2.2.2.2.2.1
    have h7 : M.1 (o + 5 + 4 + 3 * t) 7 = Int32.ofNat n := (x7.trans hL.1.1.1).trans (congrArg Int32.ofNat hn)
    have hin : i = n := by omega
    subst hin
    unfold F_Sys_format_L13 F_Sys_format_B13
    rw [h7, if_pos ((i_le (by omega) (by omega)).mpr (Nat.le_refl _))]
    by_cases h0 : i = 0
    · subst h0
      have hc0 : c_all o M (q_sf s b) := hc
      obtain ⟨M1, e1, c1, r1, s1⟩ := c_says (ch := 46) hc0 (by omega) (by omega)
      refine ⟨M1, ?_, c1, r1, s1⟩
      rw [if_pos (by decide), show (46 : Int32) = Int32.ofNat 46 from rfl, zb_ok e1]
      unfold F_Sys_format_J59
      rw [c1.2.2.2.2.2.2.2.1]
      rfl
    · have ef : f_text s.2.1 (g_l rt) i b = f_txt s.2.1 (g_l rt) i b := if_neg h0
      rw [ef]
      refine ⟨M, ?_, hc, fun _ _ _ => rfl, rfl⟩
      rw [if_neg (i_ne0 (by omega) (by omega))]
      unfold F_Sys_format_J59
      rw [hc.2.2.2.2.2.2.2.1]
      rfl
  | succ r ih =>
    intro i f M hi hf hc
    obtain ⟨f, rfl⟩ : ∃ g, f = g + 1 := ⟨f - 1, by omega⟩
    have hlen := f_txt_len s.2.1 (g_l rt) b i
    have hj : i < rt.length := by omega
    have go : ∀ (M1 : z_Mem), c_all o M1 (q_sf s (if i = 0 then f_txt s.2.1 (g_l rt) i b else q_fw (f_txt s.2.1 (g_l rt) i b) 32)) → ∃ M', F_Sys_format_J31 o (F_Sys_format_L13 o f) (o + 5 + 4 + 3 * t) (Int32.ofNat i) M1 = some (.ok (Int32.ofNat (f_text s.2.1 (g_l rt) n b).2), M') ∧ c_all o M' (q_sf s (f_text s.2.1 (g_l rt) n b)) ∧ (∀ x, x ≠ o → x ≠ o + 2 → M'.1 x = M1.1 x) ∧ M'.2 = M1.2 := fun M1 c1 => by
      have x7 := (c1.2.1.2.2.2.2.2.2.2.1 t ht).2.2.2.2.2.2.2.1
      have h7 : M1.1 (o + 5 + 4 + 3 * t) 7 = Int32.ofNat rt.length := x7.trans hL.1.1.1
      have xr := (c1.2.1.2.2.2.2.2.2.2.1 t ht).2.2.2.2.2.2.2.2.2.2.2.2.2.2.2.1
      have hv : M1.1 (o + 5 + 4 + 3 * t + 1) i = Int32.ofNat (g_l rt i) := (xr i (by omega) (by show _ < s.2.1 _; rw [hL.1.1.1]; exact (i_lt (by omega) (by omega)).mpr hj)).trans (hL.1.1.2 i _ (g_l_get hj))
      have hl : (if i = 0 then f_txt s.2.1 (g_l rt) i b else q_fw (f_txt s.2.1 (g_l rt) i b) 32).2 ≤ (f_txt s.2.1 (g_l rt) i b).2 + 1 := by
        split
        · omega
        · exact Nat.le_refl _
      obtain ⟨M2, e2, c2, r2, s2⟩ := c_stop hI c1 (by omega) (val i hj)
      obtain ⟨M3, e3, c3, r3, s3⟩ := ih (i + 1) f M2 (by omega) (by omega) c2
      refine ⟨M3, ?_, c3, fun x h1 h2 => (r3 x h1 h2).trans (r2 x h1 h2), s3.trans s2⟩
      unfold F_Sys_format_J31
      rw [zb_ok (a_stopAt h7 (by omega) hj), hv, zb_ok e2]
      simp only [zl]
      rw [i_succ]
      exact e3
    have x7 := (hc.2.1.2.2.2.2.2.2.2.1 t ht).2.2.2.2.2.2.2.1
    have h7 : M.1 (o + 5 + 4 + 3 * t) 7 = Int32.ofNat n := (x7.trans hL.1.1.1).trans (congrArg Int32.ofNat hn)
    unfold F_Sys_format_L13 F_Sys_format_B13
    rw [h7, if_neg (i_nle (by omega) (by omega) (by omega))]
    by_cases h0 : i = 0
    · rw [if_pos (by rw [h0]; decide)]
      exact go M (by rw [if_pos h0]; exact hc)
    · rw [if_neg (show ¬ Int32.ofNat i ≤ (0 : Int32) from i_nle (b := 0) (by omega) (by decide) (by omega))]
      obtain ⟨M1, e1, c1, r1, s1⟩ := c_says (ch := 32) hc (by omega) (by omega)
      obtain ⟨M', e, c', r', s'⟩ := go M1 (by rw [if_neg h0]; exact c1)
      refine ⟨M', ?_, c', fun x h1 h2 => (r' x h1 h2).trans (r1 x h1 h2), s'.trans s1⟩
      rw [show (32 : Int32) = Int32.ofNat 32 from rfl, zb_ok e1]
      exact e
theorem m_format_L {m t n : Nat} {s : q_S} {rt pt : List Nat} {mm : Nat} {b : q_R × Nat} (hI : q_In s) (ht : t < q_T s.1) (hL : q_taxiL s.1 s.2.1 t mm rt pt) (hn : rt.length = n) : ∀ (r i f : Nat) (N : z_Mem), i + r = n → r < f → (f_txt s.2.1 (g_l rt) i b).2 ≤ 1 + 6 * i → m_all m N (q_sf s (f_txt s.2.1 (g_l rt) i b)) → m_list N m (g_l rt) n → ∃ N', F_Model_format_L40 m f (Int32.ofNat i) N = some (Int32.ofNat (f_txt s.2.1 (g_l rt) n b).2, N') ∧ m_all m N' (q_sf s (f_txt s.2.1 (g_l rt) n b)) ∧ m_say m N N' := by
  have hn12 : n ≤ 12 := hn ▸ hL.1.2.1
  have hN24 := hI.I.rides24
  have val := hL.val
  intro r
  induction r with
  | zero =>
    intro i f N hi hf hb hm hl
    obtain ⟨f, rfl⟩ : ∃ g, f = g + 1 := ⟨f - 1, by omega⟩
    have hin : i = n := by omega
    subst hin
    refine ⟨N, ?_, hm, m_say.rfl'⟩
    unfold F_Model_format_L40 F_Model_format_B40
    rw [hl.1, if_pos ((i_le (by omega) (by omega)).mpr (Nat.le_refl _)), hm.2.2.2.2.2.2.1]
    rfl
  | succ r ih =>
    intro i f N hi hf hb hm hl
    obtain ⟨f, rfl⟩ : ∃ g, f = g + 1 := ⟨f - 1, by omega⟩
    have hj : i < rt.length := by omega
    have hs := val i hj
    have i14 : z_inb (Int32.ofNat i) 14 := (i_inb (by omega)).mpr (by omega)
    have ci : (Int32.ofNat i).toNatClampNeg = i := i_cl (by omega)
    have keep : ∀ {N' : z_Mem}, m_say m N N' → m_list N' m (g_l rt) n := fun h => ⟨(h.2.1 39 (by decide)).trans hl.1, fun k hk => (congrFun (h.1 (m + 13) (by omega) (by omega)) k).trans (hl.2 k hk)⟩
    have go : ∀ (N1 : z_Mem), m_say m N N1 → m_all m N1 (q_sf s (if i = 0 then f_txt s.2.1 (g_l rt) i b else q_fw (f_txt s.2.1 (g_l rt) i b) 32)) → ∃ N', F_Model_format_J58 m (F_Model_format_L40 m f) (Int32.ofNat i) N1 = some (Int32.ofNat (f_txt s.2.1 (g_l rt) n b).2, N') ∧ m_all m N' (q_sf s (f_txt s.2.1 (g_l rt) n b)) ∧ m_say m N1 N' := fun N1 p1 m1 => by
      have hl' : (if i = 0 then f_txt s.2.1 (g_l rt) i b else q_fw (f_txt s.2.1 (g_l rt) i b) 32).2 ≤ (f_txt s.2.1 (g_l rt) i b).2 + 1 := by
        split
        · omega
        · exact Nat.le_refl _
      have h1 := (keep p1).2 i (by omega)
      have eH : F_Model_format_J58 m (F_Model_format_L40 m f) (Int32.ofNat i) N1 = F_Model_format_J78 m (F_Model_format_L40 m f) (Int32.ofNat i) (Int32.ofNat (if g_l rt i % 2 = 1 then 43 else 45)) N1 := by
        unfold F_Model_format_J58
        rw [if_pos i14, ci, h1, i_odd _ (by omega)]
        rcases (show g_l rt i % 2 = 0 ∨ g_l rt i % 2 = 1 by omega) with h | h
        · rw [h, if_neg (by decide), if_neg (by decide)]
          rfl
        · rw [h, if_pos (by decide), if_pos rfl]
          rfl
      obtain ⟨N2, e2, m2, p2⟩ := m_says (ch := if g_l rt i % 2 = 1 then 43 else 45) m1 (by omega) (by split <;> omega)
      have k2 := (keep (p1.tr p2)).2 i (by omega)
      have l3 := f_num_len (q_fw (if i = 0 then f_txt s.2.1 (g_l rt) i b else q_fw (f_txt s.2.1 (g_l rt) i b) 32) (if g_l rt i % 2 = 1 then 43 else 45)) (g_l rt i / 2)
      have l3' := l3.2
      have l2 : (q_fw (if i = 0 then f_txt s.2.1 (g_l rt) i b else q_fw (f_txt s.2.1 (g_l rt) i b) 32) (if g_l rt i % 2 = 1 then 43 else 45)).2 = (if i = 0 then f_txt s.2.1 (g_l rt) i b else q_fw (f_txt s.2.1 (g_l rt) i b) 32).2 + 1 := rfl
      obtain ⟨N3, e3, m3, p3⟩ := m_num (v := g_l rt i / 2) m2 (by omega) (by omega)
      obtain ⟨N4, e4, m4, p4⟩ := m_says (ch := 64) m3 (by omega) (by omega)
      have k4 := (keep (((p1.tr p2).tr p3).tr p4)).2 i (by omega)
      have hIf : q_In (q_sf s (q_fw (f_num (q_fw (if i = 0 then f_txt s.2.1 (g_l rt) i b else q_fw (f_txt s.2.1 (g_l rt) i b) 32) (if g_l rt i % 2 = 1 then 43 else 45)) (g_l rt i / 2)) 64)) := hI
      obtain ⟨ez, z8⟩ := m_zoneOf hIf m4 hs
      have z8 : q_zo s.2.1 (g_l rt i) < 8 := z8
      obtain ⟨N5, e5, m5, p5⟩ := m_num (v := q_zo s.2.1 (g_l rt i)) m4 (by show (f_num _ _).2 + 1 + 1 < 120; omega) (by omega)
      have fn : ∀ b', f_num b' (q_zo s.2.1 (g_l rt i)) = q_fw b' (48 + q_zo s.2.1 (g_l rt i)) := fun b' => if_pos (by omega)
      rw [fn] at m5
      obtain ⟨N6, e6, m6, p6⟩ := ih (i + 1) f N5 (by omega) (by omega) (by
        have h := f_one_len s.2.1 (f_txt s.2.1 (g_l rt) i b) (g_l rt i) i
        show (f_one s.2.1 (f_txt s.2.1 (g_l rt) i b) (g_l rt i) i).2 ≤ _
        omega) m5 (keep ((((p1.tr p2).tr p3).tr p4).tr p5))
      refine ⟨N6, ?_, m6, (((p2.tr p3).tr p4).tr p5).tr p6⟩
      rw [eH]
      unfold F_Model_format_J78
      have k2' : N2.1 (m + 13) (Int32.ofNat i).toNatClampNeg = Int32.ofNat (g_l rt i) := (congrArg (N2.1 (m + 13)) ci).trans k2
      have k4' : N4.1 (m + 13) (Int32.ofNat i).toNatClampNeg = Int32.ofNat (g_l rt i) := (congrArg (N4.1 (m + 13)) ci).trans k4
      rw [zb_ok e2, if_pos i14, k2', i_half (by omega), zb_ok e3, show (64 : Int32) = Int32.ofNat 64 from rfl, zb_ok e4, if_pos i14, k4', zb_ok ez]
      show (zb (F_Model_saysNumber m (Int32.ofNat (q_zo s.2.1 (g_l rt i))) N4) _) = _
      rw [zb_ok e5]
      simp only [zl]
      rw [i_succ]
      exact e6
    unfold F_Model_format_L40 F_Model_format_B40
    rw [hl.1, if_neg (i_nle (by omega) (by omega) (by omega))]
    by_cases h0 : i = 0
    · rw [if_pos (by rw [h0]; decide)]
      exact go N m_say.rfl' (by rw [if_pos h0]; exact hm)
    · rw [if_neg (show ¬ Int32.ofNat i ≤ (0 : Int32) from i_nle (b := 0) (by omega) (by decide) (by omega))]
      obtain ⟨N1, e1, m1, p1⟩ := m_says (ch := 32) hm (by omega) (by omega)
      obtain ⟨N', e, m', p'⟩ := go N1 p1 (by rw [if_neg h0]; exact m1)
      refine ⟨N', ?_, m', p1.tr p'⟩
      rw [show (32 : Int32) = Int32.ofNat 32 from rfl, zb_ok e1]
      exact e
theorem m_say.M {o : Nat} {M M' : z_Mem} (h : m_say (o + 548) M M') : q_M o M M' := fun a ha => ⟨h.1 a (by unfold q_inC at ha; omega) (by unfold q_inC at ha; omega), by rw [h.2.2]⟩
theorem a_format {o L : Nat} {S : Nat → Int32} {i : Int32} {M : z_Mem} {s : q_S} {c : z_Mem → Option (Int32 × z_Mem)} (hI' : q_Inv s) (hc : c_all o M s) (hm : m_all (o + 548) M s) (h1 : z_inb (i + (1 : Int32)) L) : ∃ M' s', Fc_1969 o L S i M c = c M' ∧ c_all o M' s' ∧ m_all (o + 548) M' s' ∧ q_Inv s' := by
  have hI := hI'.1
  generalize hp : S (i + 1).toNatClampNeg = p
  have hT := hI.I.taxis4
  have ct := a_taxi_c hI.I hc
  have mt := fun (N : z_Mem) (hN : m_all (o + 548) N s) p => a_taxi_m (m := o + 548) (N := z_wI N (o + 548) 0 0) (T := q_T s.1) (by omega) (m_taxis hI.I (hN.thr 0)) p
  rcases q_split (q_T s.1) (by omega) p with ⟨t, ht, rfl⟩ | hb
  · have gt := q_good (n := q_T s.1) (by omega) ht
    obtain ⟨n, rt, pt, -, -, hL⟩ := hI.L ht
    have hn := hL.1.2.1
    have hc0 : c_all o (z_wI M o 4 0) (q_sf s (s.2.2.2.2.2.2.1, 0)) := hc.fmt (fun k hk => w_slot _ hk) (fun x h1 h2 => funext fun k => w_addr k h1) ⟨by show 0 ≤ 80; omega, w_same _ _ _ _, fun k hk => absurd hk (Nat.not_lt_zero k)⟩
    obtain ⟨M1, e1, c1, r1, s1⟩ := c_format_L (b := (s.2.2.2.2.2.2.1, 0)) hI ht hL rfl rfl rt.length 0 10000 _ (by omega) (by omega) hc0
    obtain ⟨M', g1, g2, g3⟩ := k_format (S := S) (c := c) (s' := q_sf s (f_text s.2.1 (g_l rt) rt.length (s.2.2.2.2.2.2.1, 0))) (y := .ok (Int32.ofNat (f_text s.2.1 (g_l rt) rt.length (s.2.2.2.2.2.2.1, 0)).2)) q_c1n hm h1 (l_of (c_ok (M' := M1) (by
      rw [hp]
      unfold F_Sys_format
      simp only [zxm, zb, (ct _).2 t ht rfl, zl]
      exact e1) c1 (fun a ha => ⟨(r1 a (by unfold q_inM at ha; omega) (by unfold q_inM at ha; omega)).trans (funext fun k => w_addr k (by unfold q_inM at ha; omega)), congrFun s1 a⟩)) (fun e M1 he => by cases he)) (fun N hN => by
      rw [hp]
      have hN0 := hN.thr 0
      have hN1 : m_all (o + 548) (z_wI (z_wI N (o + 548) 0 0) (o + 548) 47 0) (q_sf s (s.2.2.2.2.2.2.1, 0)) := hN0.fmt (fun k hk _ => w_slot _ hk) (fun x h1 h2 _ => funext fun k => w_addr k h1) ⟨w_same _ _ _ _, fun k hk => absurd hk (Nat.not_lt_zero k)⟩
      have hI0 : q_In (q_sf s (s.2.2.2.2.2.2.1, 0)) := hI
      obtain ⟨N1, f1, q1, l1⟩ := m_lists (m := o + 548) (s := q_sf s (s.2.2.2.2.2.2.1, 0)) (t := t) (by omega) hL hN1
      have hN2 := q1.all hN1
      have p1 : q_M o (z_wI N (o + 548) 0 0) (z_wI (z_wI N (o + 548) 0 0) (o + 548) 47 0) := fun a ha => ⟨funext fun k => w_addr k (by unfold q_inC at ha; omega), rfl⟩
      have z1 : N1.1 (o + 548) 0 = 0 := (q1.2.1 0 (by decide)).trans ((w_slot _ (by decide)).trans (w_same _ _ _ _))
      have eH : F_Model_format (o + 548) (Int32.ofNat t) N = if Int32.ofNat rt.length = 0 then zb (F_Model_says (o + 548) 46 N1) fun M6 => F_Model_format_J38 (o + 548) M6 else F_Model_format_J38 (o + 548) N1 := by
        unfold F_Model_format
        simp only [zl]
        rw [zb2_ok ((mt N hN _).2 gt), if_pos rfl, zb_ok f1, l1.1]
      by_cases h0 : rt.length = 0
      · obtain ⟨N2, f2, m2, q2⟩ := m_says (ch := 46) hN2 (by show 0 < 120; omega) (by omega)
        have l2 : m_list N2 (o + 548) (g_l rt) rt.length := ⟨(q2.2.1 39 (by decide)).trans l1.1, fun k hk => by omega⟩
        have et : f_text s.2.1 (g_l rt) rt.length (s.2.2.2.2.2.2.1, 0) = q_fw (s.2.2.2.2.2.2.1, 0) 46 := if_pos h0
        obtain ⟨N3, f3, m3, q3⟩ := m_format_L (m := o + 548) (n := rt.length) (b := q_fw (s.2.2.2.2.2.2.1, 0) 46) hI ht hL rfl 0 0 10000 N2 (by omega) (by omega) (by show 0 + 1 ≤ _; omega) m2 l2
        have e0 : f_txt s.2.1 (g_l rt) rt.length (q_fw (s.2.2.2.2.2.2.1, 0) 46) = q_fw (s.2.2.2.2.2.2.1, 0) 46 := by rw [h0]; rfl
        rw [et]
        rw [e0] at f3 m3
        refine m_ok (N' := N3) (by
          rw [eH, if_pos (by rw [h0]; decide), show (46 : Int32) = Int32.ofNat 46 from rfl, zb_ok f2]
          exact f3) rfl m3 ((q3.2.1 0 (by decide)).trans ((q2.2.1 0 (by decide)).trans z1)) (p1.tr (q1.M.tr (q2.M.tr q3.M)))
      · have et : f_text s.2.1 (g_l rt) rt.length (s.2.2.2.2.2.2.1, 0) = f_txt s.2.1 (g_l rt) rt.length (s.2.2.2.2.2.2.1, 0) := if_neg h0
        obtain ⟨N3, f3, m3, q3⟩ := m_format_L (m := o + 548) (n := rt.length) (b := (s.2.2.2.2.2.2.1, 0)) hI ht hL rfl rt.length 0 10000 N1 (by omega) (by omega) (by show 0 ≤ _; omega) hN2 l1
        rw [et]
        refine m_ok (N' := N3) (by
          rw [eH, if_neg (i_ne0 (by omega) (by omega))]
          exact f3) rfl m3 ((q3.2.1 0 (by decide)).trans z1) (p1.tr (q1.M.tr q3.M)))
    exact ⟨M', _, g1, g2, g3, hI'⟩
  · obtain ⟨M', g1, g2, g3⟩ := k_format (S := S) (c := c) (s' := s) (y := .error 1) q_c1n hm h1 (l_of (c_thr hc (by
      rw [hp]
      unfold F_Sys_format
      simp only [zxm, zb, (ct _).1 hb])) (fun e M1 he => by cases he; rfl)) (fun N hN => m_err hN (b := 0) (v := 1) rfl (by
      rw [hp]
      unfold F_Model_format
      simp only [zl]
      rw [zb2_ok ((mt N hN _).1 hb)]
      rfl))
    exact ⟨M', s, g1, g2, g3, hI'⟩
