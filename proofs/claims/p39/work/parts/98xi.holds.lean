/-! ===== PURE: the law's acts, and its loop ===== -/
theorem i_rem {a b : Nat} (ha : a < 2 ^ 31) (hb : b < 2 ^ 31) : Int32.ofNat a - Int32.ofNat a / Int32.ofNat b * Int32.ofNat b = Int32.ofNat (a % b) := by
  have h : a / b * b ≤ a := Nat.div_mul_le_self a b
  rw [i_div ha hb, i_mul, i_sub h, Nat.mod_def, Nat.mul_comm b]
theorem l_mask (v : Int32) : ∃ c, c < 2 ^ 30 ∧ v &&& 1073741823 = Int32.ofNat c := by
  refine ⟨(v &&& 1073741823).toBitVec.toNat, ?_, ?_⟩
  · rw [Int32.toBitVec_and, BitVec.toNat_and]
    have h : v.toBitVec.toNat &&& (1073741823 : Int32).toBitVec.toNat ≤ (1073741823 : Int32).toBitVec.toNat := Nat.and_le_right
    have e : (1073741823 : Int32).toBitVec.toNat = 1073741823 := by decide
    omega
  · apply Int32.toBitVec_inj.mp
    exact (BitVec.ofNat_toNat (m := 32) (v &&& 1073741823).toBitVec |>.trans (BitVec.setWidth_eq _)).symm
theorem l_cell {L v : Nat} {S : Nat → Int32} (M : z_Mem) (hL : L ≤ 260) (hv : v < 2 ^ 31) : ∃ c, c < 2 ^ 30 ∧ F_Law_cell L S (Int32.ofNat v) M = some (Int32.ofNat c) := by
  unfold F_Law_cell
  by_cases h : L ≤ v
  · rw [if_pos ((i_le (by omega) hv).mpr h)]
    exact ⟨0, by decide, rfl⟩
  · rw [if_neg (fun q => h ((i_le (by omega) hv).mp q)), if_pos ((i_inb hv).mpr (by omega))]
    obtain ⟨c, hc, e⟩ := l_mask (S (Int32.ofNat v).toNatClampNeg)
    exact ⟨c, hc, congrArg some e⟩
/-- the law's object -/
def l_ob (a Z : Nat) (M : z_Mem) (s : q_S) : Prop := M.1 a 2 = Int32.ofNat Z ∧ M.1 a 3 = Int32.ofNat (q_T s.1) ∧ M.1 a 4 = s.1 67 ∧ M.1 a 5 = s.2.1 7 ∧ M.1 a 6 = Int32.ofNat (q_N s.2.1) ∧ s.1 64 = Int32.ofNat Z ∧ 3 ≤ Z ∧ Z ≤ 8 ∧ 1 ≤ q_T s.1
def l_st (o a Z w n : Nat) (M : z_Mem) (s : q_S) : Prop := q_Inv s ∧ i_X w n s ∧ c_all o M s ∧ l_ob a Z M s
theorem l_st.go {o a Z w n w' n' : Nat} {M M' : z_Mem} {s s' : q_S} (hao : a < o) (h : l_st o a Z w n M s) (hc : c_all o M' s') (hl : i_lo o M M') (hI : q_Inv s') (hk : i_kp s s') (hX : i_X w' n' s') : l_st o a Z w' n' M' s' := by
  obtain ⟨-, -, -, h2, h3, h4, h5, h6, h7, h8, h9, h10⟩ := h
  have e := hl a hao
  have eN : q_N s'.2.1 = q_N s.2.1 := by
    unfold q_N
    rw [hk.2.1]
  exact ⟨hI, hX, hc, by rw [e]; exact h2, by rw [e, hk.1]; exact h3, by rw [e, hk.1]; exact h4, by rw [e, hk.2.2]; exact h5, by rw [e, eN]; exact h6, by rw [hk.1]; exact h7, h8, h9, by rw [hk.1]; exact h10⟩
theorem n_mod2 {f g Z : Nat} (hf : f < Z) (hg : g + 1 < Z) : (f + 1 + g) % Z < Z ∧ (f + 1 + g) % Z ≠ f := by
  refine ⟨Nat.mod_lt _ (by omega), ?_⟩
  by_cases h : f + 1 + g < Z
  · rw [Nat.mod_eq_of_lt h]
    omega
  · rw [Nat.mod_eq_sub_mod (by omega), Nat.mod_eq_of_lt (by omega)]
    omega
theorem l_asks {o a Z w n c : Nat} {M : z_Mem} {s : q_S} (hao : a < o) (hw : w ≤ 2 ^ 19) (h : l_st o a Z w n M s) (hc : c < 2 ^ 30) : ∃ s' M', F_Law_asks o a (Int32.ofNat c) M = some M' ∧ l_st o a Z w n M' s' := by
  obtain ⟨hI, hX, hall, h2, h3, h4, h5, h6, h7, h8, h9, h10⟩ := h
  have hN24 := hI.1.I.rides24
  have hz1 : c / 8 % (Z - 1) + 1 < Z := by
    have := Nat.mod_lt (c / 8) (show 0 < Z - 1 by omega)
    omega
  have hf := Nat.mod_lt c (show 0 < Z by omega)
  obtain ⟨m1, m2⟩ := n_mod2 hf hz1
  have k3 := Nat.mod_lt (c / 64) (show 0 < 3 by omega)
  have k20 := Nat.mod_lt (c / 256) (show 0 < 20 by omega)
  have k200 := Nat.mod_lt (c / 5120) (show 0 < 200 by omega)
  obtain ⟨s', v, M', e, c', l', hI', hX', hk1, hk7, hv⟩ := d_ask (o := o) (a := c % Z) (b := (c % Z + 1 + c / 8 % (Z - 1)) % Z) (p := 1 + c / 64 % 3) (dl := c / 256 % 20) (dt := c / 5120 % 200) hI hX hw h7 h9 hf m1 m2.symm (by omega) (by omega) (by omega) (by omega) hall
  have e8 : Int32.ofNat c / 8 = Int32.ofNat (c / 8) := i_div (b := 8) (by omega) (by decide)
  have e64 : Int32.ofNat c / 64 = Int32.ofNat (c / 64) := i_div (b := 64) (by omega) (by decide)
  have e256 : Int32.ofNat c / 256 = Int32.ofNat (c / 256) := i_div (b := 256) (by omega) (by decide)
  have e5120 : Int32.ofNat c / 5120 = Int32.ofNat (c / 5120) := i_div (b := 5120) (by omega) (by decide)
  have eZ1 : Int32.ofNat Z - 1 = Int32.ofNat (Z - 1) := i_sub (a := Z) (b := 1) (by omega)
  have r3 : Int32.ofNat (c / 64) - Int32.ofNat (c / 64) / 3 * 3 = Int32.ofNat (c / 64 % 3) := i_rem (b := 3) (by omega) (by decide)
  have r20 : Int32.ofNat (c / 256) - Int32.ofNat (c / 256) / 20 * 20 = Int32.ofNat (c / 256 % 20) := i_rem (b := 20) (by omega) (by decide)
  have r200 : Int32.ofNat (c / 5120) - Int32.ofNat (c / 5120) / 200 * 200 = Int32.ofNat (c / 5120 % 200) := i_rem (b := 200) (by omega) (by decide)
  have a1 : Int32.ofNat (c % Z) + 1 = Int32.ofNat (c % Z + 1) := i_add (c % Z) 1
  have a2 : (1 : Int32) + Int32.ofNat (c / 64 % 3) = Int32.ofNat (1 + c / 64 % 3) := i_add 1 _
  have en := l' a hao
  unfold F_Law_asks
  simp only [zl]
  rw [h2, if_pos (show ¬ Int32.ofNat Z = 0 from i_ne0 (by omega) (by omega)), i_rem (by omega) (by omega), eZ1, if_pos (show ¬ Int32.ofNat (Z - 1) = 0 from i_ne0 (by omega) (by omega)), if_pos (show ¬ Int32.ofNat Z = 0 from i_ne0 (by omega) (by omega)), e8, i_rem (by omega) (by omega), e64, r3, e256, r20, e5120, r200, a2, a1, i_add, i_rem (by omega) (by omega), zb2_ok e]
  have keepM : ∀ x, q_M o M' (z_wI M' a 6 x) := fun x y hy => ⟨funext fun j => w_addr j (by unfold q_inC at hy; omega), rfl⟩
  rcases hv with ⟨hv, hn⟩ | ⟨hv, hN, hn⟩
  · rw [hv, if_pos (by decide)]
    have eN : q_N s'.2.1 = q_N s.2.1 := by unfold q_N; rw [hn]
    exact ⟨s', M', rfl, hI', hX', c', by rw [en]; exact h2, by rw [en, hk1]; exact h3, by rw [en, hk1]; exact h4, by rw [en, hk7]; exact h5, by rw [en, eN]; exact h6, by rw [hk1]; exact h7, h8, h9, by rw [hk1]; exact h10⟩
  · rw [hv, if_neg (i_nn (by omega)), en, h6, i_succ]
    have eN : q_N s'.2.1 = q_N s.2.1 + 1 := by unfold q_N; rw [hn, i_cl (by omega)]; rfl
    exact ⟨s', _, rfl, hI', hX', c'.keep (keepM _), by rw [w_slot _ (by decide), en]; exact h2, by rw [w_slot _ (by decide), en, hk1]; exact h3, by rw [w_slot _ (by decide), en, hk1]; exact h4, by rw [w_slot _ (by decide), en, hk7]; exact h5, by rw [w_same, eN], by rw [hk1]; exact h7, h8, h9, by rw [hk1]; exact h10⟩
theorem l_book {o a Z w n : Nat} {M : z_Mem} {s : q_S} (hao : a < o) (h : l_st o a Z w n M s) : ∃ s' M', (if (M.1 a 6) ≤ 0 then some M else zb2 (F_Sys_accept o ((M.1 a 6) - 1) M) fun _ M2 => some M2) = some M' ∧ l_st o a Z w n M' s' := by
  have hN24 := h.1.1.I.rides24
  rw [h.2.2.2.2.2.2.2.1]
  by_cases h0 : q_N s.2.1 = 0
  · rw [h0, if_pos (by decide)]
    exact ⟨s, M, rfl, h⟩
  · rw [if_neg (show ¬ Int32.ofNat (q_N s.2.1) ≤ (0:Int32) from i_nle (b := 0) (by omega) (by decide) (by omega)), show Int32.ofNat (q_N s.2.1) - 1 = Int32.ofNat (q_N s.2.1 - 1) from i_sub (b := 1) (by omega)]
    obtain ⟨s', v, M', e, c', l', hI', hk', hX'⟩ := d_accept (o := o) (r := q_N s.2.1 - 1) h.1 h.2.1 (by omega) h.2.2.1
    rw [zb2_ok e]
    exact ⟨s', M', rfl, h.go hao c' l' hI' hk' hX'⟩
theorem l_acts {o a Z w n c : Nat} {M : z_Mem} {s : q_S} (hao : a < o) (hw : w + 25 ≤ 9999) (h : l_st o a Z w n M s) (hc : c < 2 ^ 30) : ∃ s' M', F_Law_acts o a (Int32.ofNat c) M = some M' ∧ l_st o a Z (w + 25) (n + 48) M' s' := by
  have hN24 := h.1.1.I.rides24
  have hT4 := h.1.1.I.taxis4
  have more : ∀ {M1 s1}, l_st o a Z w n M1 s1 → l_st o a Z (w + 25) (n + 48) M1 s1 := fun g => ⟨g.1, g.2.1.more (by omega) (by omega), g.2.2⟩
  have e8 : Int32.ofNat c / 8 = Int32.ofNat (c / 8) := i_div (b := 8) (by omega) (by decide)
  have r8 : Int32.ofNat c - Int32.ofNat c / 8 * 8 = Int32.ofNat (c % 8) := i_rem (b := 8) (by omega) (by decide)
  have hb : ∃ s' M', (zb (F_Law_asks o a (Int32.ofNat (c / 8)) M) fun M2 => if (M2.1 a 6) ≤ 0 then some M2 else zb2 (F_Sys_accept o ((M2.1 a 6) - 1) M2) fun _ M3 => some M3) = some M' ∧ l_st o a Z (w + 25) (n + 48) M' s' := by
    obtain ⟨s1, M1, e1, h1⟩ := l_asks (c := c / 8) hao (by omega) h (by omega)
    obtain ⟨s2, M2, e2, h2⟩ := l_book hao h1
    rw [zb_ok e1, e2]
    exact ⟨s2, M2, rfl, more h2⟩
  have r25 : Int32.ofNat (c / 8) - Int32.ofNat (c / 8) / 25 * 25 = Int32.ofNat (c / 8 % 25) := i_rem (b := 25) (by omega) (by decide)
  have k25 := Nat.mod_lt (c / 8) (show 0 < 25 by omega)
  have ha : ∃ s' M', (zb2 (F_Sys_advance o (1 + (Int32.ofNat (c / 8) - Int32.ofNat (c / 8) / 25 * 25)) M) fun _ M2 => some M2) = some M' ∧ l_st o a Z (w + 25) (n + 48) M' s' := by
    obtain ⟨s', v, M', e, c', l', hI', hk', hX'⟩ := d_advance (o := o) (p := 1 + c / 8 % 25) h.1 h.2.1 (by omega) (by omega) (by omega) h.2.2.1
    rw [r25, show (1 : Int32) + Int32.ofNat (c / 8 % 25) = Int32.ofNat (1 + c / 8 % 25) from i_add 1 _, zb2_ok e]
    exact ⟨s', M', rfl, h.go hao c' l' hI' hk' (hX'.more (by omega) (by omega))⟩
  unfold F_Law_acts
  simp only [zl]
  rw [r8, e8]
  have k8 := Nat.mod_lt c (show 0 < 8 by omega)
  generalize c % 8 = j at k8 ⊢
  have ne : ∀ i : Nat, i < 8 → j ≠ i → ¬ Int32.ofNat j = Int32.ofNat i := fun i hi hne => i_ne (by omega) (by omega) hne
  by_cases q0 : j = 0
  · rw [q0, if_pos (by decide)]
    exact hb
  rw [if_neg (show ¬ Int32.ofNat j = 0 from ne 0 (by omega) q0)]
  by_cases q1 : j = 1
  · rw [q1, if_pos (by decide)]
    exact hb
  rw [if_neg (show ¬ Int32.ofNat j = 1 from ne 1 (by omega) q1)]
  by_cases q2 : j = 2
  · rw [q2, if_pos (by decide)]
    exact hb
  rw [if_neg (show ¬ Int32.ofNat j = 2 from ne 2 (by omega) q2)]
  by_cases q3 : j = 3
  · rw [q3, if_pos (by decide)]
    exact ha
  rw [if_neg (show ¬ Int32.ofNat j = 3 from ne 3 (by omega) q3)]
  by_cases q4 : j = 4
  · rw [q4, if_pos (by decide)]
    exact ha
  rw [if_neg (show ¬ Int32.ofNat j = 4 from ne 4 (by omega) q4)]
  by_cases q5 : j = 5
  · rw [q5, if_pos (by decide)]
    exact ha
  rw [if_neg (show ¬ Int32.ofNat j = 5 from ne 5 (by omega) q5)]
  by_cases q6 : j = 6
  · rw [q6, if_pos (by decide), h.2.2.2.2.2.2.2.1]
    by_cases h0 : q_N s.2.1 = 0
    · rw [h0, if_pos (by decide)]
      exact ⟨s, M, rfl, more h⟩
    · rw [if_neg (show ¬ Int32.ofNat (q_N s.2.1) ≤ (0:Int32) from i_nle (b := 0) (by omega) (by decide) (by omega)), if_pos (show ¬ Int32.ofNat (q_N s.2.1) = 0 from i_ne0 (by omega) h0), i_rem (by omega) (by omega)]
      have km := Nat.mod_lt (c / 8) (show 0 < q_N s.2.1 by omega)
      obtain ⟨s', v, M', e, c', l', hI', hk', hX'⟩ := d_absent (o := o) (r := c / 8 % q_N s.2.1) h.1 h.2.1 km h.2.2.1
      rw [zb2_ok e]
      exact ⟨s', M', rfl, more (h.go hao c' l' hI' hk' hX')⟩
  rw [if_neg (show ¬ Int32.ofNat j = 6 from ne 6 (by omega) q6), h.2.2.2.2.1]
  have hT1 : 1 ≤ q_T s.1 := h.2.2.2.2.2.2.2.2.2.2.2
  have km := Nat.mod_lt (c / 8) (show 0 < q_T s.1 by omega)
  have e4 : Int32.ofNat (c / 8) / 4 = Int32.ofNat (c / 8 / 4) := i_div (b := 4) (by omega) (by decide)
  have r900 : Int32.ofNat (c / 8 / 4) - Int32.ofNat (c / 8 / 4) / 900 * 900 = Int32.ofNat (c / 8 / 4 % 900) := i_rem (b := 900) (by omega) (by decide)
  have k900 := Nat.mod_lt (c / 8 / 4) (show 0 < 900 by omega)
  rw [if_pos (show ¬ Int32.ofNat (q_T s.1) = 0 from i_ne0 (by omega) (by omega)), i_rem (by omega) (by omega), e4, r900, show (1 : Int32) + Int32.ofNat (c / 8 / 4 % 900) = Int32.ofNat (1 + c / 8 / 4 % 900) from i_add 1 _]
  obtain ⟨s', v, M', e, c', l', hI', hk', hX'⟩ := d_tip (o := o) (t := c / 8 % q_T s.1) (q := 1 + c / 8 / 4 % 900) h.1 h.2.1 km (by omega) (by omega) h.2.2.1
  rw [zb2_ok e]
  exact ⟨s', M', rfl, more (h.go hao c' l' hI' hk' hX')⟩
theorem l_taxis {o a Z w n L v : Nat} {S : Nat → Int32} {M : z_Mem} {s : q_S} {rec2 : Int32 → z_Mem → Option (Int32 × z_Mem)} (h : l_st o a Z w n M s) (hn : 25344 * n < 2 ^ 31) : ∀ (d t f : Nat), t + d = q_T s.1 → d < f → F_Law_holds_L21 L S o a rec2 f (Int32.ofNat v) (Int32.ofNat t) M = rec2 (Int32.ofNat (v + 1)) M := by
  have hT4 := h.1.1.I.taxis4
  obtain ⟨hI, hX, hc, h2, h3, h4, h5, h6, h7, h8, h9, h10⟩ := h
  intro d
  induction d with
  | zero =>
    intro t f ht hf
    obtain ⟨f, rfl⟩ : ∃ g, f = g + 1 := ⟨f - 1, by omega⟩
    unfold F_Law_holds_L21 F_Law_holds_B21
    rw [h3, if_pos ((i_le (by omega) (by omega)).mpr (by omega)), zl_eq, i_succ]
  | succ d ih =>
    intro t f ht hf
    obtain ⟨f, rfl⟩ : ∃ g, f = g + 1 := ⟨f - 1, by omega⟩
    have e := ih (t + 1) f (by omega) (by omega)
    unfold F_Law_holds_L21 F_Law_holds_B21
    rw [h3, if_neg (i_nle (by omega) (by omega) (by omega)), zb_ok (l_settled hI hX hn (show t < q_T s.1 by omega) hc h4 h5 h6), if_neg (by decide), zl_eq, i_succ]
    exact e
theorem l_holds_L {o a Z L : Nat} {S : Nat → Int32} (hao : a < o) (hL : L ≤ 260) : ∀ (d v f : Nat) (M : z_Mem) (s : q_S), v + d = 30 → 2 ≤ v → d < f → l_st o a Z (25 * (v - 2)) (48 * (v - 2)) M s → ∃ M', F_Law_holds_L2 L S o a f (Int32.ofNat v) M = some (1, M') := by
  intro d
  induction d with
  | zero =>
    intro v f M s hv h2 hf h
    obtain ⟨f, rfl⟩ : ∃ g, f = g + 1 := ⟨f - 1, by omega⟩
    unfold F_Law_holds_L2 F_Law_holds_B2
    rw [if_pos (show (30 : Int32) ≤ Int32.ofNat v from (i_le (a := 30) (by decide) (by omega)).mpr (by omega))]
    exact ⟨M, rfl⟩
  | succ d ih =>
    intro v f M s hv h2 hf h
    obtain ⟨f, rfl⟩ : ∃ g, f = g + 1 := ⟨f - 1, by omega⟩
    obtain ⟨c, hc, ec⟩ := l_cell (S := S) M hL (show v < 2 ^ 31 by omega)
    obtain ⟨s', M1, e1, h1⟩ := l_acts hao (by omega) h hc
    have hT4 := h1.1.1.I.taxis4
    obtain ⟨M', e'⟩ := ih (v + 1) f M1 s' (by omega) (by omega) (by omega) (by
      rw [show 25 * (v + 1 - 2) = 25 * (v - 2) + 25 by omega, show 48 * (v + 1 - 2) = 48 * (v - 2) + 48 by omega]
      exact h1)
    refine ⟨M', ?_⟩
    unfold F_Law_holds_L2 F_Law_holds_B2
    rw [if_neg (show ¬ (30 : Int32) ≤ Int32.ofNat v from i_nle (a := 30) (by decide) (by omega) (by omega)), zb_ok ec, zb_ok e1]
    have el := l_taxis (L := L) (S := S) (v := v) (rec2 := F_Law_holds_L2 L S o a f) h1 (by omega) (q_T s'.1) 0 10000 (by omega) (by omega)
    exact el.trans e'
theorem l_holdsAll {o a Z L : Nat} {S : Nat → Int32} {M : z_Mem} {s : q_S} (hao : a < o) (hL : L ≤ 260) (h : l_st o a Z 0 0 M s) : ∃ M', F_Law_holds L S o a M = some (1, M') := l_holds_L hao hL 28 2 10000 M s (by omega) (by omega) (by omega) h
