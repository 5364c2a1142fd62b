/-! ===== the class's side, a second helping (out of whole, by program) ===== -/
theorem z_pair {x y : Int32} {M : z_Mem} (h : x = y) : some (x, M) = some (y, M) := by rw [h]
theorem i_b255 : ∀ i, i < 32 → 8 ≤ i → (255#32).getLsbD i = false := by decide
theorem i_byte (x : Int32) : x.toInt8.toInt32 &&& 255 = x &&& 255 := by
  apply Int32.toBitVec_inj.mp
  rw [Int32.toBitVec_and, Int32.toBitVec_and]
  show (x.toBitVec.signExtend 8).signExtend 32 &&& 255#32 = x.toBitVec &&& 255#32
  apply BitVec.eq_of_getLsbD_eq
  intro i hi
  rw [BitVec.getLsbD_and, BitVec.getLsbD_and]
  by_cases h : i < 8
  · rw [BitVec.getLsbD_signExtend, BitVec.getLsbD_signExtend]
    have h32 : i < 32 := hi
    simp [h, h32]
  · rw [i_b255 i hi (by omega), Bool.and_false, Bool.and_false]
def q_sb (s : q_S) (b : q_R × Nat) : q_S := (s.1, s.2.1, s.2.2.1, s.2.2.2.1, b, s.2.2.2.2.2.1, s.2.2.2.2.2.2)
def q_app (b : q_R) (n : Nat) (v : Int32) : q_R := fun k => if k = n then v else b k
theorem c_step {o n : Nat} {M : z_Mem} {s : q_S} {b : q_R} {v w : Int32} (hc : c_all o M (q_sb s (b, n))) (hn : n < 800) (hw : w &&& 255 = v) : c_all o (z_wI (z_wI M (o + 1) n w) o 1 (Int32.ofNat (n + 1))) (q_sb s (q_app b n v, n + 1)) := by
  obtain ⟨⟨a1, a2, a3⟩, h2, h3, h4, ⟨b0, b1, b2⟩, h6, ⟨d0, d1, d2⟩⟩ := hc
  have e : ∀ a, o + 1 < a → (z_wI (z_wI M (o + 1) n w) o 1 (Int32.ofNat (n + 1))).1 a = M.1 a := fun a ha => funext fun k => by rw [w_addr _ (by omega), w_addr _ (by omega)]
  have e0 : ∀ k, k ≠ 1 → (z_wI (z_wI M (o + 1) n w) o 1 (Int32.ofNat (n + 1))).1 o k = M.1 o k := fun k hk => by rw [w_slot _ hk, w_addr _ (by omega)]
  refine ⟨⟨by rw [e _ (by omega)]; exact a1, by rw [e _ (by omega)]; exact a2, fun k hk => by rw [e _ (by omega)]; exact a3 k hk⟩, h2.keep (fun a q1 q2 => e a (by omega)), h3.keep (fun a q1 q2 => e a (by omega)), ?_, ⟨hn, w_same _ _ _ _, fun k hk => ?_⟩, by rw [e0 _ (by decide)]; exact h6, ⟨d0, by rw [e0 _ (by decide)]; exact d1, fun k hk => by rw [e _ (by omega)]; exact d2 k hk⟩⟩
  · show c_snap _ o s.1 s.2.2.2.1
    have h4' : c_snap M o s.1 s.2.2.2.1 := h4
    cases hs : s.2.2.2.1 with
    | none =>
      rw [hs] at h4'
      show (z_wI (z_wI M (o + 1) n w) o 1 (Int32.ofNat (n + 1))).1 o 9 = 0
      rw [e0 _ (by decide)]
      exact h4'
    | some B =>
      rw [hs] at h4'
      exact ⟨by rw [e0 _ (by decide)]; exact h4'.1, h4'.2.keep (fun a q1 q2 => e a (by omega))⟩
  · rw [w_addr _ (by omega)]
    show _ = (if k = n then v else b k)
    by_cases hkn : k = n
    · rw [if_pos hkn, hkn, w_same]
      exact hw
    · have hk' : k < n + 1 := hk
      rw [if_neg hkn, w_slot _ hkn]
      exact b2 k (show k < n by omega)
def q_by (p sh : Int32) : Int32 := (p >>> (sh &&& 31)) &&& 255
theorem a_byte_c {o n f : Nat} {M : z_Mem} {s : q_S} {b : q_R} {p sh : Int32} (hs : ¬ sh < 0) (hc : c_all o M (q_sb s (b, n))) (hn : n < 800) : ∃ M', F_Sys_appendFourBytes_L3 o (f + 1) p sh M = F_Sys_appendFourBytes_L3 o f p (sh + -8) M' ∧ c_all o M' (q_sb s (q_app b n (q_by p sh), n + 1)) ∧ q_C o M M' := by
  have hb : M.1 o 1 = Int32.ofNat n := hc.2.2.2.2.1.2.1
  have h2 : ¬ (800 : Int32) ≤ Int32.ofNat n := fun q => by
    have := (i_le (a := 800) (by decide) (by omega)).mp q
    omega
  refine ⟨_, ?_, c_step (w := (((p >>> (sh &&& 31)).toInt8.toInt32).toInt8.toInt32)) hc hn (by rw [i_byte, i_byte]; rfl), (q_C.w (Or.inl ⟨by omega, by omega⟩)).tr (q_C.w (Or.inl ⟨by omega, by omega⟩))⟩
  show F_Sys_appendFourBytes_B3 o (F_Sys_appendFourBytes_L3 o f) p sh M = _
  unfold F_Sys_appendFourBytes_B3
  rw [if_neg hs, hb, if_neg (i_nn (by omega)), if_neg h2, if_pos ((i_inb (by omega)).mpr hn), i_cl (by omega)]
  simp only [zl]
  rw [w_addr _ (by omega), hb, i_succ]
def q_four (b : q_R) (n : Nat) (p : Int32) : q_R := q_app (q_app (q_app (q_app b n (q_by p 24)) (n + 1) (q_by p (24 + -8))) (n + 1 + 1) (q_by p (24 + -8 + -8))) (n + 1 + 1 + 1) (q_by p (24 + -8 + -8 + -8))
theorem a_four_c {o n : Nat} {M : z_Mem} {s : q_S} {b : q_R} (p : Int32) (hc : c_all o M (q_sb s (b, n))) (hn : n + 4 ≤ 800) : ∃ M', F_Sys_appendFourBytes o p M = some M' ∧ c_all o M' (q_sb s (q_four b n p, n + 4)) ∧ q_C o M M' := by
  obtain ⟨M1, e1, c1, k1⟩ := a_byte_c (f := 9999) (p := p) (sh := 24) (by decide) hc (by omega)
  obtain ⟨M2, e2, c2, k2⟩ := a_byte_c (f := 9998) (p := p) (sh := 24 + -8) (by decide) c1 (by omega)
  obtain ⟨M3, e3, c3, k3⟩ := a_byte_c (f := 9997) (p := p) (sh := 24 + -8 + -8) (by decide) c2 (by omega)
  obtain ⟨M4, e4, c4, k4⟩ := a_byte_c (f := 9996) (p := p) (sh := 24 + -8 + -8 + -8) (by decide) c3 (by omega)
  refine ⟨M4, ?_, c4, ((k1.tr k2).tr k3).tr k4⟩
  unfold F_Sys_appendFourBytes
  refine e1.trans (e2.trans (e3.trans (e4.trans ?_)))
  show F_Sys_appendFourBytes_B3 o (F_Sys_appendFourBytes_L3 o 9995) p (24 + -8 + -8 + -8 + -8) M4 = some M4
  unfold F_Sys_appendFourBytes_B3
  exact if_pos (by decide)
def q_five (b : q_R) (n : Nat) (p0 p1 p2 p3 p4 : Int32) : q_R := q_four (q_four (q_four (q_four (q_four b n p0) (n + 4) p1) (n + 4 + 4) p2) (n + 4 + 4 + 4) p3) (n + 4 + 4 + 4 + 4) p4
/-- the state after feed -/
def q_feed (s : q_S) (p0 p1 p2 p3 p4 : Int32) : q_S := if s.2.2.2.2.1.2 + 20 ≤ 800 then q_sb s (q_five s.2.2.2.2.1.1 s.2.2.2.2.1.2 p0 p1 p2 p3 p4, s.2.2.2.2.1.2 + 4 + 4 + 4 + 4 + 4) else s
theorem i_20 {n : Nat} (hn : n ≤ 800) : (Int32.ofNat n + 20 ≤ (800 : Int32)) ↔ n + 20 ≤ 800 := by
  rw [show (20 : Int32) = Int32.ofNat 20 from rfl, i_add, show (800 : Int32) = Int32.ofNat 800 from rfl, i_le (by omega) (by decide)]
theorem a_feed_c {o : Nat} {M : z_Mem} {s : q_S} (hc : c_all o M s) (p0 p1 p2 p3 p4 : Int32) : ∃ M', F_Sys_feed o p0 p1 p2 p3 p4 M = some (if s.2.2.2.2.1.2 + 20 ≤ 800 then Int32.ofNat (s.2.2.2.2.1.2 + 20) else -1, M') ∧ c_all o M' (q_feed s p0 p1 p2 p3 p4) ∧ q_C o M M' := by
  have hn := hc.2.2.2.2.1.1
  have hb := hc.2.2.2.2.1.2.1
  unfold F_Sys_feed q_feed
  rw [hb]
  by_cases h : s.2.2.2.2.1.2 + 20 ≤ 800
  · rw [if_pos ((i_20 hn).mpr h), if_pos h, if_pos h]
    obtain ⟨M1, e1, c1, k1⟩ := a_four_c (b := s.2.2.2.2.1.1) (n := s.2.2.2.2.1.2) (s := s) p0 hc (by omega)
    obtain ⟨M2, e2, c2, k2⟩ := a_four_c p1 c1 (by omega)
    obtain ⟨M3, e3, c3, k3⟩ := a_four_c p2 c2 (by omega)
    obtain ⟨M4, e4, c4, k4⟩ := a_four_c p3 c3 (by omega)
    obtain ⟨M5, e5, c5, k5⟩ := a_four_c p4 c4 (by omega)
    refine ⟨M5, ?_, c5, (((k1.tr k2).tr k3).tr k4).tr k5⟩
    rw [zb_ok e1, zb_ok e2, zb_ok e3, zb_ok e4, zb_ok e5]
    exact z_pair c5.2.2.2.2.1.2.1
  · rw [if_neg (fun q => h ((i_20 hn).mp q)), if_neg h, if_neg h]
    exact ⟨M, rfl, hc, q_C.rfl'⟩
theorem p_cut_lt {o t x : Nat} {M : z_Mem} (h : x < o + t) : (p_cut o t M).1 x = M.1 x := funext fun k => if_pos h
theorem x_to_le {T : Nat → Nat} {n q : Nat} (hq : q ≤ n) (hs : q < n → x_st T q = true) : q ≤ x_to T n q ∧ x_to T n q ≤ n ∧ (q < n → q < x_to T n q) ∧ (x_to T n q < n → x_st T (x_to T n q) = true) := by
  unfold x_to
  by_cases g : q < n
  · rw [if_pos g]
    have := x_next g (hs g)
    exact ⟨by omega, this.2.2.2, fun _ => this.2.2.1, this.2.1⟩
  · rw [if_neg g]
    exact ⟨hq, Nat.le_refl _, fun h => absurd h g, fun h => absurd h (Nat.lt_irrefl _)⟩
theorem t_startShift (a : Nat) (p0 p1 p2 p3 : Int32) (M : z_Mem) : ∃ M', F_Taxi_startShift a p0 p1 p2 p3 M = some M' ∧ (M'.1 a 0 = p0 ∧ M'.1 a 1 = p1 ∧ M'.1 a 2 = p2 ∧ M'.1 a 3 = p2 ∧ M'.1 a 4 = p3 ∧ M'.1 a 5 = 0 ∧ M'.1 a 6 = -1 ∧ M'.1 a 7 = 0 ∧ M'.1 a 8 = 0 ∧ ∀ k, 11 ≤ k → k ≤ 16 → M'.1 a k = 0) ∧ (∀ x, x ≠ a → M'.1 x = M.1 x) ∧ M'.2 = M.2 := by
  unfold F_Taxi_startShift
  simp only [zl_eq]
  refine ⟨_, rfl, ?_, fun x hx => funext fun k => ?_, rfl⟩
  · refine ⟨?_, ?_, ?_, ?_, ?_, ?_, ?_, ?_, ?_, fun k h1 h2 => ?_⟩
    · repeat (first | exact w_same _ _ _ _ | rw [w_slot _ (by decide)])
    · repeat (first | exact w_same _ _ _ _ | rw [w_slot _ (by decide)])
    · repeat (first | exact w_same _ _ _ _ | rw [w_slot _ (by decide)])
    · repeat (first | exact w_same _ _ _ _ | rw [w_slot _ (by decide)])
    · repeat (first | exact w_same _ _ _ _ | rw [w_slot _ (by decide)])
    · repeat (first | exact w_same _ _ _ _ | rw [w_slot _ (by decide)])
    · repeat (first | exact w_same _ _ _ _ | rw [w_slot _ (by decide)])
    · repeat (first | exact w_same _ _ _ _ | rw [w_slot _ (by decide)])
    · repeat (first | exact w_same _ _ _ _ | rw [w_slot _ (by decide)])
    · rcases (show k = 11 ∨ k = 12 ∨ k = 13 ∨ k = 14 ∨ k = 15 ∨ k = 16 by omega) with rfl | rfl | rfl | rfl | rfl | rfl <;> repeat (first | exact w_same _ _ _ _ | rw [w_slot _ (by decide)])
  · simp only [w_addr _ hx]
def r_W (W : q_W) (i j v : Nat) : q_W := fun a b => if (a = i ∧ b = j) ∨ (a = j ∧ b = i) then some v else W a b
theorem r_W_ok {Z i j v : Nat} {W : q_W} (h : f_ok Z 99 W) (hi : i < Z) (hj : j < Z) (hij : i ≠ j) (hv : v ≤ 99) : f_ok Z 99 (r_W W i j v) := by
  refine ⟨fun a => ?_, fun a b hab hz => ?_, fun a b w hw => ?_⟩
  · unfold r_W
    rw [if_neg (by omega)]
    exact h.1 a
  · unfold r_W
    rw [if_neg (by omega)]
    exact h.2.1 a b hab hz
  · unfold r_W at hw
    split at hw
    · cases hw
      exact hv
    · exact h.2.2 a b w hw
theorem r_W_mat {M : z_Mem} {x i j v : Nat} {W : q_W} (hi : i < 8) (hj : j < 8) (p : Nat → Nat → Prop) (h : ∀ a b, a < 8 → b < 8 → p a b → M.1 x (8 * a + b) = q_oi (W a b)) : ∀ a b, a < 8 → b < 8 → p a b → (z_wI (z_wI M x (8 * i + j) (Int32.ofNat v)) x (8 * j + i) (Int32.ofNat v)).1 x (8 * a + b) = q_oi (r_W W i j v a b) := fun a b ha hb hp => by
  unfold r_W
  by_cases h1 : a = j ∧ b = i
  · rw [if_pos (Or.inr h1), h1.1, h1.2, w_same]
    rfl
  · by_cases h2 : a = i ∧ b = j
    · rw [if_pos (Or.inl h2), h2.1, h2.2]
      by_cases h3 : 8 * i + j = 8 * j + i
      · rw [h3, w_same]
        rfl
      · rw [w_slot _ h3, w_same]
        rfl
    · rw [if_neg (by omega), w_slot _ (by omega), w_slot _ (by omega)]
      exact h a b ha hb hp
