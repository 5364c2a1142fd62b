/-! ===== PURE: shifts; the law's text fed to the class ===== -/
theorem i_shl8 {u b : Nat} (hu : u < 2 ^ 23) (hb : b < 256) : (Int32.ofNat u <<< ((8 : Int32) &&& 31)) ||| Int32.ofNat b = Int32.ofNat (u * 256 + b) := by
  have e8 : ((8 : Int32) &&& 31).toBitVec.smod 32 = 8#32 := by decide
  apply Int32.toBitVec_inj.mp
  rw [Int32.toBitVec_or, Int32.toBitVec_shiftLeft, e8]
  apply BitVec.eq_of_toNat_eq
  show ((BitVec.ofNat 32 u) <<< (8#32) ||| BitVec.ofNat 32 b).toNat = (BitVec.ofNat 32 (u * 256 + b)).toNat
  rw [BitVec.toNat_or, BitVec.shiftLeft_eq', BitVec.toNat_shiftLeft, BitVec.toNat_ofNat, BitVec.toNat_ofNat, BitVec.toNat_ofNat, BitVec.toNat_ofNat, Nat.mod_eq_of_lt (show u < 2 ^ 32 by omega), Nat.mod_eq_of_lt (show b < 2 ^ 32 by omega), Nat.mod_eq_of_lt (show u * 256 + b < 2 ^ 32 by omega)]
  show u <<< 8 % 2 ^ 32 ||| b = u * 256 + b
  have e : u <<< 8 = u * 256 := Nat.shiftLeft_eq u 8
  rw [Nat.mod_eq_of_lt (by omega), ← Nat.shiftLeft_add_eq_or_of_lt (show b < 2 ^ 8 by omega) u, e]
theorem i_shm : ∀ k : Fin 32, ((Int32.ofNat k.val &&& 31).toBitVec.smod 32).toNat = k.val := by decide
theorem i_shru {u k : Nat} (hu : u < 2 ^ 31) (hk : k < 32) : Int32.ofNat u >>> (Int32.ofNat k &&& 31) = Int32.ofNat (u / 2 ^ k) := by
  have ek : ((Int32.ofNat k &&& 31).toBitVec.smod 32).toNat = k := i_shm ⟨k, hk⟩
  apply Int32.toBitVec_inj.mp
  rw [Int32.toBitVec_shiftRight, BitVec.sshiftRight_eq', ek, BitVec.sshiftRight_eq_of_msb_false]
  · apply BitVec.eq_of_toNat_eq
    show ((BitVec.ofNat 32 u) >>> k).toNat = (BitVec.ofNat 32 (u / 2 ^ k)).toNat
    have hd : u / 2 ^ k ≤ u := Nat.div_le_self _ _
    rw [BitVec.toNat_ushiftRight, BitVec.toNat_ofNat, BitVec.toNat_ofNat, Nat.mod_eq_of_lt (by omega), Nat.mod_eq_of_lt (by omega), Nat.shiftRight_eq_div_pow]
  · show (BitVec.ofNat 32 u).msb = false
    rw [BitVec.msb_eq_false_iff_two_mul_lt, BitVec.toNat_ofNat, Nat.mod_eq_of_lt (by omega)]
    omega
theorem i_and {u k : Nat} (hu : u < 2 ^ 31) (hk : k < 31) : Int32.ofNat u &&& Int32.ofNat (2 ^ k - 1) = Int32.ofNat (u % 2 ^ k) := by
  have hp : 2 ^ k < 2 ^ 31 := Nat.pow_lt_pow_right (by omega) hk
  apply Int32.toBitVec_inj.mp
  rw [Int32.toBitVec_and]
  apply BitVec.eq_of_toNat_eq
  show (BitVec.ofNat 32 u &&& BitVec.ofNat 32 (2 ^ k - 1)).toNat = (BitVec.ofNat 32 (u % 2 ^ k)).toNat
  have hm : u % 2 ^ k ≤ u := Nat.mod_le _ _
  rw [BitVec.toNat_and, BitVec.toNat_ofNat, BitVec.toNat_ofNat, BitVec.toNat_ofNat, Nat.mod_eq_of_lt (by omega), Nat.mod_eq_of_lt (show 2 ^ k - 1 < 2 ^ 32 by omega), Nat.mod_eq_of_lt (show u % 2 ^ k < 2 ^ 32 by omega), Nat.and_two_pow_sub_one_eq_mod]
/-- the first r bytes as a number -/
def v_part (g : Nat → Nat) : Nat → Nat
  | 0 => 0
  | r + 1 => v_part g r * 256 + g r
theorem v_part_4 {g : Nat → Nat} (h : ∀ i, g i < 128) : v_part g 4 < 2 ^ 31 ∧ v_part g 4 / 2 ^ 24 % 2 ^ 8 = g 0 ∧ v_part g 4 / 2 ^ 16 % 2 ^ 8 = g 1 ∧ v_part g 4 / 2 ^ 8 % 2 ^ 8 = g 2 ∧ v_part g 4 / 2 ^ 0 % 2 ^ 8 = g 3 := by
  have e : v_part g 4 = (((0 * 256 + g 0) * 256 + g 1) * 256 + g 2) * 256 + g 3 := rfl
  have h0 := h 0
  have h1 := h 1
  have h2 := h 2
  have h3 := h 3
  rw [e]
  refine ⟨by omega, by omega, by omega, by omega, by omega⟩
theorem v_part_lt {g : Nat → Nat} (h : ∀ i, g i < 128) : ∀ r, r < 4 → v_part g r < 2 ^ 23 := fun r hr => by
  have h0 := h 0
  have h1 := h 1
  have h2 := h 2
  rcases (show r = 0 ∨ r = 1 ∨ r = 2 ∨ r = 3 by omega) with rfl | rfl | rfl | rfl
  · show 0 < 2 ^ 23
    omega
  · show 0 * 256 + g 0 < 2 ^ 23
    omega
  · show (0 * 256 + g 0) * 256 + g 1 < 2 ^ 23
    omega
  · show ((0 * 256 + g 0) * 256 + g 1) * 256 + g 2 < 2 ^ 23
    omega
/-- the class's buffer -/
def v_bf (o n : Nat) (P : Nat → Nat) (M : z_Mem) : Prop := M.1 o 1 = Int32.ofNat n ∧ ∀ i, i < n → M.1 (o + 1) i &&& 255 = Int32.ofNat (P i)
theorem v_byte {o n f : Nat} {P : Nat → Nat} {M : z_Mem} {p sh : Int32} (h : v_bf o n P M) (hn : n < 800) (hs : ¬ sh < 0) (hp : q_by p sh = Int32.ofNat (P n)) : ∃ M', F_Sys_appendFourBytes_L3 o (f + 1) p sh M = F_Sys_appendFourBytes_L3 o f p (sh + -8) M' ∧ v_bf o (n + 1) P M' ∧ v_fr o M M' := by
  refine ⟨z_wI (z_wI M (o + 1) n (((p >>> (sh &&& 31)).toInt8.toInt32).toInt8.toInt32)) o 1 (Int32.ofNat (n + 1)), ?_, ⟨w_same _ _ _ _, fun i hi => ?_⟩, fun x a b => funext fun k => (w_addr _ a).trans (w_addr _ b), fun k hk => (w_slot _ hk).trans (w_addr _ (by omega))⟩
  · show F_Sys_appendFourBytes_B3 o (F_Sys_appendFourBytes_L3 o f) p sh M = _
    unfold F_Sys_appendFourBytes_B3
    rw [if_neg hs, h.1, if_neg (i_nn (by omega)), if_neg (show ¬ (800 : Int32) ≤ Int32.ofNat n from i_nle (a := 800) (by decide) (by omega) hn), if_pos ((i_inb (by omega)).mpr hn), i_cl (by omega), zl_eq, zl_eq, zl_eq, w_addr _ (by omega), h.1, i_succ]
  · rw [w_addr _ (by omega)]
    by_cases q : i = n
    · rw [q, w_same, i_byte, i_byte]
      exact hp
    · rw [w_slot _ q]
      exact h.2 i (by omega)
theorem v_four {o n : Nat} {P : Nat → Nat} {M : z_Mem} (hP : ∀ i, P i < 128) (h : v_bf o n P M) (hn : n + 4 ≤ 800) : ∃ M', F_Sys_appendFourBytes o (Int32.ofNat (v_part (fun x => P (n + x)) 4)) M = some M' ∧ v_bf o (n + 4) P M' ∧ v_fr o M M' := by
  obtain ⟨h31, b0, b1, b2, b3⟩ := v_part_4 (g := fun x => P (n + x)) (fun i => hP _)
  generalize v_part (fun x => P (n + x)) 4 = u at h31 b0 b1 b2 b3 ⊢
  have by' : ∀ k, k < 32 → q_by (Int32.ofNat u) (Int32.ofNat k) = Int32.ofNat (u / 2 ^ k % 2 ^ 8) := fun k hk => by
    unfold q_by
    have hd : u / 2 ^ k ≤ u := Nat.div_le_self _ _
    rw [i_shru h31 hk]
    exact i_and (k := 8) (by omega) (by omega)
  obtain ⟨M1, e1, c1, f1⟩ := v_byte (f := 9999) (p := Int32.ofNat u) (sh := 24) h (by omega) (by decide) ((by' 24 (by omega)).trans (congrArg Int32.ofNat b0))
  obtain ⟨M2, e2, c2, f2⟩ := v_byte (f := 9998) (p := Int32.ofNat u) (sh := 24 + -8) c1 (by omega) (by decide) ((congrArg (q_by (Int32.ofNat u)) (show (24 + -8 : Int32) = Int32.ofNat 16 by decide)).trans ((by' 16 (by omega)).trans (congrArg Int32.ofNat b1)))
  obtain ⟨M3, e3, c3, f3⟩ := v_byte (f := 9997) (p := Int32.ofNat u) (sh := 24 + -8 + -8) c2 (by omega) (by decide) ((congrArg (q_by (Int32.ofNat u)) (show (24 + -8 + -8 : Int32) = Int32.ofNat 8 by decide)).trans ((by' 8 (by omega)).trans (congrArg Int32.ofNat b2)))
  obtain ⟨M4, e4, c4, f4⟩ := v_byte (f := 9996) (p := Int32.ofNat u) (sh := 24 + -8 + -8 + -8) c3 (by omega) (by decide) ((congrArg (q_by (Int32.ofNat u)) (show (24 + -8 + -8 + -8 : Int32) = Int32.ofNat 0 by decide)).trans ((by' 0 (by omega)).trans (congrArg Int32.ofNat b3)))
  refine ⟨M4, ?_, c4, f1.tr (f2.tr (f3.tr f4))⟩
  unfold F_Sys_appendFourBytes
  refine e1.trans (e2.trans (e3.trans (e4.trans ?_)))
  show F_Sys_appendFourBytes_B3 o (F_Sys_appendFourBytes_L3 o 9995) (Int32.ofNat u) (24 + -8 + -8 + -8 + -8) M4 = some M4
  unfold F_Sys_appendFourBytes_B3
  exact if_pos (by decide)
theorem v_feed {o n : Nat} {P : Nat → Nat} {M : z_Mem} {w : Nat → Int32} (hP : ∀ i, P i < 128) (h : v_bf o n P M) (hn : n + 20 ≤ 800) (hw : ∀ j, j < 5 → w j = Int32.ofNat (v_part (fun x => P (n + 4 * j + x)) 4)) : ∃ v M', F_Sys_feed o (w 0) (w 1) (w 2) (w 3) (w 4) M = some (v, M') ∧ v_bf o (n + 20) P M' ∧ v_fr o M M' := by
  obtain ⟨M1, e1, c1, f1⟩ := v_four hP h (by omega)
  obtain ⟨M2, e2, c2, f2⟩ := v_four hP c1 (by omega)
  obtain ⟨M3, e3, c3, f3⟩ := v_four hP c2 (by omega)
  obtain ⟨M4, e4, c4, f4⟩ := v_four hP c3 (by omega)
  obtain ⟨M5, e5, c5, f5⟩ := v_four hP c4 (by omega)
  refine ⟨M5.1 o 1, M5, ?_, c5, f1.tr (f2.tr (f3.tr (f4.tr f5)))⟩
  unfold F_Sys_feed
  rw [h.1, if_pos ((i_20 (by omega)).mpr hn), hw 0 (by omega), hw 1 (by omega), hw 2 (by omega), hw 3 (by omega), hw 4 (by omega), zb_ok (show F_Sys_appendFourBytes o (Int32.ofNat (v_part (fun x => P (n + 4 * 0 + x)) 4)) M = some M1 from e1), zb_ok (show F_Sys_appendFourBytes o (Int32.ofNat (v_part (fun x => P (n + 4 * 1 + x)) 4)) M1 = some M2 from e2), zb_ok (show F_Sys_appendFourBytes o (Int32.ofNat (v_part (fun x => P (n + 4 * 2 + x)) 4)) M2 = some M3 from e3), zb_ok (show F_Sys_appendFourBytes o (Int32.ofNat (v_part (fun x => P (n + 4 * 3 + x)) 4)) M3 = some M4 from e4), zb_ok (show F_Sys_appendFourBytes o (Int32.ofNat (v_part (fun x => P (n + 4 * 4 + x)) 4)) M4 = some M5 from e5)]
/-- the five words -/
theorem v_w8 {a n : Nat} {X : List Nat} {M : z_Mem} (h : v_tx a X M) (hn : n + 20 ≤ 800) (hX : X.length ≤ 800) (hP : ∀ i, X.getD i 32 < 128) : ∀ (r i f : Nat) (w : Nat → Int32), i + r = 20 → r < f → (∀ j, w j = Int32.ofNat (v_part (fun x => X.getD (n + 4 * j + x) 32) (min 4 (i - 4 * j)))) → ∃ w', F_w8 a (Int32.ofNat n) f (Int32.ofNat i) w M = some w' ∧ ∀ j, j < 5 → w' j = Int32.ofNat (v_part (fun x => X.getD (n + 4 * j + x) 32) 4) := by
  intro r
  induction r with
  | zero =>
    intro i f w hi hf hw
    obtain ⟨f, rfl⟩ : ∃ g, f = g + 1 := ⟨f - 1, by omega⟩
    refine ⟨w, ?_, fun j hj => ?_⟩
    · unfold F_w8
      rw [if_pos (show (20 : Int32) ≤ Int32.ofNat i from (i_le (a := 20) (by decide) (by omega)).mpr (by omega))]
    · rw [hw j, show min 4 (i - 4 * j) = 4 by omega]
  | succ r ih =>
    intro i f w hi hf hw
    obtain ⟨f, rfl⟩ : ∃ g, f = g + 1 := ⟨f - 1, by omega⟩
    have e4 : Int32.ofNat i / 4 = Int32.ofNat (i / 4) := i_div (b := 4) (by omega) (by decide)
    have ib : z_inb (Int32.ofNat (i / 4)) 5 := (i_inb (by omega)).mpr (by omega)
    have hwi := hw (i / 4)
    rw [show min 4 (i - 4 * (i / 4)) = i - 4 * (i / 4) by omega] at hwi
    -- the byte
    have step : ∀ b, b = X.getD (n + i) 32 → ∀ j, (if j = i / 4 then (w (i / 4) <<< ((8 : Int32) &&& 31)) ||| Int32.ofNat b else w j) = Int32.ofNat (v_part (fun x => X.getD (n + 4 * j + x) 32) (min 4 (i + 1 - 4 * j))) := fun b hb j => by
      by_cases hj : j = i / 4
      · rw [if_pos hj, hwi, i_shl8 (v_part_lt (fun x => hP _) _ (by omega)) (by rw [hb]; have := hP (n + i); omega), hj, show min 4 (i + 1 - 4 * (i / 4)) = i - 4 * (i / 4) + 1 by omega]
        show _ = Int32.ofNat (v_part (fun x => X.getD (n + 4 * (i / 4) + x) 32) (i - 4 * (i / 4)) * 256 + X.getD (n + 4 * (i / 4) + (i - 4 * (i / 4))) 32)
        rw [hb, show n + 4 * (i / 4) + (i - 4 * (i / 4)) = n + i by omega]
      · rw [if_neg hj, hw j, show min 4 (i - 4 * j) = min 4 (i + 1 - 4 * j) by omega]
    have eU : F_w8 a (Int32.ofNat n) (f + 1) (Int32.ofNat i) w M = if (20 : Int32) ≤ Int32.ofNat i then some w else
      if z_inb (Int32.ofNat i / 4) 5 then
        if M.1 a 1 ≤ Int32.ofNat n + Int32.ofNat i then F_w8 a (Int32.ofNat n) f (Int32.ofNat i + 1) (fun j => if j = (Int32.ofNat i / 4).toNatClampNeg then (w (Int32.ofNat i / 4).toNatClampNeg <<< (8 &&& 31)) ||| 32 else w j) M
        else if z_inb (Int32.ofNat n + Int32.ofNat i) 800 then F_w8 a (Int32.ofNat n) f (Int32.ofNat i + 1) (fun j => if j = (Int32.ofNat i / 4).toNatClampNeg then (w (Int32.ofNat i / 4).toNatClampNeg <<< (8 &&& 31)) ||| M.1 (a + 1) (Int32.ofNat n + Int32.ofNat i).toNatClampNeg else w j) M else none
      else none := rfl
    rw [eU, if_neg (show ¬ (20 : Int32) ≤ Int32.ofNat i from i_nle (a := 20) (by decide) (by omega) (by omega)), e4, if_pos ib, h.1, i_add, i_succ, i_cl (show i / 4 < 2 ^ 31 by omega)]
    by_cases hl : X.length ≤ n + i
    · rw [if_pos ((i_le (by omega) (by omega)).mpr hl)]
      exact ih (i + 1) f _ (by omega) (by omega) (fun j => step 32 (by rw [List.getD_eq_getElem?_getD, List.getElem?_eq_none hl]; rfl) j)
    · have hg : X[n + i]? = some (X[n + i]'(by omega)) := List.getElem?_eq_getElem (by omega)
      have hb := h.2 _ _ hg
      rw [if_neg (i_nle (by omega) (by omega) (by omega)), if_pos ((i_inb (by omega)).mpr (by omega)), i_cl (show n + i < 2 ^ 31 by omega), hb.1]
      exact ih (i + 1) f _ (by omega) (by omega) (fun j => step _ (by rw [List.getD_eq_getElem?_getD, hg]; rfl) j)
theorem v_feedsL {o a : Nat} {X : List Nat} (hao : a + 2 ≤ o) (hX : X.length ≤ 780) (hP : ∀ i, X.getD i 32 < 128) : ∀ (r k f : Nat) (M : z_Mem), X.length ≤ 20 * (k + r) → 20 * k ≤ X.length + 20 → r < f → v_tx a X M → v_bf o (20 * k) (fun i => X.getD i 32) M → ∃ N M', F_Law_feeds_L2 o a f (Int32.ofNat (20 * k)) M = some (Int32.ofNat X.length, z_wI M' a 1 0) ∧ X.length ≤ N ∧ N ≤ 800 ∧ v_bf o N (fun i => X.getD i 32) M' ∧ v_fr o M M' := by
  intro r
  induction r with
  | zero =>
    intro k f M hr hk hf h hb
    obtain ⟨f, rfl⟩ : ∃ g, f = g + 1 := ⟨f - 1, by omega⟩
    refine ⟨20 * k, M, ?_, by omega, by omega, hb, v_fr.rfl'⟩
    unfold F_Law_feeds_L2
    rw [h.1, if_pos ((i_le (by omega) (by omega)).mpr (by omega))]
  | succ r ih =>
    intro k f M hr hk hf h hb
    obtain ⟨f, rfl⟩ : ∃ g, f = g + 1 := ⟨f - 1, by omega⟩
    by_cases hl : X.length ≤ 20 * k
    · refine ⟨20 * k, M, ?_, hl, by omega, hb, v_fr.rfl'⟩
      unfold F_Law_feeds_L2
      rw [h.1, if_pos ((i_le (by omega) (by omega)).mpr hl)]
    · obtain ⟨w, ew, hw⟩ := v_w8 (n := 20 * k) h (by omega) (by omega) hP 20 0 30 (fun _ => 0) rfl (by omega) (fun j => by
        rw [show min 4 (0 - 4 * j) = 0 by omega]
        rfl)
      have ew : F_w8 a (Int32.ofNat (20 * k)) 30 0 (fun _ => 0) M = some w := ew
      obtain ⟨v, M1, e1, b1, f1⟩ := v_feed hP hb (by omega) hw
      have h1 : v_tx a X M1 := ⟨by rw [f1.1 a (by omega) (by omega)]; exact h.1, fun i x hx => by rw [f1.1 (a + 1) (by omega) (by omega)]; exact h.2 i x hx⟩
      obtain ⟨N, M', e', g1, g2, g3, g4⟩ := ih (k + 1) f M1 (by omega) (by omega) (by omega) h1 (by
        rw [show 20 * (k + 1) = 20 * k + 20 by omega]
        exact b1)
      refine ⟨N, M', ?_, g1, g2, g3, f1.tr g4⟩
      have e20 : Int32.ofNat (20 * k) + 20 = Int32.ofNat (20 * (k + 1)) := by
        rw [show (20 : Int32) = Int32.ofNat 20 from rfl, i_add, show 20 * k + 20 = 20 * (k + 1) by omega]
      unfold F_Law_feeds_L2
      rw [h.1, if_neg (i_nle (by omega) (by omega) (by omega)), zb_ok ew, zb2_ok e1, zl_eq, e20]
      exact e'
theorem v_feeds {o a : Nat} {X : List Nat} {M : z_Mem} (hao : a + 2 ≤ o) (hX : X.length ≤ 780) (h : v_tx a X M) (h0 : M.1 o 1 = 0) : ∃ N M', F_Law_feeds o a M = some (Int32.ofNat X.length, z_wI M' a 1 0) ∧ X.length ≤ N ∧ N ≤ 800 ∧ v_bf o N (fun i => X.getD i 32) M' ∧ v_fr o M M' := by
  have hP : ∀ i, X.getD i 32 < 128 := fun i => by
    rw [List.getD_eq_getElem?_getD]
    cases q : X[i]? with
    | none => exact (by decide : (32 : Nat) < 128)
    | some x => exact (h.2 i x q).2
  exact v_feedsL hao hX hP 40 0 41 M (by omega) (by omega) (by omega) h ⟨h0, fun i hi => absurd hi (Nat.not_lt_zero i)⟩
