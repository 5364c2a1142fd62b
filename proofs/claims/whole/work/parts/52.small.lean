/-! ===== PURE: small methods of the reference ===== -/
theorem i_64lt (a b : Int32) : (a.toInt64 < b.toInt64) ↔ a < b := by
  rw [Int64.lt_iff_toInt_lt, Int32.lt_iff_toInt_lt, Int32.toInt_toInt64, Int32.toInt_toInt64]
theorem i_64eq (a b : Int32) : (a.toInt64 = b.toInt64) ↔ a = b := by
  rw [← Int64.toInt_inj, ← Int32.toInt_inj, Int32.toInt_toInt64, Int32.toInt_toInt64]
theorem i_cmp0 (x y : Int64) : lg_cmp x y = 0 ↔ x = y := by
  unfold lg_cmp
  by_cases h : y < x
  · have hne : ¬ x = y := fun q => by rw [q, Int64.lt_iff_toInt_lt] at h; omega
    simp [h, hne]
  · by_cases he : x = y
    · subst he
      simp
    · simp [h, he]
theorem i_cmp1 (x y : Int64) : lg_cmp x y < 0 ↔ x < y := by
  unfold lg_cmp
  by_cases h : y < x
  · have hne : ¬ x < y := fun q => by rw [Int64.lt_iff_toInt_lt] at h q; omega
    simp [h, hne]
  · by_cases he : x = y
    · subst he
      simp
    · have hl : x < y := by
        have he' : ¬ x.toInt = y.toInt := fun q => he (Int64.toInt_inj.mp q)
        rw [Int64.lt_iff_toInt_lt] at h ⊢
        omega
      simp [h, he, hl]
theorem i_cmp2 (x y : Int64) : 0 < lg_cmp x y ↔ y < x := by
  unfold lg_cmp
  by_cases h : y < x
  · simp [h]
  · by_cases he : x = y
    · subst he
      simp
    · simp [h, he]
theorem p_in (p lo hi : Int32) (M : z_Mem) : F_Model_in p.toInt64 lo.toInt64 hi.toInt64 M = some (if p < lo then 0 else if hi < p then 0 else 1) := by
  unfold F_Model_in
  simp only [i_cmp1, i_cmp2, i_64lt]
  split
  · rfl
  · split <;> rfl
theorem p_fails (a : Nat) (x e : Int32) (M : z_Mem) : F_Model_fails a x e M = some (if x = 0 then (1, z_wI M a 0 e) else (0, M)) := by
  unfold F_Model_fails zl
  split <;> rfl
/-- a number that must lie in a range, of the reference: 1 and the code, or 0 -/
theorem p_infails (a : Nat) (p lo hi e : Int32) (M : z_Mem) {β : Type} (f : Int32 → z_Mem → Option β) : (zb (F_Model_in p.toInt64 lo.toInt64 hi.toInt64 M) fun x => zb2 (F_Model_fails a x e M) f) = if p < lo ∨ hi < p then f 1 (z_wI M a 0 e) else f 0 M := by
  rw [zb_ok (p_in p lo hi M)]
  by_cases h1 : p < lo
  · rw [if_pos h1, if_pos (Or.inl h1), zb2_ok ((p_fails a 0 e M).trans rfl)]
  · by_cases h2 : hi < p
    · rw [if_neg h1, if_pos h2, if_pos (Or.inr h2), zb2_ok ((p_fails a 0 e M).trans rfl)]
    · rw [if_neg h1, if_neg h2, if_neg (by rintro (q | q) <;> contradiction), zb2_ok ((p_fails a 1 e M).trans rfl)]
theorem p_infx (a : Nat) (p l h e : Int32) (M : z_Mem) {lo hi : Int64} (hlo : l.toInt64 = lo) (hhi : h.toInt64 = hi) {β : Type} (f : Int32 → z_Mem → Option β) : (zb (F_Model_in p.toInt64 lo hi M) fun x => zb2 (F_Model_fails a x e M) f) = if p < l ∨ h < p then f 1 (z_wI M a 0 e) else f 0 M := by
  subst hlo; subst hhi
  exact p_infails a p l h e M f
theorem p_noZone (a : Nat) (p : Int32) (M : z_Mem) : F_Model_noZone a p M = some (if p < 0 ∨ M.1 a 15 - 1 < p then (1, z_wI M a 0 1) else (0, M)) := by
  unfold F_Model_noZone
  refine (p_infails a p 0 (M.1 a 15 - 1) 1 M _).trans ?_
  split <;> rfl
theorem p_noTaxi (a : Nat) (p : Int32) (M : z_Mem) : F_Model_noTaxi a p M = some (if p < 0 ∨ M.1 a 17 - 1 < p then (1, z_wI M a 0 1) else (0, M)) := by
  unfold F_Model_noTaxi
  refine (p_infails a p 0 (M.1 a 17 - 1) 1 M _).trans ?_
  split <;> rfl
theorem p_noRide (a : Nat) (p : Int32) (M : z_Mem) : F_Model_noRide a p M = some (if p < 0 ∨ M.1 (a + 1) 1 - 1 < p then (1, z_wI M a 0 1) else (0, M)) := by
  unfold F_Model_noRide
  have hb : z_inb 1 581 := by decide
  rw [if_pos hb]
  refine (p_infails a p 0 (M.1 (a + 1) 1 - 1) 1 M _).trans ?_
  split <;> rfl
/-- p - 1 < q, for a number p of things -/
theorem i_pred {n : Nat} {p : Int32} (hn : n < 2 ^ 31) (h : ¬ p < 0) : (Int32.ofNat n - 1 < p) ↔ n ≤ p.toNatClampNeg := by
  obtain ⟨t, ht, rfl⟩ := i_ex h
  rw [i_cl ht]
  cases n with
  | zero =>
    have e : Int32.ofNat 0 - 1 = -1 := by decide
    rw [e, Int32.lt_iff_toInt_lt, i_toInt ht]
    have : (-1 : Int32).toInt = -1 := rfl
    omega
  | succ n =>
    have e : Int32.ofNat (n + 1) - 1 = Int32.ofNat n := by
      rw [← i_add n 1]
      exact Int32.add_sub_cancel _ _
    rw [e, i_lt (by omega) ht]
    omega
