/-! ===== the class's side (out of whole, by program) ===== -/
theorem q_N_w {A : q_R} {k : Nat} {v : Int32} (h : k ≠ 1) : q_N (q_w A k v) = q_N A := by
  unfold q_N
  rw [q_w_ne (fun q => h q.symm)]
theorem q_Inv.row {s : q_S} {A' : q_R} (h : q_Inv s) (h1 : q_J s.1 A') (h2 : q_offJ s.1 A') : q_Inv (q_row s A') := ⟨⟨h.1.1, h1, h.1.2.2.1, h.1.2.2.2⟩, h2, h.2.2.1, h.2.2.2⟩
/-- a number is written that the invariant does not speak of -/
theorem q_Inv.up {s : q_S} {k : Nat} {v : Int32} (h : q_Inv s) (h1 : k ≠ 1) (hT : ∀ t, t < 4 → k ≠ 13 + 40 * t ∧ k ≠ 16 + 40 * t ∧ (k < 24 + 40 * t ∨ 53 + 40 * t ≤ k)) (hR : ∀ r, r < 24 → ∀ j, (173 ≤ j ∧ j < 177) ∨ j = 180 ∨ j = 184 ∨ j = 185 → k ≠ j + 17 * r) (hs : q_scaJ (q_w s.2.1 k v)) : q_Inv (q_up s k v) := by
  have hT4 := h.1.I.taxis4
  have hN := h.1.I.rides24
  refine h.row (h.1.2.1.calm hs (q_w_ne (fun q => h1 q.symm)) (fun t ht => ?_) (fun r hr => ?_)) (fun r hr h0 => ?_)
  · obtain ⟨a1, a2, a3⟩ := hT t (by omega)
    exact ⟨q_w_ne (by omega), q_w_ne (by omega), fun j q1 q2 => q_w_ne (by omega)⟩
  · exact ⟨fun j q1 q2 => q_w_ne (fun q => hR r (by omega) j (by omega) (by omega)), q_w_ne (fun q => hR r (by omega) 180 (by omega) q.symm), q_w_ne (fun q => hR r (by omega) 184 (by omega) q.symm)⟩
  · rw [q_N_w h1] at hr
    rw [q_w_ne (fun q => hR r (by omega) 173 (by omega) q.symm)] at h0
    rw [q_w_ne (fun q => hR r (by omega) 185 (by omega) q.symm), q_w_ne (fun q => hR r (by omega) 184 (by omega) q.symm)]
    exact h.2.1 r hr h0
theorem q_scaJ.w {A : q_R} {k : Nat} {v : Int32} (h : q_scaJ A) (h1 : k ≠ 2) (h2 : k < 10 ∨ 13 ≤ k) : q_scaJ (q_w A k v) := by
  obtain ⟨⟨x, hx, ex⟩, h3⟩ := h
  refine ⟨⟨x, hx, (q_w_ne (fun q => h1 q.symm)).trans ex⟩, fun j hj => ?_⟩
  obtain ⟨y, hy, ey⟩ := h3 j hj
  exact ⟨y, hy, (q_w_ne (by omega)).trans ey⟩
theorem q_Inv.upT {s : q_S} {t idx : Nat} {v : Int32} (h : q_Inv s) (ht : t < 4) (hi : idx = 14 ∨ idx = 15 ∨ (17 ≤ idx ∧ idx < 24)) : q_Inv (q_up s (idx + 40 * t) v) :=
  h.up (by omega) (fun u hu => by omega) (fun r hr j hj => by omega) (h.1.2.1.2.1.w (by omega) (by omega))
theorem i_rich {a p : Int32} (h1 : ¬ p < 1) (h2 : ¬ (2000000000 : Int32) < p) : (a ≤ 2000000000 - p) ↔ lg_cmp (a.toInt64 + p.toInt64) 2000000000 ≤ 0 := by
  rw [Int32.lt_iff_toInt_lt] at h1 h2
  have b1 : (1 : Int32).toInt = 1 := rfl
  have b2 : (2000000000 : Int32).toInt = 2000000000 := rfl
  have b3 : (2000000000 : Int64).toInt = 2000000000 := rfl
  have c1 := Int32.le_toInt a
  have c2 := Int32.toInt_lt a
  have e1 : (2000000000 - p).toInt = 2000000000 - p.toInt := by
    rw [Int32.toInt_sub, b2]
    exact Int.bmod_eq_of_le (by omega) (by omega)
  have e2 : (a.toInt64 + p.toInt64).toInt = a.toInt + p.toInt := by
    rw [Int64.toInt_add, Int32.toInt_toInt64, Int32.toInt_toInt64]
    exact Int.bmod_eq_of_le (by omega) (by omega)
  have e3 : lg_cmp (a.toInt64 + p.toInt64) 2000000000 ≤ 0 ↔ ¬ (2000000000 : Int64) < a.toInt64 + p.toInt64 := by
    have := i_cmp2 (a.toInt64 + p.toInt64) 2000000000
    constructor
    · intro h q
      have q := this.mpr q
      rw [Int32.le_iff_toInt_le] at h
      rw [Int32.lt_iff_toInt_lt] at q
      omega
    · intro h
      have h : ¬ 0 < lg_cmp (a.toInt64 + p.toInt64) 2000000000 := fun q => h (this.mp q)
      rw [Int32.lt_iff_toInt_lt] at h
      rw [Int32.le_iff_toInt_le]
      omega
  rw [e3, Int32.le_iff_toInt_le, e1, Int64.lt_iff_toInt_lt, e2, b3]
  omega
