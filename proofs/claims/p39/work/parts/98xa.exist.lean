/-! ===== PURE: what exists, questions (no throws: what throws is none) ===== -/
theorem e_taxi {o t : Nat} {M : z_Mem} {s : q_S} (hI : q_I s) (hc : c_all o M s) (ht : t < q_T s.1) : F_Sys_existingTaxi o (Int32.ofNat t) M = some (o + 5 + 4 + 3 * t) := by
  have hT := hI.taxis4
  unfold F_Sys_existingTaxi F_Desk_hasTaxi
  rw [hc.2.1.2.2.2.2.1, hI.taxis]
  have h1 : ¬ Int32.ofNat (q_T s.1) ≤ Int32.ofNat t := fun q => by
    have := (i_le (by omega) (by omega)).mp q
    omega
  have h2 : ¬ (4 : Int32) ≤ Int32.ofNat t := fun q => by
    have := (i_le (a := 4) (by decide) (by omega)).mp q
    omega
  rw [if_neg (i_nn (by omega)), if_neg h1, if_neg h2]
  show (if z_inb (Int32.ofNat t) 4 then _ else _) = _
  rw [if_pos ((i_inb (by omega)).mpr (by omega)), i_cl (by omega)]
  rfl
theorem e_has {o t : Nat} {M : z_Mem} {s : q_S} (hI : q_I s) (hc : c_all o M s) (ht : t < q_T s.1) : F_Desk_hasTaxi (o + 5) (Int32.ofNat t) M = some 1 := by
  have hT := hI.taxis4
  unfold F_Desk_hasTaxi
  rw [hc.2.1.2.2.2.2.1, hI.taxis]
  have h1 : ¬ Int32.ofNat (q_T s.1) ≤ Int32.ofNat t := fun q => by
    have := (i_le (by omega) (by omega)).mp q
    omega
  have h2 : ¬ (4 : Int32) ≤ Int32.ofNat t := fun q => by
    have := (i_le (a := 4) (by decide) (by omega)).mp q
    omega
  rw [if_neg (i_nn (by omega)), if_neg h1, if_neg h2]
theorem e_ride {o r : Nat} {M : z_Mem} {s : q_S} (hI : q_I s) (hc : c_all o M s) (hr : r < q_N s.2.1) : F_Sys_existingRide o (Int32.ofNat r) M = some (o + 5 + 16 + r) := by
  have hN := hI.rides24
  unfold F_Sys_existingRide F_Sys_existingRide_J21
  rw [hc.2.1.2.2.2.2.2.1, hI.rides]
  have h1 : ¬ Int32.ofNat (q_N s.2.1) ≤ Int32.ofNat r := fun q => by
    have := (i_le (by omega) (by omega)).mp q
    omega
  have h2 : Int32.ofNat r < (24 : Int32) := (i_lt (b := 24) (by omega) (by decide)).mpr (by omega)
  rw [if_neg (i_nn (by omega)), if_neg h1, if_pos h2, if_pos ((i_inb (by omega)).mpr (by omega)), i_cl (by omega)]
  simp only [zl, Nat.one_mul]
theorem e_zone {o Z z : Nat} {M : z_Mem} {s : q_S} (hc : c_all o M s) (hZ : s.1 64 = Int32.ofNat Z) (hz : z < Z) (hZ8 : Z ≤ 8) : F_Sys_checkZone o (Int32.ofNat z) M = some () := by
  unfold F_Sys_checkZone
  rw [hc.1.1, hZ, if_neg (i_nn (by omega)), if_pos ((i_lt (by omega) (by omega)).mpr hz)]
theorem e_range {p lo hi : Int32} (M : z_Mem) (h1 : ¬ p < lo) (h2 : p ≤ hi) : F_Sys_checkRange p lo hi M = some () := by
  unfold F_Sys_checkRange
  rw [if_neg h1, if_pos h2]
theorem e_rangeN {p lo hi : Nat} (M : z_Mem) (hp : p < 2 ^ 31) (hl : lo < 2 ^ 31) (hh : hi < 2 ^ 31) (h1 : lo ≤ p) (h2 : p ≤ hi) : F_Sys_checkRange (Int32.ofNat p) (Int32.ofNat lo) (Int32.ofNat hi) M = some () :=
  e_range M (fun q => by have := (i_lt hp hl).mp q; omega) ((i_le hp hh).mpr h2)
/-- an account of a taxi -/
theorem e_acc {o t k : Nat} {M : z_Mem} {s : q_S} (hI : q_I s) (hc : c_all o M s) (ht : t < q_T s.1) (hk : k < 6) : F_Sys_account o (Int32.ofNat t) (Int32.ofNat k) M = some (s.2.1 (18 + k + 40 * t)) := by
  have h := hc.2.1.2.2.2.2.2.2.2.1 t ht
  unfold c_taxi at h
  unfold F_Sys_account
  rw [zb_ok (e_taxi hI hc ht)]
  rcases (show k = 0 ∨ k = 1 ∨ k = 2 ∨ k = 3 ∨ k = 4 ∨ k = 5 by omega) with rfl | rfl | rfl | rfl | rfl | rfl
  · rw [if_pos (by decide), h.2.2.2.2.2.2.2.2.2.1]
  · rw [if_neg (by decide), if_pos (by decide), h.2.2.2.2.2.2.2.2.2.2.1]
  · rw [if_neg (by decide), if_neg (by decide), if_pos (by decide), h.2.2.2.2.2.2.2.2.2.2.2.1]
  · rw [if_neg (by decide), if_neg (by decide), if_neg (by decide), if_pos (by decide), h.2.2.2.2.2.2.2.2.2.2.2.2.1]
  · rw [if_neg (by decide), if_neg (by decide), if_neg (by decide), if_neg (by decide), if_pos (by decide), h.2.2.2.2.2.2.2.2.2.2.2.2.2.1]
  · rw [if_neg (by decide), if_neg (by decide), if_neg (by decide), if_neg (by decide), if_neg (by decide), if_pos (by decide), h.2.2.2.2.2.2.2.2.2.2.2.2.2.2.1]
/-- what the law asks of a ride -/
theorem e_rd {o r : Nat} {M : z_Mem} {s : q_S} (hI : q_I s) (hc : c_all o M s) (hr : r < q_N s.2.1) : F_Sys_ride o (Int32.ofNat r) 0 M = some (s.2.1 (173 + 17 * r)) ∧ F_Sys_ride o (Int32.ofNat r) 9 M = some (s.2.1 (180 + 17 * r)) ∧ F_Sys_ride o (Int32.ofNat r) 10 M = some (s.2.1 (181 + 17 * r)) ∧
    F_Sys_ride o (Int32.ofNat r) 11 M = some (s.2.1 (182 + 17 * r)) ∧ F_Sys_ride o (Int32.ofNat r) 12 M = some (s.2.1 (183 + 17 * r)) := by
  have h := hc.2.1.2.2.2.2.2.2.2.2 r hr
  unfold c_ride at h
  obtain ⟨h0, h1, h2, h3, h4, h5, h6, h7, h8, h9, h10, h11, h12, h13, -⟩ := h
  unfold F_Sys_ride
  rw [zb_ok (e_ride hI hc hr), zb_ok (e_ride hI hc hr), zb_ok (e_ride hI hc hr), zb_ok (e_ride hI hc hr), zb_ok (e_ride hI hc hr)]
  refine ⟨?_, ?_, ?_, ?_, ?_⟩
  · rw [if_pos rfl, h0]
  · rw [if_neg (by decide), if_neg (by decide), if_neg (by decide), if_neg (by decide), if_neg (by decide), if_neg (by decide), if_neg (by decide), if_neg (by decide), if_neg (by decide), if_pos rfl, h9]
  · rw [if_neg (by decide), if_neg (by decide), if_neg (by decide), if_neg (by decide), if_neg (by decide), if_neg (by decide), if_neg (by decide), if_neg (by decide), if_neg (by decide), if_neg (by decide), if_pos rfl, h10]
  · rw [if_neg (by decide), if_neg (by decide), if_neg (by decide), if_neg (by decide), if_neg (by decide), if_neg (by decide), if_neg (by decide), if_neg (by decide), if_neg (by decide), if_neg (by decide), if_neg (by decide), if_pos rfl, h11]
  · rw [if_neg (by decide), if_neg (by decide), if_neg (by decide), if_neg (by decide), if_neg (by decide), if_neg (by decide), if_neg (by decide), if_neg (by decide), if_neg (by decide), if_neg (by decide), if_neg (by decide), if_neg (by decide), if_pos rfl, h12]
