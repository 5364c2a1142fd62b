/-! ===== the class's side (out of whole, by program) ===== -/
def q_taxiI (A : q_R) (t : Nat) : Prop := (∃ n, n ≤ 12 ∧ A (24 + 40 * t) = Int32.ofNat n ∧ ∀ k, k < n → ∃ z, z < 2 * q_N A ∧ A (25 + 40 * t + k) = Int32.ofNat z) ∧ ∃ p, p ≤ 6 ∧ A (37 + 40 * t) = Int32.ofNat p ∧ ∀ k, k < p → ∃ r, r < q_N A ∧ A (38 + 40 * t + k) = Int32.ofNat r
def s_per (A : q_R) (t : Nat) : Nat → Nat → Int32 → Int32
  | 0, _, acc => acc
  | k + 1, i, acc => s_per A t k (i + 1) (acc + A (176 + 17 * (A (38 + 40 * t + i)).toNatClampNeg))
theorem a_rideAt {M : z_Mem} {d r : Nat} (hr : r < 24) : F_Desk_rideAt d (Int32.ofNat r) M = some (d + 16 + r) := by
  unfold F_Desk_rideAt F_Desk_rideAt_J19
  have h2 : ¬ (24 : Int32) ≤ Int32.ofNat r := fun q => by
    have := (i_le (a := 24) (by decide) (by omega)).mp q
    omega
  rw [if_neg (i_nn (by omega)), if_neg h2, if_pos ((i_inb (by omega)).mpr hr), i_cl (by omega)]
  simp only [zl, Nat.one_mul]
theorem a_partyAt {M : z_Mem} {a t k p : Nat} {c A : q_R} (h : c_taxi M a c A t) (hp : p ≤ 6) (hA : A (37 + 40 * t) = Int32.ofNat p) (hk : k < p) : F_Taxi_partyAt a (Int32.ofNat k) M = some (A (38 + 40 * t + k)) := by
  unfold F_Taxi_partyAt
  have e := h.2.2.2.2.2.2.2.2.1
  have h1 : ¬ Int32.ofNat p ≤ Int32.ofNat k := fun q => by
    have := (i_le (by omega) (by omega)).mp q
    omega
  have h2 : ¬ (6 : Int32) ≤ Int32.ofNat k := fun q => by
    have := (i_le (a := 6) (by decide) (by omega)).mp q
    omega
  rw [if_neg (i_nn (by omega)), e, hA, if_neg h1, if_neg h2, if_pos ((i_inb (by omega)).mpr (by omega)), i_cl (by omega)]
  exact congrArg some (h.2.2.2.2.2.2.2.2.2.2.2.2.2.2.2.2 k (by omega) (by rw [hA]; exact (i_lt (by omega) (by omega)).mpr hk))
theorem a_persons_c {M : z_Mem} {d a t p : Nat} {c A : q_R} (hd : c_desk M d c A) (h : c_taxi M a c A t) (hp : p ≤ 6) (hA : A (37 + 40 * t) = Int32.ofNat p) (hr : ∀ k, k < p → ∃ r, r < q_N A ∧ A (38 + 40 * t + k) = Int32.ofNat r) : ∀ (k i f : Nat) (acc : Int32), i + k = p → k < f → F_Desk_personsAboard_L4 d f a acc (Int32.ofNat i) M = some (s_per A t k i acc) := by
  have hN := hd.1.2
  intro k
  induction k with
  | zero =>
    intro i f acc hi hf
    obtain ⟨f, rfl⟩ : ∃ g, f = g + 1 := ⟨f - 1, by omega⟩
    unfold F_Desk_personsAboard_L4 F_Desk_personsAboard_B4
    rw [h.2.2.2.2.2.2.2.2.1, hA, if_pos ((i_le (by omega) (by omega)).mpr (by omega))]
    rfl
  | succ k ih =>
    intro i f acc hi hf
    obtain ⟨f, rfl⟩ : ∃ g, f = g + 1 := ⟨f - 1, by omega⟩
    unfold F_Desk_personsAboard_L4 F_Desk_personsAboard_B4
    have h1 : ¬ Int32.ofNat p ≤ Int32.ofNat i := fun q => by
      have := (i_le (by omega) (by omega)).mp q
      omega
    obtain ⟨r, hr1, hr2⟩ := hr i (by omega)
    rw [h.2.2.2.2.2.2.2.2.1, hA, if_neg h1, zb_ok (a_partyAt h hp hA (show i < p by omega)), hr2, zb_ok (a_rideAt (show r < 24 by omega))]
    simp only [zl, i_succ]
    rw [(hd.2.2.2.2.2.2.2.2 r hr1).2.2.2.1]
    show _ = some (s_per A t k (i + 1) (acc + A (176 + 17 * (A (38 + 40 * t + i)).toNatClampNeg)))
    rw [hr2, i_cl (by omega)]
    exact ih (i + 1) f _ (by omega) (by omega)
def y_per (A : q_R) (t : Nat) : Int32 := s_per A t (A (37 + 40 * t)).toNatClampNeg 0 0
theorem a_per_c {M : z_Mem} {d a t : Nat} {c A : q_R} (hd : c_desk M d c A) (h : c_taxi M a c A t) (hI : q_taxiI A t) : F_Desk_personsAboard d a M = some (y_per A t) := by
  obtain ⟨-, p, hp, hA, hr⟩ := hI
  unfold y_per
  rw [hA, i_cl (by omega)]
  exact a_persons_c hd h hp hA hr p 0 10000 0 (by omega) (by omega)
