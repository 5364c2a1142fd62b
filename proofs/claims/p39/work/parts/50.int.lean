/-! ===== the class's side (out of whole, by program) ===== -/
theorem i_toInt {a : Nat} (h : a < 2 ^ 31) : (Int32.ofNat a).toInt = a := Int32.toInt_ofNat_of_lt h
theorem i_cl {a : Nat} (h : a < 2 ^ 31) : (Int32.ofNat a).toNatClampNeg = a := by
  show (Int32.ofNat a).toInt.toNat = a
  rw [i_toInt h]
  rfl
theorem i_le {a b : Nat} (ha : a < 2 ^ 31) (hb : b < 2 ^ 31) : (Int32.ofNat a ≤ Int32.ofNat b) ↔ a ≤ b := by
  rw [Int32.le_iff_toInt_le, i_toInt ha, i_toInt hb]
  omega
theorem i_lt {a b : Nat} (ha : a < 2 ^ 31) (hb : b < 2 ^ 31) : (Int32.ofNat a < Int32.ofNat b) ↔ a < b := by
  rw [Int32.lt_iff_toInt_lt, i_toInt ha, i_toInt hb]
  omega
theorem i_eq {a b : Nat} (ha : a < 2 ^ 31) (hb : b < 2 ^ 31) : (Int32.ofNat a = Int32.ofNat b) ↔ a = b := by
  constructor
  · intro h
    have := congrArg Int32.toInt h
    rw [i_toInt ha, i_toInt hb] at this
    omega
  · exact fun h => by rw [h]
theorem i_add (a b : Nat) : Int32.ofNat a + Int32.ofNat b = Int32.ofNat (a + b) := (Int32.ofNat_add a b).symm
theorem i_mul (a b : Nat) : Int32.ofNat a * Int32.ofNat b = Int32.ofNat (a * b) := (Int32.ofNat_mul a b).symm
theorem i_nn {a : Nat} (ha : a < 2 ^ 31) : ¬ Int32.ofNat a < 0 := by
  rw [Int32.lt_iff_toInt_lt, i_toInt ha]
  show ¬ ((a : Int) < 0)
  omega
theorem i_inb {a N : Nat} (ha : a < 2 ^ 31) : z_inb (Int32.ofNat a) N ↔ a < N := by
  show ¬ (Int32.ofNat a < 0 ∨ N ≤ (Int32.ofNat a).toNatClampNeg) ↔ a < N
  rw [i_cl ha]
  constructor
  · intro h
    have : ¬ N ≤ a := fun q => h (Or.inr q)
    omega
  · intro h q
    rcases q with q | q
    · exact i_nn ha q
    · omega
theorem i_ex {p : Int32} (h : ¬ p < 0) : ∃ t : Nat, t < 2 ^ 31 ∧ p = Int32.ofNat t := by
  have h0 : (0 : Int) ≤ p.toInt := by
    rw [Int32.lt_iff_toInt_lt] at h
    have : (0 : Int32).toInt = 0 := rfl
    omega
  have h1 := Int32.toInt_lt p
  refine ⟨p.toInt.toNat, by omega, ?_⟩
  apply Int32.toInt_inj.mp
  rw [i_toInt (by omega)]
  omega
theorem i_ex2 {p : Int32} {N : Nat} (h : ¬ p < 0) (h2 : p < Int32.ofNat N) (hN : N < 2 ^ 31) : ∃ t : Nat, t < N ∧ p = Int32.ofNat t := by
  obtain ⟨t, ht, rfl⟩ := i_ex h
  exact ⟨t, (i_lt ht hN).mp h2, rfl⟩
theorem w_same (M : z_Mem) (a k : Nat) (v : Int32) : (z_wI M a k v).1 a k = v := by
  show (if a = a ∧ k = k then v else _) = v
  rw [if_pos ⟨rfl, rfl⟩]
theorem w_addr {M : z_Mem} {a k b : Nat} {v : Int32} (j : Nat) (h : b ≠ a) : (z_wI M a k v).1 b j = M.1 b j := by
  show (if b = a ∧ j = k then v else _) = _
  rw [if_neg (fun q => h q.1)]
theorem w_slot {M : z_Mem} {a k j : Nat} {v : Int32} (b : Nat) (h : j ≠ k) : (z_wI M a k v).1 b j = M.1 b j := by
  show (if b = a ∧ j = k then v else _) = _
  rw [if_neg (fun q => h q.2)]
theorem zb_ok {α β : Type} {x : Option α} {a : α} (h : x = some a) (f : α → Option β) : zb x f = f a := by rw [h]; rfl
theorem zb2_ok {α γ β : Type} {x : Option (α × γ)} {a : α} {c : γ} (h : x = some (a, c)) (f : α → γ → Option β) : zb2 x f = f a c := by rw [h]; rfl
