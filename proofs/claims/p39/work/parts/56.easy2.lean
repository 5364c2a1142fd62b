/-! ===== the class's side (out of whole, by program) ===== -/
theorem a_way_c {o : Nat} {M : z_Mem} {s : q_S} (hc : c_all o M s) {a b : Nat} (ha : a < 8) (hb : b < 8) : F_Town_wayMinutes (o + 3) (Int32.ofNat a) (Int32.ofNat b) M = some (s.1 (8 * a + b)) := by
  unfold F_Town_wayMinutes F_Town_hasPlaces
  have h1 : ¬ (8 : Int32) ≤ Int32.ofNat a := fun q => by
    have := (i_le (a := 8) (by decide) (by omega)).mp q
    omega
  have h2 : ¬ (8 : Int32) ≤ Int32.ofNat b := fun q => by
    have := (i_le (a := 8) (by decide) (by omega)).mp q
    omega
  rw [if_neg (i_nn (by omega)), if_neg h1, if_neg (i_nn (by omega)), if_neg h2]
  have e : Int32.ofNat a * 8 + Int32.ofNat b = Int32.ofNat (8 * a + b) := by
    rw [show (8 : Int32) = Int32.ofNat 8 from rfl, i_mul, i_add, Nat.mul_comm]
  show (if z_inb (Int32.ofNat a * 8 + Int32.ofNat b) 64 then _ else _) = _
  rw [e, if_pos ((i_inb (by omega)).mpr (by omega)), i_cl (by omega)]
  exact congrArg some (hc.1.2.2 (8 * a + b) (by omega))
/-- the reference ends with a throw -/
theorem m_err {o : Nat} {N : z_Mem} {s : q_S} {e : Nat} {cd : Nat → Int32} (hm : m_all (o + 548) N s) {b : Int32} {F : Option (Int32 × z_Mem)} {v : Int32} (hv : v = cd e) (h : F = some (b, z_wI (z_wI N (o + 548) 0 0) (o + 548) 0 v)) : m_does o N s (.error e) cd F :=
  ⟨b, _, h, (hm.thr 0).thr v, q_M.thr.tr q_M.thr, (w_same _ _ _ _).trans hv, fun _ hx => by cases hx⟩
/-- .. with a value, nothing written -/
theorem m_val {o : Nat} {N : z_Mem} {s : q_S} {cd : Nat → Int32} (hm : m_all (o + 548) N s) {b v : Int32} {F : Option (Int32 × z_Mem)} (hv : b = v) (h : F = some (b, z_wI N (o + 548) 0 0)) : m_does o N s (.ok v) cd F :=
  ⟨b, _, h, hm.thr 0, q_M.thr, w_same _ _ _ _, fun _ hx => by cases hx; exact hv⟩
