/-! ===== the class's side (out of whole, by program) ===== -/
theorem i_and255 (x : Int32) : ∃ t, t < 256 ∧ x &&& 255 = Int32.ofNat t := by
  refine ⟨(x.toBitVec &&& 255#32).toNat, ?_, ?_⟩
  · rw [BitVec.toNat_and]
    exact Nat.lt_of_le_of_lt Nat.and_le_right (by decide)
  · apply Int32.toBitVec_inj.mp
    show x.toBitVec &&& 255#32 = BitVec.ofNat 32 (x.toBitVec &&& 255#32).toNat
    rw [BitVec.ofNat_toNat]
    simp
theorem c_bytes {o : Nat} {M : z_Mem} {b : q_R × Nat} (h : c_buf M o b) : ∃ T : Nat → Nat, (∀ k, T k < 256) ∧ (∀ k, k < b.2 → b.1 k = Int32.ofNat (T k)) ∧ ∀ k, k < b.2 → M.1 (o + 1) k &&& 255 = Int32.ofNat (T k) := by
  have e : ∀ k, (M.1 (o + 1) k &&& 255).toNatClampNeg < 256 ∧ M.1 (o + 1) k &&& 255 = Int32.ofNat (M.1 (o + 1) k &&& 255).toNatClampNeg := fun k => by
    obtain ⟨t, ht, et⟩ := i_and255 (M.1 (o + 1) k)
    rw [et, i_cl (by omega)]
    exact ⟨ht, rfl⟩
  exact ⟨fun k => (M.1 (o + 1) k &&& 255).toNatClampNeg, fun k => (e k).1, fun k hk => (h.2.2 k hk).symm.trans (e k).2, fun k _ => (e k).2⟩
