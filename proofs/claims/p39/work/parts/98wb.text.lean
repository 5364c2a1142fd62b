/-! ===== the class's side (out of whole, by program) ===== -/
/-- what is left when all has been read -/
def r_fin (o : Nat) (M N : z_Mem) (Z : Nat) : Prop := z_b o M N ∨ (M.1 (o + 499) 0 = 0 ∧ M.1 (o + 499) 1 = -1 ∧ N.1 (o + 548) 30 = 0 ∧ N.1 (o + 548) 31 = -1) ∧ ∃ R c A W, r_D o M N Z R c A W
theorem c_loop_b {o f : Nat} {v : Int32} {M : z_Mem} (h : M.1 (o + 499) 0 ≠ 0) : F_TextReader_readText_L45 o (f + 1) v M = F_TextReader_readText_J72 o M := by
  unfold F_TextReader_readText_L45 F_TextReader_readText_B45 F_Tokens_hasMore
  rw [if_neg h, zb_ok rfl, if_pos rfl]
  split <;> rfl
