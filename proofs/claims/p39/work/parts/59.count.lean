/-! ===== the class's side (out of whole, by program) ===== -/
theorem i_succ (i : Nat) : Int32.ofNat i + 1 = Int32.ofNat (i + 1) := i_add i 1
theorem g_two {y : q_Y} (h : ∀ e, y = .error e → e = 2) : ∀ e (M1 : z_Mem), y = .error e → (fun (e : Nat) (M1 : z_Mem) => if e = 1 then none else some ((1 : Int32), M1)) e M1 = some (q_c1 e, M1) := fun e M1 hy => if_neg (by rw [h e hy]; decide)
