/-! ===== the class's side (out of whole, by program) ===== -/
abbrev q_Y : Type := Except Nat Int32
def q_cd (cd : Nat → Int32) (y : q_Y) : Int32 := match y with
  | .ok _ => 0
  | .error e => cd e
def c_does (o : Nat) (M : z_Mem) (s' : q_S) (y : q_Y) (F : Option (q_Y × z_Mem)) : Prop := ∃ M1, F = some (y, M1) ∧ c_all o M1 s' ∧ q_C o M M1
def m_does (o : Nat) (N : z_Mem) (s' : q_S) (y : q_Y) (cd : Nat → Int32) (F : Option (Int32 × z_Mem)) : Prop := ∃ b N', F = some (b, N') ∧ m_all (o + 548) N' s' ∧ q_M o N N' ∧ N'.1 (o + 548) 0 = q_cd cd y ∧ ∀ v, y = .ok v → b = v
def q_c1 : Nat → Int32 := fun _ => 1
def q_c2 : Nat → Int32 := fun e => if e = 1 then 1 else 2
theorem q_c1n : ∀ e, q_c1 e ≠ 0 := fun _ => (by decide : (1 : Int32) ≠ 0)
theorem q_c2n : ∀ e, q_c2 e ≠ 0 := fun e => by
  unfold q_c2
  split <;> decide
theorem q_M.thr {o : Nat} {M : z_Mem} {v : Int32} : q_M o M (z_wI M (o + 548) 0 v) := q_M.w ⟨by omega, by omega⟩
