/-! ===== the class's side (out of whole, by program) ===== -/
def h_okl (c : List Nat) : Prop := ∀ k, k ∈ c → h_okc k
def h_bad (o : Nat) (M' N : z_Mem) (R : Option z_Mem) : Prop := ∃ N', R = some N' ∧ z_b o M' N' ∧ n_kq (o + 548) N N'
def h_PC (P : List Nat) : Prop := P = [] ∨ P = [24]
def h_PT (P : List Nat) : Prop := (∀ s, s ∈ P → s = 24 ∨ s = 25) ∧ h_dep P = 0
theorem h_PC.T {P : List Nat} (h : h_PC P) : h_PT P := by
  rcases h with rfl | rfl
  · exact ⟨fun s hs => (List.not_mem_nil hs).elim, rfl⟩
  · exact ⟨fun s hs => Or.inl (List.mem_singleton.mp hs), rfl⟩
theorem h_PT.ok {P : List Nat} (h : h_PT P) : h_okl P.reverse := fun k hk => by
  have := h.1 k (List.mem_reverse.mp hk)
  unfold h_okc
  omega
theorem h_stop.le {k k' : Nat} {S : List Nat} (h : h_stop k S) (hk : k ≤ k') : h_stop k' S := fun S0 s e => Nat.lt_of_lt_of_le (h S0 s e) hk
