/-! ===== the class's side (out of whole, by program) ===== -/
def n_kq (m : Nat) (N N' : z_Mem) : Prop := (∀ x, x ≠ m → (x < m + 22 ∨ m + 25 ≤ x) → N'.1 x = N.1 x) ∧ (∀ k, (k < 25 ∨ 32 ≤ k) → (k < 51 ∨ 54 ≤ k) → N'.1 m k = N.1 m k) ∧ ∀ x k, x ≠ m ∨ k ≠ 29 → N'.2 x k = N.2 x k
theorem n_kq.rfl' {m : Nat} {N : z_Mem} : n_kq m N N := ⟨fun _ _ _ => rfl, fun _ _ _ => rfl, fun _ _ _ => rfl⟩
theorem n_kq.tr {m : Nat} {N N' N'' : z_Mem} (h : n_kq m N N') (h' : n_kq m N' N'') : n_kq m N N'' := ⟨fun x a b => (h'.1 x a b).trans (h.1 x a b), fun k a b => (h'.2.1 k a b).trans (h.2.1 k a b), fun x k hk => (h'.2.2 x k hk).trans (h.2.2 x k hk)⟩
/-- only codes and stack are written -/
def n_st (m : Nat) (N N' : z_Mem) : Prop := (∀ x, x ≠ m → (x < m + 22 ∨ m + 25 ≤ x) → N'.1 x = N.1 x) ∧ (∀ k, (k < 51 ∨ 54 ≤ k) → N'.1 m k = N.1 m k) ∧ N'.2 = N.2
theorem n_st.rfl' {m : Nat} {N : z_Mem} : n_st m N N := ⟨fun _ _ _ => rfl, fun _ _ => rfl, rfl⟩
theorem n_st.tr {m : Nat} {N N' N'' : z_Mem} (h : n_st m N N') (h' : n_st m N' N'') : n_st m N N'' := ⟨fun x a b => (h'.1 x a b).trans (h.1 x a b), fun k a => (h'.2.1 k a).trans (h.2.1 k a), h'.2.2.trans h.2.2⟩
theorem n_st.w {m a k : Nat} {N : z_Mem} {v : Int32} (h : m + 22 ≤ a ∧ a < m + 25) : n_st m N (z_wI N a k v) := ⟨fun x h1 h2 => funext fun j => w_addr _ (by omega), fun j _ => w_addr _ (by omega), rfl⟩
/-- how many openings lie on the stack -/
def h_dep : List Nat → Nat
  | [] => 0
  | s :: l => (if s = 1 ∨ s = 23 then 1 else 0) + h_dep l
def h_str (s : Nat) : Nat := if s = 25 then 1 else if s = 24 then 2 else if s = 23 then 3 else 0
/-- stack S (its bottom first) and codes C lie in the reference's memory -/
def y_Q (m : Nat) (N : z_Mem) (S C : List Nat) : Prop := N.1 m 51 = Int32.ofNat C.length ∧ N.1 m 52 = Int32.ofNat S.length ∧ N.1 m 53 = Int32.ofNat (h_dep S) ∧ (∀ k s, C[k]? = some s → N.1 (m + 22) k = Int32.ofNat s) ∧ (∀ k s, S[k]? = some s → N.1 (m + 23) k = Int32.ofNat s) ∧ (∀ s, s ∈ S → s = 1 ∨ s = 23 ∨ s = 24 ∨ s = 25) ∧ S.length ≤ 200 ∧ C.length ≤ 200 ∧ h_dep S ≤ 200
theorem y_Q.ks {m : Nat} {N N' : z_Mem} {S C : List Nat} (h : y_Q m N S C) (hk : n_ks m N N') : y_Q m N' S C := by
  unfold y_Q
  rw [hk.2.1 51 (by omega), hk.2.1 52 (by omega), hk.2.1 53 (by omega), hk.1 (m + 22) (by omega), hk.1 (m + 23) (by omega)]
  exact h
/-- nothing above strength k lies on top -/
def h_stop (k : Nat) (S : List Nat) : Prop := ∀ S0 s, S = S0 ++ [s] → h_str s < k
/-- codes are what they may be -/
def h_okc (k : Nat) : Prop := k < 9 ∨ (20 ≤ k ∧ k ≤ 25) ∨ (100 ≤ k ∧ k ≤ 100099)
