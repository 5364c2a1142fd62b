/-! ===== the class's side (out of whole, by program) ===== -/
theorem m_all.scr {m : Nat} {N N' : z_Mem} {s : q_S} (h : m_all m N s) (h0 : ∀ k, k < 24 ∨ k = 31 ∨ k = 47 → N'.1 m k = N.1 m k) (hk : ∀ j, 1 ≤ j → j < 13 ∨ j = 21 → N'.1 (m + j) = N.1 (m + j)) : m_all m N' s := by
  have h1 := h.upd (N' := N') (A' := s.2.1) (h' := s.2.2.1) (fun k hk' => h0 k (by omega)) (fun j hj => hk j (by omega) (by omega)) (h.2.1.keep (hk 1 (by omega) (by omega))) ⟨h.2.2.1.1, by rw [h0 6 (by omega)]; exact h.2.2.1.2.1, fun j B hB => (h.2.2.1.2.2 j B hB).keep (hk 4 (by omega) (by omega))⟩
  exact h1
/-- only the plan is written -/
def m_pl (m : Nat) (N N' : z_Mem) : Prop := (∀ x, x ≠ m → (x < m + 13 ∨ m + 20 ≤ x) → N'.1 x = N.1 x) ∧ (∀ k, k ≠ 39 → N'.1 m k = N.1 m k) ∧ N'.2 = N.2
theorem m_pl.rfl' {m : Nat} {N : z_Mem} : m_pl m N N := ⟨fun _ _ _ => rfl, fun _ _ => rfl, rfl⟩
theorem m_pl.tr {m : Nat} {M M' M'' : z_Mem} (h : m_pl m M M') (h' : m_pl m M' M'') : m_pl m M M'' := ⟨fun x h1 h2 => (h'.1 x h1 h2).trans (h.1 x h1 h2), fun k hk => (h'.2.1 k hk).trans (h.2.1 k hk), h'.2.2.trans h.2.2⟩
theorem m_pl.w {m a k : Nat} {M M' : z_Mem} {v : Int32} (h : m_pl m M M') (h1 : m + 13 ≤ a) (h2 : a < m + 20) : m_pl m M (z_wI M' a k v) := ⟨fun x h3 hx => (funext fun j => w_addr j (by omega)).trans (h.1 x h3 hx), fun j hj => (w_addr j (by omega)).trans (h.2.1 j hj), h.2.2⟩
theorem m_pl.all {m : Nat} {M M' : z_Mem} {s : q_S} (h : m_pl m M M') (hm : m_all m M s) : m_all m M' s := hm.scr (fun k hk => h.2.1 k (by omega)) (fun j h1 h2 => h.1 _ (by omega) (by omega))
def m_list (N : z_Mem) (m : Nat) (l : Nat → Nat) (n : Nat) : Prop := N.1 m 39 = Int32.ofNat n ∧ ∀ k, k < n → N.1 (m + 13) k = Int32.ofNat (l k)
