/-! ===== the class's side (out of whole, by program) ===== -/
def m_say (m : Nat) (N N' : z_Mem) : Prop := (∀ x, x ≠ m → x ≠ m + 21 → N'.1 x = N.1 x) ∧ (∀ k, k ≠ 47 → N'.1 m k = N.1 m k) ∧ N'.2 = N.2
theorem m_say.rfl' {m : Nat} {N : z_Mem} : m_say m N N := ⟨fun _ _ _ => rfl, fun _ _ => rfl, rfl⟩
theorem m_say.tr {m : Nat} {M M' M'' : z_Mem} (h : m_say m M M') (h' : m_say m M' M'') : m_say m M M'' := ⟨fun x h1 h2 => (h'.1 x h1 h2).trans (h.1 x h1 h2), fun k hk => (h'.2.1 k hk).trans (h.2.1 k hk), h'.2.2.trans h.2.2⟩
theorem m_say.M {o : Nat} {M M' : z_Mem} (h : m_say (o + 548) M M') : q_M o M M' := fun a ha => ⟨h.1 a (by unfold q_inC at ha; omega) (by unfold q_inC at ha; omega), by rw [h.2.2]⟩
