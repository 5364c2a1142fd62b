/-! ===== the class's side (out of whole, by program) ===== -/
/-- only the parties of the fancied drive are written -/
def m_fr (m : Nat) (N N' : z_Mem) : Prop := (∀ x, x ≠ m + 20 → N'.1 x = N.1 x) ∧ N'.2 = N.2
theorem m_fr.rfl' {m : Nat} {N : z_Mem} : m_fr m N N := ⟨fun _ _ => rfl, rfl⟩
theorem m_fr.tr {m : Nat} {M M' M'' : z_Mem} (h : m_fr m M M') (h' : m_fr m M' M'') : m_fr m M M'' := ⟨fun x hx => (h'.1 x hx).trans (h.1 x hx), h'.2.trans h.2⟩
theorem m_fr.w {m k : Nat} {M M' : z_Mem} {v : Int32} (h : m_fr m M M') : m_fr m M (z_wI M' (m + 20) k v) := ⟨fun x hx => (funext fun j => w_addr j hx).trans (h.1 x hx), h.2⟩
theorem m_fr.all {m : Nat} {M M' : z_Mem} {s : q_S} (h : m_fr m M M') (hm : m_all m M s) : m_all m M' s := hm.scr (fun k _ => by rw [h.1 m (by omega)]) (fun j h1 h2 => h.1 _ (by omega))
theorem m_fr.M {o : Nat} {M M' : z_Mem} (h : m_fr (o + 548) M M') : q_M o M M' := fun a ha => ⟨h.1 a (by unfold q_inC at ha; omega), by rw [h.2]⟩
