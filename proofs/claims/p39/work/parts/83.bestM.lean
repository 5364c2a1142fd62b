/-! ===== the class's side (out of whole, by program) ===== -/
def m_best (N : z_Mem) (m : Nat) (st : Option q_F) : Prop := match st with
  | none => N.1 m 40 = -1
  | some f => f.1 ≠ -1 ∧ N.1 m 40 = f.1 ∧ N.1 m 41 = f.2.1 ∧ N.1 m 42 = f.2.2.1 ∧ N.1 m 43 = Int32.ofNat f.2.2.2.1 ∧ N.1 m 44 = Int32.ofNat f.2.2.2.2
def m_fb (m : Nat) (N N' : z_Mem) : Prop := (∀ x, x ≠ m → (x < m + 13 ∨ m + 20 ≤ x) → N'.1 x = N.1 x) ∧ (∀ k, (k < 39 ∨ 44 < k) → N'.1 m k = N.1 m k) ∧ N'.2 = N.2
theorem m_fb.rfl' {m : Nat} {N : z_Mem} : m_fb m N N := ⟨fun _ _ _ => rfl, fun _ _ => rfl, rfl⟩
theorem m_fb.tr {m : Nat} {M M' M'' : z_Mem} (h : m_fb m M M') (h' : m_fb m M' M'') : m_fb m M M'' := ⟨fun x h1 h2 => (h'.1 x h1 h2).trans (h.1 x h1 h2), fun k hk => (h'.2.1 k hk).trans (h.2.1 k hk), h'.2.2.trans h.2.2⟩
theorem m_pl.fb {m : Nat} {M M' : z_Mem} (h : m_pl m M M') : m_fb m M M' := ⟨h.1, fun k hk => h.2.1 k (by omega), h.2.2⟩
theorem m_fb.w {m k : Nat} {M M' : z_Mem} {v : Int32} (h : m_fb m M M') (h1 : 39 ≤ k) (h2 : k ≤ 44) : m_fb m M (z_wI M' m k v) := ⟨fun x h3 hx => (funext fun j => w_addr j h3).trans (h.1 x h3 hx), fun j hj => (w_slot m (by omega)).trans (h.2.1 j hj), h.2.2⟩
theorem m_fb.all {m : Nat} {M M' : z_Mem} {s : q_S} (h : m_fb m M M') (hm : m_all m M s) : m_all m M' s := hm.scr (fun k hk => h.2.1 k (by omega)) (fun j h1 h2 => h.1 _ (by omega) (by omega))
theorem m_fb.M {o : Nat} {M M' : z_Mem} (h : m_fb (o + 548) M M') : q_M o M M' := fun a ha => ⟨h.1 a (by unfold q_inC at ha; omega) (by unfold q_inC at ha; omega), by rw [h.2.2]⟩
theorem m_best.keep {N N' : z_Mem} {m : Nat} {st : Option q_F} (h : m_best N m st) (hk : ∀ k, 40 ≤ k → k ≤ 44 → N'.1 m k = N.1 m k) : m_best N' m st := by
  cases st with
  | none => exact (hk 40 (by omega) (by omega)).trans h
  | some f =>
    unfold m_best at h ⊢
    simp only at h ⊢
    rw [hk 40 (by omega) (by omega), hk 41 (by omega) (by omega), hk 42 (by omega) (by omega), hk 43 (by omega) (by omega), hk 44 (by omega) (by omega)]
    exact h
