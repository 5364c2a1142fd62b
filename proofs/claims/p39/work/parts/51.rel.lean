/-! ===== the class's side (out of whole, by program) ===== -/
abbrev q_R : Type := Nat → Int32
abbrev q_S : Type := q_R × q_R × List q_R × Option q_R × (q_R × Nat) × Int32 × (q_R × Nat)
def q_inC (o a : Nat) : Prop := (o ≤ a ∧ a < o + 548) ∨ a = o + 573
def q_inM (o a : Nat) : Prop := o + 548 ≤ a ∧ a < o + 573
/-- M' is M but in the class's part; but in the reference's part -/
def q_C (o : Nat) (M M' : z_Mem) : Prop := ∀ a, q_inM o a → M'.1 a = M.1 a ∧ M'.2 a = M.2 a
def q_M (o : Nat) (M M' : z_Mem) : Prop := ∀ a, q_inC o a → M'.1 a = M.1 a ∧ M'.2 a = M.2 a
theorem q_C.rfl' {o : Nat} {M : z_Mem} : q_C o M M := fun _ _ => ⟨rfl, rfl⟩
theorem q_M.rfl' {o : Nat} {M : z_Mem} : q_M o M M := fun _ _ => ⟨rfl, rfl⟩
theorem q_C.tr {o : Nat} {M M' M'' : z_Mem} (h : q_C o M M') (h' : q_C o M' M'') : q_C o M M'' := fun a ha => ⟨(h' a ha).1.trans (h a ha).1, (h' a ha).2.trans (h a ha).2⟩
theorem q_M.tr {o : Nat} {M M' M'' : z_Mem} (h : q_M o M M') (h' : q_M o M' M'') : q_M o M M'' := fun a ha => ⟨(h' a ha).1.trans (h a ha).1, (h' a ha).2.trans (h a ha).2⟩
theorem q_C.w {o a k : Nat} {M : z_Mem} {v : Int32} (h : q_inC o a) : q_C o M (z_wI M a k v) := fun b hb => ⟨funext fun j => w_addr j (by unfold q_inC at h; unfold q_inM at hb; omega), rfl⟩
theorem q_M.w {o a k : Nat} {M : z_Mem} {v : Int32} (h : q_inM o a) : q_M o M (z_wI M a k v) := fun b hb => ⟨funext fun j => w_addr j (by unfold q_inC at hb; unfold q_inM at h; omega), rfl⟩
/-- one taxi of a desk of the class against a row -/
def c_taxi (M : z_Mem) (a : Nat) (c A : q_R) (t : Nat) : Prop :=
  M.1 a 0 = c (70 + t) ∧ M.1 a 1 = A (13 + 40 * t) ∧ M.1 a 2 = A (14 + 40 * t) ∧ M.1 a 3 = c (80 + t) ∧ M.1 a 4 = A (17 + 40 * t) ∧ M.1 a 5 = A (15 + 40 * t) ∧ M.1 a 6 = A (16 + 40 * t) ∧ M.1 a 7 = A (24 + 40 * t) ∧ M.1 a 8 = A (37 + 40 * t) ∧
  M.1 a 11 = A (18 + 40 * t) ∧ M.1 a 12 = A (19 + 40 * t) ∧ M.1 a 13 = A (20 + 40 * t) ∧ M.1 a 14 = A (21 + 40 * t) ∧ M.1 a 15 = A (22 + 40 * t) ∧ M.1 a 16 = A (23 + 40 * t) ∧
  (∀ k, k < 12 → Int32.ofNat k < A (24 + 40 * t) → M.1 (a + 1) k = A (25 + 40 * t + k)) ∧ (∀ k, k < 6 → Int32.ofNat k < A (37 + 40 * t) → M.1 (a + 2) k = A (38 + 40 * t + k))
def q_way (c : q_R) (a b : Int32) : Int32 := c (8 * a.toNatClampNeg + b.toNatClampNeg)
/-- the minutes that a party may be aboard -/
def q_most (direct detour : Int32) : Int32 := if direct = -1 then -1 else direct * (100 + detour) / 100
def c_ride (M : z_Mem) (a : Nat) (c A : q_R) (r : Nat) : Prop :=
  M.1 a 0 = A (173 + 17 * r) ∧ M.1 a 1 = A (174 + 17 * r) ∧ M.1 a 2 = A (175 + 17 * r) ∧ M.1 a 3 = A (176 + 17 * r) ∧ M.1 a 4 = A (177 + 17 * r) ∧ M.1 a 5 = A (178 + 17 * r) ∧ M.1 a 6 = A (179 + 17 * r) ∧
  M.1 a 7 = q_way c (A (174 + 17 * r)) (A (175 + 17 * r)) ∧ M.1 a 8 = q_most (q_way c (A (174 + 17 * r)) (A (175 + 17 * r))) (A (179 + 17 * r)) ∧
  M.1 a 9 = A (180 + 17 * r) ∧ M.1 a 10 = A (181 + 17 * r) ∧ M.1 a 11 = A (182 + 17 * r) ∧ M.1 a 12 = A (183 + 17 * r) ∧ M.1 a 13 = A (184 + 17 * r) ∧
  (A (173 + 17 * r) = 0 → M.1 a 14 = A (185 + 17 * r) ∧ M.1 a 15 = A (186 + 17 * r) ∧ M.1 a 16 = A (187 + 17 * r) ∧ M.1 a 17 = A (188 + 17 * r)) ∧ M.1 a 18 = A (189 + 17 * r)
/-- how many taxis, how many rides -/
def q_T (c : q_R) : Nat := (c 66).toNatClampNeg
def q_N (A : q_R) : Nat := (A 1).toNatClampNeg
def c_desk (M : z_Mem) (d : Nat) (c A : q_R) : Prop :=
  (q_T c ≤ 4 ∧ q_N A ≤ 24) ∧ M.1 d 0 = A 0 ∧ M.1 d 1 = c 67 ∧ M.1 d 2 = A 2 ∧ M.1 d 3 = c 66 ∧ M.1 d 4 = A 1 ∧ (∀ k, k < 10 → M.1 (d + 1) k = A (3 + k)) ∧ (∀ t, t < q_T c → c_taxi M (d + 4 + 3 * t) c A t) ∧ (∀ r, r < q_N A → c_ride M (d + 16 + r) c A r)
def c_town (M : z_Mem) (o : Nat) (c : q_R) : Prop := M.1 (o + 3) 0 = c 64 ∧ M.1 (o + 3) 1 = c 65 ∧ ∀ k, k < 64 → M.1 (o + 4) k = c k
def c_hist (M : z_Mem) (o : Nat) (c : q_R) (h : List q_R) : Prop := h.length ≤ 10 ∧ M.1 (o + 45) 0 = Int32.ofNat h.length ∧ ∃ nx, nx < 10 ∧ M.1 (o + 45) 1 = Int32.ofNat nx ∧ ∀ (j : Nat) (B : q_R), h[j]? = some B → c_desk M (o + 47 + 40 * ((nx + 9 - j) % 10)) c B
def c_snap (M : z_Mem) (o : Nat) (c : q_R) (s : Option q_R) : Prop := match s with
  | none => M.1 o 9 = 0
  | some B => M.1 o 9 = 1 ∧ c_desk M (o + 447) c B
def c_buf (M : z_Mem) (o : Nat) (b : q_R × Nat) : Prop := b.2 ≤ 800 ∧ M.1 o 1 = Int32.ofNat b.2 ∧ ∀ k, k < b.2 → M.1 (o + 1) k &&& 255 = b.1 k
def c_fmt (M : z_Mem) (o : Nat) (b : q_R × Nat) : Prop := b.2 ≤ 80 ∧ M.1 o 4 = Int32.ofNat b.2 ∧ ∀ k, k < b.2 → M.1 (o + 2) k &&& 255 = b.1 k
/-- the class's part of the memory stands for s -/
def c_all (o : Nat) (M : z_Mem) (s : q_S) : Prop := c_town M o s.1 ∧ c_desk M (o + 5) s.1 s.2.1 ∧ c_hist M o s.1 s.2.2.1 ∧ c_snap M o s.1 s.2.2.2.1 ∧ c_buf M o s.2.2.2.2.1 ∧ M.1 o 2 = s.2.2.2.2.2.1 ∧ c_fmt M o s.2.2.2.2.2.2
def m_con (M : z_Mem) (m : Nat) (c : q_R) : Prop := M.1 m 15 = c 64 ∧ M.1 m 16 = c 65 ∧ M.1 m 17 = c 66 ∧ M.1 m 18 = c 67 ∧ (∀ k, k < 64 → M.1 (m + 9) k = c k) ∧ ∀ t, t < 4 → M.1 (m + 10) t = c (70 + t) ∧ M.1 (m + 11) t = c (80 + t)
def m_row (M : z_Mem) (a b : Nat) (A : q_R) : Prop := ∀ k, k < 581 → M.1 a (b + k) = A k
def m_hist (M : z_Mem) (m : Nat) (h : List q_R) : Prop := h.length ≤ 10 ∧ M.1 m 6 = Int32.ofNat h.length ∧ ∀ (j : Nat) (B : q_R), h[j]? = some B → m_row M (m + 4) (581 * (h.length - 1 - j)) B
def m_snap (M : z_Mem) (m : Nat) (s : Option q_R) : Prop := match s with
  | none => M.1 m 5 = 0
  | some B => M.1 m 5 = 1 ∧ m_row M (m + 3) 0 B
def m_buf (M : z_Mem) (m : Nat) (b : q_R × Nat) : Prop := M.1 m 23 = Int32.ofNat b.2 ∧ ∀ k, k < b.2 → M.1 (m + 12) k = b.1 k
def m_fmt (M : z_Mem) (m : Nat) (b : q_R × Nat) : Prop := M.1 m 47 = Int32.ofNat b.2 ∧ ∀ k, k < b.2 → M.1 (m + 21) k = b.1 k
/-- the reference's part stands for s -/
def m_all (m : Nat) (M : z_Mem) (s : q_S) : Prop := m_con M m s.1 ∧ m_row M (m + 1) 0 s.2.1 ∧ m_hist M m s.2.2.1 ∧ m_snap M m s.2.2.2.1 ∧ m_buf M m s.2.2.2.2.1 ∧ M.1 m 31 = s.2.2.2.2.2.1 ∧ m_fmt M m s.2.2.2.2.2.2
theorem c_taxi.keep {M M' : z_Mem} {a t : Nat} {c A : q_R} (h : c_taxi M a c A t) (h0 : M'.1 a = M.1 a) (h1 : M'.1 (a + 1) = M.1 (a + 1)) (h2 : M'.1 (a + 2) = M.1 (a + 2)) : c_taxi M' a c A t := by
  unfold c_taxi
  rw [h0, h1, h2]
  exact h
theorem c_ride.keep {M M' : z_Mem} {a r : Nat} {c A : q_R} (h : c_ride M a c A r) (h0 : M'.1 a = M.1 a) : c_ride M' a c A r := by
  unfold c_ride
  rw [h0]
  exact h
theorem c_desk.keep {M M' : z_Mem} {d : Nat} {c A : q_R} (h : c_desk M d c A) (hk : ∀ a, d ≤ a → a < d + 40 → M'.1 a = M.1 a) : c_desk M' d c A := by
  obtain ⟨hs, h0, h1, h2, h3, h4, h5, h6, h7⟩ := h
  have e := hk d (by omega) (by omega)
  refine ⟨hs, by rw [e]; exact h0, by rw [e]; exact h1, by rw [e]; exact h2, by rw [e]; exact h3, by rw [e]; exact h4, fun k hk' => by rw [hk (d + 1) (by omega) (by omega)]; exact h5 k hk', fun t ht => ?_, fun r hr => ?_⟩
  · exact (h6 t ht).keep (hk _ (by omega) (by omega)) (hk _ (by omega) (by omega)) (hk _ (by omega) (by omega))
  · exact (h7 r hr).keep (hk _ (by omega) (by omega))
theorem c_snap.keep {M M' : z_Mem} {o : Nat} {c : q_R} {s : Option q_R} (h : c_snap M o c s) (h0 : M'.1 o = M.1 o) (hk : ∀ a, o + 447 ≤ a → a < o + 487 → M'.1 a = M.1 a) : c_snap M' o c s := by
  cases s with
  | none =>
    show M'.1 o 9 = 0
    rw [h0]
    exact h
  | some B => exact ⟨by rw [h0]; exact h.1, h.2.keep (fun a h1 h2 => hk a h1 (by omega))⟩
theorem c_hist.keep {M M' : z_Mem} {o : Nat} {c : q_R} {l : List q_R} (h : c_hist M o c l) (hk : ∀ a, o + 45 ≤ a → a < o + 447 → M'.1 a = M.1 a) : c_hist M' o c l := by
  obtain ⟨h1, h2, nx, h3, h4, h5⟩ := h
  have e := hk (o + 45) (by omega) (by omega)
  refine ⟨h1, by rw [e]; exact h2, nx, h3, by rw [e]; exact h4, fun j B hB => (h5 j B hB).keep (fun a q1 q2 => hk a (by omega) ?_)⟩
  have : (nx + 9 - j) % 10 < 10 := Nat.mod_lt _ (by omega)
  omega
/-- what lies in the class's part alone stands where that part is kept -/
theorem c_all.keep {o : Nat} {M M' : z_Mem} {s : q_S} (h : c_all o M s) (hk : q_M o M M') : c_all o M' s := by
  have e : ∀ a, o ≤ a → a < o + 548 → M'.1 a = M.1 a := fun a h1 h2 => (hk a (Or.inl ⟨h1, h2⟩)).1
  obtain ⟨⟨a1, a2, a3⟩, h2, h3, h4, ⟨b0, b1, b2⟩, h6, ⟨d0, d1, d2⟩⟩ := h
  have e0 := e o (by omega) (by omega)
  have e3 := e (o + 3) (by omega) (by omega)
  have e4 := e (o + 4) (by omega) (by omega)
  have e1 := e (o + 1) (by omega) (by omega)
  have e2 := e (o + 2) (by omega) (by omega)
  exact ⟨⟨by rw [e3]; exact a1, by rw [e3]; exact a2, fun k hk' => by rw [e4]; exact a3 k hk'⟩, h2.keep (fun a q1 q2 => e a (by omega) (by omega)), h3.keep (fun a q1 q2 => e a (by omega) (by omega)), h4.keep e0 (fun a q1 q2 => e a (by omega) (by omega)),
    ⟨b0, by rw [e0]; exact b1, fun k hk' => by rw [e1]; exact b2 k hk'⟩, by rw [e0]; exact h6, ⟨d0, by rw [e0]; exact d1, fun k hk' => by rw [e2]; exact d2 k hk'⟩⟩
theorem m_row.keep {M M' : z_Mem} {a b : Nat} {A : q_R} (h : m_row M a b A) (h0 : M'.1 a = M.1 a) : m_row M' a b A := fun k hk => by rw [h0]; exact h k hk
theorem m_all.keep {o : Nat} {M M' : z_Mem} {s : q_S} (h : m_all (o + 548) M s) (hk : q_C o M M') : m_all (o + 548) M' s := by
  have e : ∀ a, o + 548 ≤ a → a < o + 573 → M'.1 a = M.1 a := fun a h1 h2 => (hk a ⟨h1, h2⟩).1
  obtain ⟨⟨a1, a2, a3, a4, a5, a6⟩, h2, ⟨b0, b1, b2⟩, h4, ⟨d1, d2⟩, h6, ⟨f1, f2⟩⟩ := h
  have e0 := e (o + 548) (by omega) (by omega)
  refine ⟨⟨by rw [e0]; exact a1, by rw [e0]; exact a2, by rw [e0]; exact a3, by rw [e0]; exact a4, fun k hk' => by rw [e _ (by omega) (by omega)]; exact a5 k hk', fun t ht => by rw [e _ (by omega) (by omega), e _ (by omega) (by omega)]; exact a6 t ht⟩, h2.keep (e _ (by omega) (by omega)),
    ⟨b0, by rw [e0]; exact b1, fun j B hB => (b2 j B hB).keep (e _ (by omega) (by omega))⟩, ?_, ⟨by rw [e0]; exact d1, fun k hk' => by rw [e _ (by omega) (by omega)]; exact d2 k hk'⟩, by rw [e0]; exact h6, ⟨by rw [e0]; exact f1, fun k hk' => by rw [e _ (by omega) (by omega)]; exact f2 k hk'⟩⟩
  generalize s.2.2.2.1 = sn at h4 ⊢
  cases sn with
  | none =>
    show M'.1 (o + 548) 5 = 0
    rw [e0]
    exact h4
  | some B => exact ⟨by rw [e0]; exact h4.1, h4.2.keep (e _ (by omega) (by omega))⟩
/-- the slot of what was thrown says nothing of the state -/
theorem m_all.thr {m : Nat} {M : z_Mem} {s : q_S} (h : m_all m M s) (v : Int32) : m_all m (z_wI M m 0 v) s := by
  have e0 : ∀ k, k ≠ 0 → (z_wI M m 0 v).1 m k = M.1 m k := fun k hk => w_slot m hk
  have e : ∀ j, 0 < j → (z_wI M m 0 v).1 (m + j) = M.1 (m + j) := fun j hj => funext fun k => w_addr k (by omega)
  obtain ⟨⟨a1, a2, a3, a4, a5, a6⟩, h2, ⟨b0, b1, b2⟩, h4, ⟨d1, d2⟩, h6, ⟨f1, f2⟩⟩ := h
  refine ⟨⟨by rw [e0 _ (by decide)]; exact a1, by rw [e0 _ (by decide)]; exact a2, by rw [e0 _ (by decide)]; exact a3, by rw [e0 _ (by decide)]; exact a4, fun k hk' => by rw [e _ (by decide)]; exact a5 k hk', fun t ht => by rw [e _ (by decide), e _ (by decide)]; exact a6 t ht⟩, h2.keep (e _ (by decide)),
    ⟨b0, by rw [e0 _ (by decide)]; exact b1, fun j B hB => (b2 j B hB).keep (e _ (by decide))⟩, ?_, ⟨by rw [e0 _ (by decide)]; exact d1, fun k hk' => by rw [e _ (by decide)]; exact d2 k hk'⟩, by rw [e0 _ (by decide)]; exact h6, ⟨by rw [e0 _ (by decide)]; exact f1, fun k hk' => by rw [e _ (by decide)]; exact f2 k hk'⟩⟩
  generalize s.2.2.2.1 = sn at h4 ⊢
  cases sn with
  | none =>
    show (z_wI M m 0 v).1 m 5 = 0
    rw [e0 _ (by decide)]
    exact h4
  | some B => exact ⟨by rw [e0 _ (by decide)]; exact h4.1, h4.2.keep (e _ (by decide))⟩
