/-! ===== the class's side (out of whole, by program) ===== -/
def q_w (A : q_R) (k : Nat) (v : Int32) : q_R := fun j => if j = k then v else A j
def q_row (s : q_S) (A : q_R) : q_S := (s.1, A, s.2.2)
def q_up (s : q_S) (k : Nat) (v : Int32) : q_S := q_row s (q_w s.2.1 k v)
theorem q_w_same (A : q_R) (k : Nat) (v : Int32) : q_w A k v k = v := if_pos rfl
theorem q_w_ne {A : q_R} {k j : Nat} {v : Int32} (h : j ≠ k) : q_w A k v j = A j := if_neg h
theorem c_all.row {o : Nat} {M M' : z_Mem} {s : q_S} {A' : q_R} (h : c_all o M s) (hk : ∀ x, (x < o + 5 ∨ (o + 45 ≤ x ∧ x < o + 487)) → M'.1 x = M.1 x) (hd : c_desk M' (o + 5) s.1 A') : c_all o M' (q_row s A') :=
  h.upd (fun k _ => by rw [hk o (by omega)]) (fun x hx => hk x (by omega)) hd (h.2.2.1.keep (fun a q1 q2 => hk a (by omega)))
theorem m_all.row {m : Nat} {N N' : z_Mem} {s : q_S} {A' : q_R} (h : m_all m N s) (h0 : ∀ k, k < 24 ∨ k = 31 ∨ k = 47 → N'.1 m k = N.1 m k) (hk : ∀ j, 2 ≤ j → j < 13 ∨ j = 21 → N'.1 (m + j) = N.1 (m + j)) (hr : ∀ k, k < 581 → N'.1 (m + 1) k = A' k) : m_all m N' (q_row s A') :=
  h.upd (fun k hk' => h0 k (by omega)) (fun j hj => hk j (by omega) (by omega)) (fun k hk' => by rw [Nat.zero_add]; exact hr k hk') ⟨h.2.2.1.1, by rw [h0 6 (by omega)]; exact h.2.2.1.2.1, fun j B hB => (h.2.2.1.2.2 j B hB).keep (hk 4 (by omega) (by omega))⟩
theorem m_all.w {m k : Nat} {N : z_Mem} {s : q_S} {v : Int32} (h : m_all m N s) : m_all m (z_wI N (m + 1) k v) (q_up s k v) :=
  h.row (fun j _ => w_addr j (by omega)) (fun j h1 h2 => funext fun i => w_addr i (by omega)) (fun j hj => by
    by_cases hjk : j = k
    · rw [hjk, w_same, q_w_same]
    · rw [w_slot _ hjk, q_w_ne hjk]
      exact m_at h hj)
theorem c_taxi.row {M : z_Mem} {a t : Nat} {c A A' : q_R} (h : c_taxi M a c A t) (e : ∀ k, 13 + 40 * t ≤ k → k < 53 + 40 * t → A' k = A k) : c_taxi M a c A' t := by
  obtain ⟨x0, x1, x2, x3, x4, x5, x6, x7, x8, x11, x12, x13, x14, x15, x16, xr, xa⟩ := h
  refine ⟨x0, x1.trans (e _ (by omega) (by omega)).symm, x2.trans (e _ (by omega) (by omega)).symm, x3, x4.trans (e _ (by omega) (by omega)).symm, x5.trans (e _ (by omega) (by omega)).symm, x6.trans (e _ (by omega) (by omega)).symm, x7.trans (e _ (by omega) (by omega)).symm, x8.trans (e _ (by omega) (by omega)).symm, x11.trans (e _ (by omega) (by omega)).symm, x12.trans (e _ (by omega) (by omega)).symm, x13.trans (e _ (by omega) (by omega)).symm, x14.trans (e _ (by omega) (by omega)).symm, x15.trans (e _ (by omega) (by omega)).symm, x16.trans (e _ (by omega) (by omega)).symm, fun k hk hl => ?_, fun k hk hl => ?_⟩
  · rw [e _ (by omega) (by omega)] at hl
    rw [e _ (by omega) (by omega)]
    exact xr k hk hl
  · rw [e _ (by omega) (by omega)] at hl
    rw [e _ (by omega) (by omega)]
    exact xa k hk hl
theorem c_ride.row {M : z_Mem} {a r : Nat} {c A A' : q_R} (h : c_ride M a c A r) (e : ∀ k, 173 + 17 * r ≤ k → k < 190 + 17 * r → A' k = A k) : c_ride M a c A' r := by
  unfold c_ride
  rw [e (173 + 17 * r) (by omega) (by omega), e (174 + 17 * r) (by omega) (by omega), e (175 + 17 * r) (by omega) (by omega), e (176 + 17 * r) (by omega) (by omega), e (177 + 17 * r) (by omega) (by omega), e (178 + 17 * r) (by omega) (by omega), e (179 + 17 * r) (by omega) (by omega), e (180 + 17 * r) (by omega) (by omega), e (181 + 17 * r) (by omega) (by omega), e (182 + 17 * r) (by omega) (by omega), e (183 + 17 * r) (by omega) (by omega), e (184 + 17 * r) (by omega) (by omega), e (185 + 17 * r) (by omega) (by omega), e (186 + 17 * r) (by omega) (by omega), e (187 + 17 * r) (by omega) (by omega), e (188 + 17 * r) (by omega) (by omega), e (189 + 17 * r) (by omega) (by omega)]
  exact h
/-- one taxi of a desk has changed -/
theorem c_desk.taxi {M M' : z_Mem} {d t : Nat} {c A A' : q_R} (h : c_desk M d c A) (ht : t < q_T c) (hk : ∀ x, d ≤ x → x < d + 40 → (x < d + 4 + 3 * t ∨ d + 4 + 3 * t + 3 ≤ x) → M'.1 x = M.1 x) (e : ∀ k, (k < 13 + 40 * t ∨ 53 + 40 * t ≤ k) → A' k = A k) (hT : c_taxi M' (d + 4 + 3 * t) c A' t) : c_desk M' d c A' := by
  obtain ⟨hs, h0, h1, h2, h3, h4, h5, h6, h7⟩ := h
  have eN : q_N A' = q_N A := by unfold q_N; rw [e 1 (by omega)]
  have ed := hk d (by omega) (by omega) (by omega)
  refine ⟨⟨hs.1, by rw [eN]; exact hs.2⟩, by rw [ed, e 0 (by omega)]; exact h0, by rw [ed]; exact h1, by rw [ed, e 2 (by omega)]; exact h2, by rw [ed]; exact h3, by rw [ed, e 1 (by omega)]; exact h4, fun k hk' => by rw [hk (d + 1) (by omega) (by omega) (by omega), e (3 + k) (by omega)]; exact h5 k hk', fun u hu => ?_, fun r hr => ?_⟩
  · by_cases hut : u = t
    · rw [hut]
      exact hT
    · exact ((h6 u hu).keep (hk _ (by omega) (by omega) (by omega)) (hk _ (by omega) (by omega) (by omega)) (hk _ (by omega) (by omega) (by omega))).row (fun k q1 q2 => e k (by omega))
  · rw [eN] at hr
    exact ((h7 r hr).keep (hk _ (by omega) (by omega) (by omega))).row (fun k q1 q2 => e k (by omega))
/-- one ride of a desk has changed -/
theorem c_desk.ride {M M' : z_Mem} {d r : Nat} {c A A' : q_R} (h : c_desk M d c A) (hr : r < q_N A) (hk : ∀ x, d ≤ x → x < d + 40 → x ≠ d + 16 + r → M'.1 x = M.1 x) (e : ∀ k, (k < 173 + 17 * r ∨ 190 + 17 * r ≤ k) → A' k = A k) (hR : c_ride M' (d + 16 + r) c A' r) : c_desk M' d c A' := by
  obtain ⟨hs, h0, h1, h2, h3, h4, h5, h6, h7⟩ := h
  have eN : q_N A' = q_N A := by unfold q_N; rw [e 1 (by omega)]
  have ed := hk d (by omega) (by omega) (by omega)
  refine ⟨⟨hs.1, by rw [eN]; exact hs.2⟩, by rw [ed, e 0 (by omega)]; exact h0, by rw [ed]; exact h1, by rw [ed, e 2 (by omega)]; exact h2, by rw [ed]; exact h3, by rw [ed, e 1 (by omega)]; exact h4, fun k hk' => by rw [hk (d + 1) (by omega) (by omega) (by omega), e (3 + k) (by omega)]; exact h5 k hk', fun u hu => ?_, fun u hu => ?_⟩
  · exact ((h6 u hu).keep (hk _ (by omega) (by omega) (by omega)) (hk _ (by omega) (by omega) (by omega)) (hk _ (by omega) (by omega) (by omega))).row (fun k q1 q2 => e k (by omega))
  · rw [eN] at hu
    by_cases hur : u = r
    · rw [hur]
      exact hR
    · exact ((h7 u hu).keep (hk _ (by omega) (by omega) (by omega))).row (fun k q1 q2 => e k (by omega))
/-- a number of a taxi, that no list hangs on -/
def q_tmap (k idx : Nat) : Prop := (k = 1 ∧ idx = 13) ∨ (k = 2 ∧ idx = 14) ∨ (k = 4 ∧ idx = 17) ∨ (k = 5 ∧ idx = 15) ∨ (k = 6 ∧ idx = 16) ∨ (k = 11 ∧ idx = 18) ∨ (k = 12 ∧ idx = 19) ∨ (k = 13 ∧ idx = 20) ∨ (k = 14 ∧ idx = 21) ∨ (k = 15 ∧ idx = 22) ∨ (k = 16 ∧ idx = 23)
theorem c_taxi.w {M : z_Mem} {a t k idx : Nat} {c A : q_R} {v : Int32} (h : c_taxi M a c A t) (hm : q_tmap k idx) : c_taxi (z_wI M a k v) a c (q_w A (idx + 40 * t) v) t := by
  obtain ⟨x0, x1, x2, x3, x4, x5, x6, x7, x8, x11, x12, x13, x14, x15, x16, xr, xa⟩ := h
  have one : ∀ j i, (j = k → i = idx) → (j ≠ k → i ≠ idx) → M.1 a j = A (i + 40 * t) → (z_wI M a k v).1 a j = q_w A (idx + 40 * t) v (i + 40 * t) := fun j i h1 h2 hx => by
    by_cases hjk : j = k
    · rw [hjk, w_same, h1 hjk, q_w_same]
    · rw [w_slot _ hjk, q_w_ne (fun q => h2 hjk (by omega)), hx]
  have k0 : k ≠ 0 := by rcases hm with h | h | h | h | h | h | h | h | h | h | h <;> omega
  have k3 : k ≠ 3 := by rcases hm with h | h | h | h | h | h | h | h | h | h | h <;> omega
  have hi : idx < 24 := by rcases hm with h | h | h | h | h | h | h | h | h | h | h <;> omega
  refine ⟨(w_slot _ k0.symm).trans x0, one 1 13 ?_ ?_ x1, one 2 14 ?_ ?_ x2, (w_slot _ k3.symm).trans x3, one 4 17 ?_ ?_ x4, one 5 15 ?_ ?_ x5, one 6 16 ?_ ?_ x6, one 7 24 ?_ ?_ x7, one 8 37 ?_ ?_ x8, one 11 18 ?_ ?_ x11, one 12 19 ?_ ?_ x12, one 13 20 ?_ ?_ x13, one 14 21 ?_ ?_ x14, one 15 22 ?_ ?_ x15, one 16 23 ?_ ?_ x16, fun j hj hl => ?_, fun j hj hl => ?_⟩
  all_goals first
    | (rw [q_w_ne (by omega)] at hl
       rw [w_addr _ (by omega), q_w_ne (by omega)]
       first
       | exact xr j hj hl
       | exact xa j hj hl)
    | (rcases hm with h | h | h | h | h | h | h | h | h | h | h <;> omega)
theorem c_all.wt {o t k idx : Nat} {M : z_Mem} {s : q_S} {v : Int32} (h : c_all o M s) (ht : t < q_T s.1) (hT : q_T s.1 ≤ 4) (hm : q_tmap k idx) : c_all o (z_wI M (o + 5 + 4 + 3 * t) k v) (q_up s (idx + 40 * t) v) := by
  have hi : 13 ≤ idx ∧ idx < 24 := by rcases hm with h | h | h | h | h | h | h | h | h | h | h <;> omega
  exact h.row (fun x hx => funext fun j => w_addr j (by omega)) (h.2.1.taxi ht (fun x h1 h2 h3 => funext fun j => w_addr j (by omega)) (fun j hj => q_w_ne (by omega)) ((h.2.1.2.2.2.2.2.2.2.1 t ht).w hm))
/-- a number of a ride that hangs on nothing -/
theorem c_ride.w {M : z_Mem} {a r k : Nat} {c A : q_R} {v : Int32} (h : c_ride M a c A r) (hk : (9 ≤ k ∧ k ≤ 13) ∨ (k = 0 ∧ v ≠ 0)) : c_ride (z_wI M a k v) a c (q_w A ((if k = 0 then 173 else 171 + k) + 17 * r) v) r := by
  obtain ⟨x0, x1, x2, x3, x4, x5, x6, x7, x8, x9, x10, x11, x12, x13, xo, x18⟩ := h
  generalize hidx : (if k = 0 then 173 else 171 + k) = idx
  have hi : (k = 0 → idx = 173) ∧ (k ≠ 0 → idx = 171 + k) := ⟨fun q => by rw [← hidx, if_pos q], fun q => by rw [← hidx, if_neg q]⟩
  have one : ∀ j i, (j = k → i = idx) → (j ≠ k → i ≠ idx) → M.1 a j = A (i + 17 * r) → (z_wI M a k v).1 a j = q_w A (idx + 17 * r) v (i + 17 * r) := fun j i h1 h2 hx => by
    by_cases hjk : j = k
    · rw [hjk, w_same, h1 hjk, q_w_same]
    · rw [w_slot _ hjk, q_w_ne (fun q => h2 hjk (by omega)), hx]
  refine ⟨one 0 173 (by omega) (by omega) x0, one 1 174 (by omega) (by omega) x1, one 2 175 (by omega) (by omega) x2, one 3 176 (by omega) (by omega) x3, one 4 177 (by omega) (by omega) x4, one 5 178 (by omega) (by omega) x5, one 6 179 (by omega) (by omega) x6, ?_, ?_, one 9 180 (by omega) (by omega) x9, one 10 181 (by omega) (by omega) x10, one 11 182 (by omega) (by omega) x11, one 12 183 (by omega) (by omega) x12, one 13 184 (by omega) (by omega) x13, fun h0 => ?_, one 18 189 (by omega) (by omega) x18⟩
  · rw [w_slot _ (by omega), q_w_ne (by omega), q_w_ne (by omega)]
    exact x7
  · rw [w_slot _ (by omega), q_w_ne (by omega), q_w_ne (by omega), q_w_ne (by omega)]
    exact x8
  · by_cases k0 : k = 0
    · have e : 173 + 17 * r = idx + 17 * r := by rw [hi.1 k0]
      rw [e, q_w_same] at h0
      rcases hk with q | q
      · omega
      · exact absurd h0 q.2
    · rw [q_w_ne (by omega)] at h0
      obtain ⟨y1, y2, y3, y4⟩ := xo h0
      exact ⟨one 14 185 (by omega) (by omega) y1, one 15 186 (by omega) (by omega) y2, one 16 187 (by omega) (by omega) y3, one 17 188 (by omega) (by omega) y4⟩
theorem c_all.wr {o r k : Nat} {M : z_Mem} {s : q_S} {v : Int32} (h : c_all o M s) (hr : r < q_N s.2.1) (hk : (9 ≤ k ∧ k ≤ 13) ∨ (k = 0 ∧ v ≠ 0)) : c_all o (z_wI M (o + 5 + 16 + r) k v) (q_up s ((if k = 0 then 173 else 171 + k) + 17 * r) v) := by
  have hN := h.2.1.1.2
  exact h.row (fun x hx => funext fun j => w_addr j (by omega)) (h.2.1.ride hr (fun x h1 h2 h3 => funext fun j => w_addr j (by omega)) (fun j hj => q_w_ne (by split <;> omega)) ((h.2.1.2.2.2.2.2.2.2.2 r hr).w hk))
/-- the time, the rate, a rule -/
theorem c_all.wd {o k : Nat} {M : z_Mem} {s : q_S} {v : Int32} (h : c_all o M s) (hk : k = 0 ∨ k = 2) : c_all o (z_wI M (o + 5) k v) (q_up s k v) := by
  obtain ⟨hs, h0, h1, h2, h3, h4, h5, h6, h7⟩ := h.2.1
  have eN : q_N (q_w s.2.1 k v) = q_N s.2.1 := by unfold q_N; rw [q_w_ne (by omega)]
  have hT := hs.1
  refine h.row (fun x hx => funext fun j => w_addr j (by omega)) ⟨⟨hs.1, by rw [eN]; exact hs.2⟩, ?_, (w_slot _ (by omega)).trans h1, ?_, (w_slot _ (by omega)).trans h3, (w_slot _ (by omega)).trans (h4.trans (q_w_ne (by omega)).symm), fun j hj => (w_addr _ (by omega)).trans ((h5 j hj).trans (q_w_ne (by omega)).symm), fun t ht => ((h6 t ht).keep (funext fun j => w_addr j (by omega)) (funext fun j => w_addr j (by omega)) (funext fun j => w_addr j (by omega))).row (fun j h1 h2 => q_w_ne (by omega)), fun r hr => ((h7 r (by rw [eN] at hr; exact hr)).keep (funext fun j => w_addr j (by omega))).row (fun j h1 h2 => q_w_ne (by omega))⟩
  · rcases hk with rfl | rfl
    · rw [w_same, q_w_same]
    · rw [w_slot _ (by omega), q_w_ne (by omega), h0]
  · rcases hk with rfl | rfl
    · rw [w_slot _ (by omega), q_w_ne (by omega), h2]
    · rw [w_same, q_w_same]
