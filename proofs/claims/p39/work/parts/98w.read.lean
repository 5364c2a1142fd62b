/-! ===== the class's side (out of whole, by program) ===== -/
def n_kp (m : Nat) (N N' : z_Mem) : Prop := (∀ x, x ≠ m → x ≠ m + 2 → (x < m + 5 ∨ m + 8 ≤ x) → N'.1 x = N.1 x) ∧ (∀ k, (k < 7 ∨ 11 ≤ k) → (k < 25 ∨ 32 ≤ k) → N'.1 m k = N.1 m k) ∧ ∀ x k, x ≠ m ∨ k ≠ 29 → N'.2 x k = N.2 x k
theorem n_kp.rfl' {m : Nat} {N : z_Mem} : n_kp m N N := ⟨fun _ _ _ _ => rfl, fun _ _ _ => rfl, fun _ _ _ => rfl⟩
theorem n_kp.tr {m : Nat} {N N' N'' : z_Mem} (h : n_kp m N N') (h' : n_kp m N' N'') : n_kp m N N'' := ⟨fun x a b c => (h'.1 x a b c).trans (h.1 x a b c), fun k a b => (h'.2.1 k a b).trans (h.2.1 k a b), fun x k hk => (h'.2.2 x k hk).trans (h.2.2 x k hk)⟩
theorem n_ks.kp {m : Nat} {N N' : z_Mem} (h : n_ks m N N') : n_kp m N N' := ⟨fun x a _ _ => h.1 x a, fun k _ b => h.2.1 k b, h.2.2⟩
theorem n_kp.w {m a k : Nat} {N : z_Mem} {v : Int32} (h : a = m + 2 ∨ (m + 5 ≤ a ∧ a < m + 8)) : n_kp m N (z_wI N a k v) := ⟨fun x h1 h2 h3 => funext fun j => w_addr _ (by omega), fun j _ _ => w_addr _ (by omega), fun _ _ _ => rfl⟩
theorem z_g.kw {o n q : Nat} {M N M' N' : z_Mem} {T : Nat → Nat} (h : z_g o M N T n q) (hM : ∀ x, x < o + 505 → M'.1 x = M.1 x) (h12 : N'.1 (o + 548 + 12) = N.1 (o + 548 + 12)) (hs : ∀ k, 24 ≤ k → N'.1 (o + 548) k = N.1 (o + 548) k) (hl : N'.2 = N.2) : z_g o M' N' T n q := by
  unfold z_g x_all x_arr y_rd y_at
  rw [hM (o + 499) (by omega), hM (o + 500) (by omega), hM (o + 501) (by omega), hM (o + 503) (by omega), h12, hs 24 (by omega), hs 25 (by omega), hs 26 (by omega), hs 27 (by omega), hs 28 (by omega), hs 30 (by omega), hs 31 (by omega), hl]
  exact h
/-- what the class has read; what the reference has; what holds of it -/
def r_C (o : Nat) (M : z_Mem) (Z : Nat) (R : Int32) (c A : q_R) (W : q_W) : Prop := M.1 (o + 505) 0 = Int32.ofNat Z ∧ M.1 (o + 505) 1 = R ∧ q_mat M (o + 506) W ∧ c_desk M (o + 507) c A
def r_M (m : Nat) (N : z_Mem) (Z : Nat) (R : Int32) (c A : q_R) (W : q_W) : Prop := N.1 m 7 = Int32.ofNat Z ∧ N.1 m 8 = R ∧ N.1 m 9 = c 66 ∧ N.1 m 10 = c 67 ∧ (∀ k, k < 581 → N.1 (m + 2) k = A k) ∧ (∀ t, t < q_T c → N.1 (m + 6) t = c (70 + t) ∧ N.1 (m + 7) t = c (80 + t)) ∧ ∀ a b, a < 8 → b < 8 → a ≠ b → N.1 (m + 5) (8 * a + b) = q_oi (W a b)
def r_I (Z : Nat) (c A : q_R) (W : q_W) : Prop := (2 ≤ Z ∧ Z ≤ 8) ∧ f_ok Z 99 W ∧ (c 66 = Int32.ofNat (q_T c) ∧ q_T c ≤ 4) ∧ A 1 = 0 ∧ q_scaJ A ∧ (∀ t, t < q_T c → (∃ z, z < 8 ∧ A (13 + 40 * t) = Int32.ofNat z) ∧ (∃ n, n ≤ 6 ∧ c (70 + t) = Int32.ofNat n) ∧ A (16 + 40 * t) = -1 ∧ A (24 + 40 * t) = 0 ∧ A (37 + 40 * t) = 0) ∧ ∀ k, 13 + 40 * q_T c ≤ k → k < 173 → A k = 0
def r_D (o : Nat) (M N : z_Mem) (Z : Nat) (R : Int32) (c A : q_R) (W : q_W) : Prop := r_C o M Z R c A W ∧ r_M (o + 548) N Z R c A W ∧ r_I Z c A W
theorem r_C.keep {o Z : Nat} {M M' : z_Mem} {R : Int32} {c A : q_R} {W : q_W} (h : r_C o M Z R c A W) (hk : ∀ x, o + 505 ≤ x → x < o + 547 → M'.1 x = M.1 x) : r_C o M' Z R c A W := by
  obtain ⟨h1, h2, h3, h4⟩ := h
  refine ⟨?_, ?_, ?_, h4.keep (fun x a b => hk x (by omega) (by omega))⟩
  · rw [hk _ (by omega) (by omega)]; exact h1
  · rw [hk _ (by omega) (by omega)]; exact h2
  · unfold q_mat
    rw [hk _ (by omega) (by omega)]; exact h3
theorem r_C.ks {o Z : Nat} {M M' : z_Mem} {R : Int32} {c A : q_R} {W : q_W} (h : r_C o M Z R c A W) (hk : c_ks o M M') : r_C o M' Z R c A W := h.keep (fun x a b => hk.1 x (by omega))
theorem r_M.ks {m Z : Nat} {N N' : z_Mem} {R : Int32} {c A : q_R} {W : q_W} (h : r_M m N Z R c A W) (hk : n_ks m N N') : r_M m N' Z R c A W := by
  unfold r_M
  rw [hk.2.1 7 (by omega), hk.2.1 8 (by omega), hk.2.1 9 (by omega), hk.2.1 10 (by omega), hk.1 (m + 2) (by omega), hk.1 (m + 5) (by omega), hk.1 (m + 6) (by omega), hk.1 (m + 7) (by omega)]
  exact h
theorem r_D.ks {o Z : Nat} {M M' N N' : z_Mem} {R : Int32} {c A : q_R} {W : q_W} (h : r_D o M N Z R c A W) (hk : c_ks o M M') (hn : n_ks (o + 548) N N') : r_D o M' N' Z R c A W := ⟨h.1.ks hk, h.2.1.ks hn, h.2.2⟩
theorem r_N0 {A : q_R} (h : A 1 = 0) : q_N A = 0 := by
  unfold q_N
  rw [h]
  rfl
theorem c_taxi.con {M : z_Mem} {a t : Nat} {c c' A : q_R} (h : c_taxi M a c A t) (h1 : c' (70 + t) = c (70 + t)) (h2 : c' (80 + t) = c (80 + t)) : c_taxi M a c' A t := by
  unfold c_taxi
  rw [h1, h2]
  exact h
theorem q_T_eq {c c' : q_R} (h : c' 66 = c 66) : q_T c' = q_T c := by
  unfold q_T
  rw [h]
theorem c_desk.flag {M : z_Mem} {d : Nat} {c A : q_R} {v : Int32} (h : c_desk M d c A) (h1 : A 1 = 0) : c_desk (z_wI M d 1 v) d (q_w c 67 v) A := by
  obtain ⟨hs, h0, -, h2, h3, h4, h5, h6, h7⟩ := h
  have eT : q_T (q_w c 67 v) = q_T c := q_T_eq (q_w_ne (by decide))
  have eN := r_N0 h1
  refine ⟨⟨by rw [eT]; exact hs.1, hs.2⟩, (w_slot _ (by decide)).trans h0, (w_same _ _ _ _).trans (q_w_same _ _ _).symm, (w_slot _ (by decide)).trans h2, (w_slot _ (by decide)).trans (h3.trans (q_w_ne (by decide)).symm), (w_slot _ (by decide)).trans h4, fun k hk => (w_addr _ (by omega)).trans (h5 k hk), fun t ht => ?_, fun r hr => by omega⟩
  rw [eT] at ht
  exact ((h6 t ht).keep (funext fun k => w_addr _ (by omega)) (funext fun k => w_addr _ (by omega)) (funext fun k => w_addr _ (by omega))).con (q_w_ne (by omega)) (q_w_ne (by omega))
theorem c_desk.rate {M : z_Mem} {d : Nat} {c A : q_R} {v : Int32} (h : c_desk M d c A) (h1 : A 1 = 0) : c_desk (z_wI M d 2 v) d c (q_w A 2 v) := by
  obtain ⟨hs, h0, h67, h2, h3, h4, h5, h6, h7⟩ := h
  have eN := r_N0 h1
  have eN' : q_N (q_w A 2 v) = 0 := r_N0 ((q_w_ne (by decide)).trans h1)
  refine ⟨⟨hs.1, by omega⟩, (w_slot _ (by decide)).trans (h0.trans (q_w_ne (by decide)).symm), (w_slot _ (by decide)).trans h67, (w_same _ _ _ _).trans (q_w_same _ _ _).symm, (w_slot _ (by decide)).trans h3, (w_slot _ (by decide)).trans (h4.trans (q_w_ne (by decide)).symm), fun k hk => (w_addr _ (by omega)).trans ((h5 k hk).trans (q_w_ne (by omega)).symm), fun t ht => ?_, fun r hr => by omega⟩
  exact ((h6 t ht).keep (funext fun k => w_addr _ (by omega)) (funext fun k => w_addr _ (by omega)) (funext fun k => w_addr _ (by omega))).row (fun k _ _ => q_w_ne (by omega))
theorem c_desk.rule {M : z_Mem} {d k : Nat} {c A : q_R} {v : Int32} (h : c_desk M d c A) (h1 : A 1 = 0) (hk : k < 10) : c_desk (z_wI M (d + 1) k v) d c (q_w A (3 + k) v) := by
  obtain ⟨hs, h0, h67, h2, h3, h4, h5, h6, h7⟩ := h
  have eN := r_N0 h1
  have eN' : q_N (q_w A (3 + k) v) = 0 := r_N0 ((q_w_ne (by omega)).trans h1)
  refine ⟨⟨hs.1, by omega⟩, (w_addr _ (by omega)).trans (h0.trans (q_w_ne (by omega)).symm), (w_addr _ (by omega)).trans h67, (w_addr _ (by omega)).trans (h2.trans (q_w_ne (by omega)).symm), (w_addr _ (by omega)).trans h3, (w_addr _ (by omega)).trans (h4.trans (q_w_ne (by omega)).symm), fun j hj => ?_, fun t ht => ?_, fun r hr => by omega⟩
  · by_cases hjk : j = k
    · rw [hjk, w_same, q_w_same]
    · exact (w_slot _ hjk).trans ((h5 j hj).trans (q_w_ne (by omega)).symm)
  · exact ((h6 t ht).keep (funext fun k => w_addr _ (by omega)) (funext fun k => w_addr _ (by omega)) (funext fun k => w_addr _ (by omega))).row (fun k _ _ => q_w_ne (by omega))
/-- a taxi more -/
def r_tc (c : q_R) (t : Nat) (n b : Int32) : q_R := q_w (q_w (q_w c (70 + t) n) (80 + t) b) 66 (Int32.ofNat (t + 1))
def r_tA (A : q_R) (t : Nat) (z b e : Int32) : q_R := q_w (q_w (q_w (q_w A (13 + 40 * t) z) (14 + 40 * t) b) (16 + 40 * t) (-1)) (17 + 40 * t) e
theorem r_tc_66 (c : q_R) (t : Nat) (n b : Int32) (ht : t < 4) : r_tc c t n b 66 = Int32.ofNat (t + 1) ∧ q_T (r_tc c t n b) = t + 1 := by
  have e : r_tc c t n b 66 = Int32.ofNat (t + 1) := q_w_same _ _ _
  refine ⟨e, ?_⟩
  unfold q_T
  rw [e, i_cl (by omega)]
theorem r_tc_ne {c : q_R} {t k : Nat} {n b : Int32} (h1 : k ≠ 66) (h2 : k ≠ 70 + t) (h3 : k ≠ 80 + t) : r_tc c t n b k = c k := (q_w_ne h1).trans ((q_w_ne h3).trans (q_w_ne h2))
theorem r_tc_70 {c : q_R} {t : Nat} {n b : Int32} (ht : t < 4) : r_tc c t n b (70 + t) = n ∧ r_tc c t n b (80 + t) = b := by
  unfold r_tc
  refine ⟨?_, ?_⟩
  · rw [q_w_ne (by omega), q_w_ne (by omega), q_w_same]
  · rw [q_w_ne (by omega), q_w_same]
theorem r_tA_ne {A : q_R} {t k : Nat} {z b e : Int32} (h : k < 13 + 40 * t ∨ k = 15 + 40 * t ∨ 18 + 40 * t ≤ k) : r_tA A t z b e k = A k := (q_w_ne (by omega)).trans ((q_w_ne (by omega)).trans ((q_w_ne (by omega)).trans (q_w_ne (by omega))))
theorem r_tA_at {A : q_R} {t : Nat} {z b e : Int32} : r_tA A t z b e (13 + 40 * t) = z ∧ r_tA A t z b e (14 + 40 * t) = b ∧ r_tA A t z b e (16 + 40 * t) = -1 ∧ r_tA A t z b e (17 + 40 * t) = e := by
  unfold r_tA
  refine ⟨?_, ?_, ?_, q_w_same _ _ _⟩
  · rw [q_w_ne (by omega), q_w_ne (by omega), q_w_ne (by omega), q_w_same]
  · rw [q_w_ne (by omega), q_w_ne (by omega), q_w_same]
  · rw [q_w_ne (by omega), q_w_same]
theorem c_desk.more {M M1 : z_Mem} {d t : Nat} {c A : q_R} {n z b e : Int32} (h : c_desk M d c A) (h1 : A 1 = 0) (ht : t = q_T c) (ht4 : t < 4) (hz : ∀ k, 13 + 40 * t ≤ k → k < 173 → A k = 0)
    (hS : M1.1 (d + 4 + 3 * t) 0 = n ∧ M1.1 (d + 4 + 3 * t) 1 = z ∧ M1.1 (d + 4 + 3 * t) 2 = b ∧ M1.1 (d + 4 + 3 * t) 3 = b ∧ M1.1 (d + 4 + 3 * t) 4 = e ∧ M1.1 (d + 4 + 3 * t) 5 = 0 ∧ M1.1 (d + 4 + 3 * t) 6 = -1 ∧ M1.1 (d + 4 + 3 * t) 7 = 0 ∧ M1.1 (d + 4 + 3 * t) 8 = 0 ∧ ∀ k, 11 ≤ k → k ≤ 16 → M1.1 (d + 4 + 3 * t) k = 0) (hx : ∀ x, x ≠ d + 4 + 3 * t → M1.1 x = M.1 x) :
    c_desk (z_wI M1 d 3 (Int32.ofNat (t + 1))) d (r_tc c t n b) (r_tA A t z b e) := by
  obtain ⟨hs, h0, h67, h2, h3, h4, h5, h6, h7⟩ := h
  have eN := r_N0 h1
  have eN' : q_N (r_tA A t z b e) = 0 := r_N0 ((r_tA_ne (by omega)).trans h1)
  obtain ⟨e66, eT⟩ := r_tc_66 c t n b ht4
  have hd : ∀ k, M1.1 d k = M.1 d k := fun k => by rw [hx d (by omega)]
  refine ⟨⟨by omega, by omega⟩, ?_, ?_, ?_, ?_, ?_, fun k hk => ?_, fun u hu => ?_, fun r hr => by omega⟩
  · exact (w_slot _ (by decide)).trans ((hd 0).trans (h0.trans (r_tA_ne (by omega)).symm))
  · exact (w_slot _ (by decide)).trans ((hd 1).trans (h67.trans (r_tc_ne (by omega) (by omega) (by omega)).symm))
  · exact (w_slot _ (by decide)).trans ((hd 2).trans (h2.trans (r_tA_ne (by omega)).symm))
  · exact (w_same _ _ _ _).trans e66.symm
  · exact (w_slot _ (by decide)).trans ((hd 4).trans (h4.trans (r_tA_ne (by omega)).symm))
  · rw [w_addr _ (by omega), hx _ (by omega)]
    exact (h5 k hk).trans (r_tA_ne (by omega)).symm
  · rw [eT] at hu
    by_cases hut : u = t
    · rw [hut]
      obtain ⟨a13, a14, a16, a17⟩ := r_tA_at (A := A) (t := t) (z := z) (b := b) (e := e)
      obtain ⟨g0, g1, g2, g3, g4, g5, g6, g7, g8, g9⟩ := hS
      have zr : ∀ j, j = 15 ∨ 18 ≤ j → j < 53 → r_tA A t z b e (j + 40 * t) = 0 := fun j h1 h2 => (r_tA_ne (by omega)).trans (hz _ (by omega) (by omega))
      have ws : ∀ k, (z_wI M1 d 3 (Int32.ofNat (t + 1))).1 (d + 4 + 3 * t) k = M1.1 (d + 4 + 3 * t) k := fun k => w_addr _ (by omega)
      obtain ⟨c70, c80⟩ := r_tc_70 (c := c) (n := n) (b := b) ht4
      refine ⟨(ws 0).trans (g0.trans c70.symm), (ws 1).trans (g1.trans a13.symm), (ws 2).trans (g2.trans a14.symm), (ws 3).trans (g3.trans c80.symm), (ws 4).trans (g4.trans a17.symm), (ws 5).trans (g5.trans (zr 15 (by omega) (by omega)).symm), (ws 6).trans (g6.trans a16.symm), (ws 7).trans (g7.trans (zr 24 (by omega) (by omega)).symm), (ws 8).trans (g8.trans (zr 37 (by omega) (by omega)).symm), (ws 11).trans ((g9 11 (by omega) (by omega)).trans (zr 18 (by omega) (by omega)).symm), (ws 12).trans ((g9 12 (by omega) (by omega)).trans (zr 19 (by omega) (by omega)).symm), (ws 13).trans ((g9 13 (by omega) (by omega)).trans (zr 20 (by omega) (by omega)).symm), (ws 14).trans ((g9 14 (by omega) (by omega)).trans (zr 21 (by omega) (by omega)).symm), (ws 15).trans ((g9 15 (by omega) (by omega)).trans (zr 22 (by omega) (by omega)).symm), (ws 16).trans ((g9 16 (by omega) (by omega)).trans (zr 23 (by omega) (by omega)).symm), fun k hk hl => ?_, fun k hk hl => ?_⟩
      · rw [zr 24 (by omega) (by omega)] at hl
        exact absurd hl (i_nn (by omega))
      · rw [zr 37 (by omega) (by omega)] at hl
        exact absurd hl (i_nn (by omega))
    · have hut : u < t := by omega
      have hk : ∀ x, x = d + 4 + 3 * u ∨ x = d + 4 + 3 * u + 1 ∨ x = d + 4 + 3 * u + 2 → (z_wI M1 d 3 (Int32.ofNat (t + 1))).1 x = M.1 x := fun x hx' => (funext fun k => w_addr _ (by omega)).trans (hx x (by omega))
      exact (((h6 u (by omega)).keep (hk _ (by omega)) (hk _ (by omega)) (hk _ (by omega))).con (r_tc_ne (by omega) (by omega) (by omega)) (r_tc_ne (by omega) (by omega) (by omega))).row (fun k h1 h2 => r_tA_ne (by omega))
