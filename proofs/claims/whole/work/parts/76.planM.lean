/-! ===== PURE: the reference plans a list of stops ===== -/
theorem m_all.scr {m : Nat} {N N' : z_Mem} {s : q_S} (h : m_all m N s) (h0 : ∀ k, k < 24 ∨ k = 31 ∨ k = 47 → N'.1 m k = N.1 m k) (hk : ∀ j, 1 ≤ j → j < 13 ∨ j = 21 → N'.1 (m + j) = N.1 (m + j)) : m_all m N' s := by
  have h1 := h.upd (N' := N') (A' := s.2.1) (h' := s.2.2.1) (fun k hk' => h0 k (by omega)) (fun j hj => hk j (by omega) (by omega)) (h.2.1.keep (hk 1 (by omega) (by omega))) ⟨h.2.2.1.1, by rw [h0 6 (by omega)]; exact h.2.2.1.2.1, fun j B hB => (h.2.2.1.2.2 j B hB).keep (hk 4 (by omega) (by omega))⟩
  exact h1
/-- only the plan is written -/
def m_pl (m : Nat) (N N' : z_Mem) : Prop := (∀ x, x ≠ m → (x < m + 13 ∨ m + 20 ≤ x) → N'.1 x = N.1 x) ∧ (∀ k, k ≠ 39 → N'.1 m k = N.1 m k) ∧ N'.2 = N.2
theorem m_pl.rfl' {m : Nat} {N : z_Mem} : m_pl m N N := ⟨fun _ _ _ => rfl, fun _ _ => rfl, rfl⟩
theorem m_pl.tr {m : Nat} {M M' M'' : z_Mem} (h : m_pl m M M') (h' : m_pl m M' M'') : m_pl m M M'' := ⟨fun x h1 h2 => (h'.1 x h1 h2).trans (h.1 x h1 h2), fun k hk => (h'.2.1 k hk).trans (h.2.1 k hk), h'.2.2.trans h.2.2⟩
theorem m_pl.w {m a k : Nat} {M M' : z_Mem} {v : Int32} (h : m_pl m M M') (h1 : m + 13 ≤ a) (h2 : a < m + 20) : m_pl m M (z_wI M' a k v) := ⟨fun x h3 hx => (funext fun j => w_addr j (by omega)).trans (h.1 x h3 hx), fun j hj => (w_addr j (by omega)).trans (h.2.1 j hj), h.2.2⟩
theorem m_pl.w39 {m : Nat} {M M' : z_Mem} {v : Int32} (h : m_pl m M M') : m_pl m M (z_wI M' m 39 v) := ⟨fun x h3 hx => (funext fun j => w_addr j h3).trans (h.1 x h3 hx), fun j hj => (w_slot m hj).trans (h.2.1 j hj), h.2.2⟩
theorem m_pl.all {m : Nat} {M M' : z_Mem} {s : q_S} (h : m_pl m M M') (hm : m_all m M s) : m_all m M' s := hm.scr (fun k hk => h.2.1 k (by omega)) (fun j h1 h2 => h.1 _ (by omega) (by omega))
def m_list (N : z_Mem) (m : Nat) (l : Nat → Nat) (n : Nat) : Prop := N.1 m 39 = Int32.ofNat n ∧ ∀ k, k < n → N.1 (m + 13) k = Int32.ofNat (l k)
theorem i_half {a : Nat} (ha : a < 2 ^ 31) : Int32.ofNat a / 2 = Int32.ofNat (a / 2) := i_div (b := 2) ha (by decide)
theorem m_zoneOf {m s' : Nat} {N : z_Mem} {s : q_S} (hI : q_In s) (hm : m_all m N s) (hs : s' < 2 * q_N s.2.1) : F_Model_zoneOf m (Int32.ofNat s') N = some (Int32.ofNat (q_zo s.2.1 s')) ∧ q_zo s.2.1 s' < 8 := by
  have hN := hI.I.rides24
  have hr : s' / 2 < q_N s.2.1 := by omega
  obtain ⟨⟨a, ha, ea⟩, ⟨b, hb, eb⟩, -⟩ := (hI.2.1.2.2.1 _ hr).1
  unfold F_Model_zoneOf F_Model_zoneOf_J16 q_zo
  rw [i_odd s' (by omega), i_half (by omega)]
  by_cases h : s' % 2 = 1
  · rw [if_pos (by rw [h]; rfl), if_pos h, zb_ok (m_ofL (kl := 1) hm 1 (by omega) (by omega) rfl), show 173 + 17 * (s' / 2) + 1 = 174 + 17 * (s' / 2) by omega, ea, i_cl (by omega)]
    exact ⟨rfl, ha⟩
  · rw [if_neg (i_ne1 (by omega) h), if_neg h, zb_ok (m_ofL (kl := 2) hm 2 (by omega) (by omega) rfl), show 173 + 17 * (s' / 2) + 2 = 175 + 17 * (s' / 2) by omega, eb, i_cl (by omega)]
    exact ⟨rfl, hb⟩
theorem m_ruledL {m : Nat} {N : z_Mem} {s : q_S} (hm : m_all m N s) (k : Nat) {kl : Int32} (hk : k < 10) (hl : kl = Int32.ofNat k) : F_Model_ruled m kl N = some (s.2.1 (3 + k)) := by
  subst hl
  unfold F_Model_ruled
  have e : 3 + Int32.ofNat k = Int32.ofNat (3 + k) := i_add 3 k
  rw [e, if_pos ((i_inb (by omega)).mpr (by omega)), i_cl (by omega), m_at hm (by omega)]
theorem m_lists_L {m t n : Nat} {s : q_S} {rt : List Nat} (ht : t < 4) (hn : rt.length = n) (hn12 : n ≤ 12) (hr : q_li s.2.1 (24 + 40 * t) (25 + 40 * t) rt) : ∀ (r i f : Nat) (N : z_Mem), i + r = n → r < f → m_all m N s → N.1 m 39 = Int32.ofNat n → (∀ k, k < i → N.1 (m + 13) k = Int32.ofNat (g_l rt k)) → ∃ N', F_Model_lists_L13 m f (Int32.ofNat t) (Int32.ofNat i) N = some N' ∧ m_pl m N N' ∧ m_list N' m (g_l rt) n := by
  intro r
  induction r with
  | zero =>
    intro i f N hi hf hm h39 hl
    obtain ⟨f, rfl⟩ : ∃ g, f = g + 1 := ⟨f - 1, by omega⟩
    have hi' : i = n := by omega
    subst hi'
    unfold F_Model_lists_L13 F_Model_lists_B13
    rw [h39, if_pos ((i_le (by omega) (by omega)).mpr (Nat.le_refl _))]
    exact ⟨N, rfl, m_pl.rfl', h39, hl⟩
  | succ r ih =>
    intro i f N hi hf hm h39 hl
    obtain ⟨f, rfl⟩ : ∃ g, f = g + 1 := ⟨f - 1, by omega⟩
    have hin : i < n := by omega
    unfold F_Model_lists_L13 F_Model_lists_B13
    rw [h39, if_neg (i_nle (by omega) (by omega) hin), zb_ok (m_in2L (kl := 12 + Int32.ofNat i) hm (12 + i) ht (by omega) (i_add 12 i)), if_pos ((i_inb (by omega)).mpr (by omega)), i_cl (by omega), show 13 + 40 * t + (12 + i) = 25 + 40 * t + i by omega, hr.2 i _ (g_l_get (by omega))]
    simp only [zl, i_succ]
    have p1 : m_pl m N (z_wI N (m + 13) i (Int32.ofNat (g_l rt i))) := m_pl.rfl'.w (by omega) (by omega)
    obtain ⟨N', e, p, h⟩ := ih (i + 1) f _ (by omega) (by omega) (p1.all hm) ((w_addr _ (by omega)).trans h39) (fun k hk => by
      by_cases hki : k = i
      · rw [hki, w_same]
      · rw [w_slot _ hki]
        exact hl k (by omega))
    exact ⟨N', e, p1.tr p, h⟩
theorem m_lists {m t : Nat} {s : q_S} {n : Nat} {rt pt : List Nat} {N : z_Mem} (ht : t < 4) (hT : q_taxiL s.1 s.2.1 t n rt pt) (hm : m_all m N s) : ∃ N', F_Model_lists m (Int32.ofNat t) N = some N' ∧ m_pl m N N' ∧ m_list N' m (g_l rt) rt.length := by
  unfold F_Model_lists
  have hn := hT.1.2.1
  rw [zb_ok (m_in2L (kl := 11) hm 11 ht (by omega) rfl), show 13 + 40 * t + 11 = 24 + 40 * t by omega, hT.1.1.1]
  have p1 : m_pl m N (z_wI N m 39 (Int32.ofNat rt.length)) := m_pl.rfl'.w39
  obtain ⟨N', e, p, h⟩ := m_lists_L (m := m) ht rfl hn hT.1.1 rt.length 0 10000 _ (by omega) (by omega) (p1.all hm) (w_same _ _ _ _) (fun k hk => by omega)
  simp only [zl]
  rw [i_0]
  exact ⟨N', e, p1.tr p, h⟩
theorem m_sum_L {m t n : Nat} {s : q_S} {l : Nat → Nat} {N : z_Mem} (hI : q_In s) (ht : t < q_T s.1) (hn : n ≤ 14) (hv : q_val s.2.1 l n) (hm : m_all m N s) (hl : m_list N m l n) : ∀ (r i f : Nat), i + r = n → r < f → s_con s.1 s.2.1 t l i → ∃ v, F_Model_sumOfWays_L12 m f (s_ways s.1 s.2.1 t l i) (Int32.ofNat (s_z s.2.1 t l i)) (Int32.ofNat i) N = some v ∧ (s_con s.1 s.2.1 t l n → v = s_ways s.1 s.2.1 t l n) ∧ (¬ s_con s.1 s.2.1 t l n → v = -1) := by
  intro r
  induction r with
  | zero =>
    intro i f hi hf hc
    obtain ⟨f, rfl⟩ : ∃ g, f = g + 1 := ⟨f - 1, by omega⟩
    have hi' : i = n := by omega
    subst hi'
    unfold F_Model_sumOfWays_L12 F_Model_sumOfWays_B12
    rw [hl.1, if_pos ((i_le (by omega) (by omega)).mpr (Nat.le_refl _))]
    exact ⟨_, rfl, fun _ => rfl, fun q => absurd hc q⟩
  | succ r ih =>
    intro i f hi hf hc
    obtain ⟨f, rfl⟩ : ∃ g, f = g + 1 := ⟨f - 1, by omega⟩
    have hin : i < n := by omega
    have hz : z_inb (Int32.ofNat i) 14 := (i_inb (by omega)).mpr (by omega)
    obtain ⟨ez, hz8⟩ := m_zoneOf hI hm (hv i hin)
    unfold F_Model_sumOfWays_L12 F_Model_sumOfWays_B12
    have ci : (Int32.ofNat i).toNatClampNeg = i := i_cl (by omega)
    simp only [ci]
    rw [hl.1, if_neg (i_nle (by omega) (by omega) hin), if_pos hz, hl.2 i hin, zb_ok ez, zb_ok (a_way_m hm (s_z_lt8 hI ht hv (by omega)) hz8)]
    have em : s.1 (8 * s_z s.2.1 t l i + q_zo s.2.1 (l i)) = s_m s.1 s.2.1 t l i := rfl
    rw [em]
    by_cases hm1 : s_m s.1 s.2.1 t l i = -1
    · rw [if_pos hm1]
      exact ⟨_, rfl, fun q => absurd hm1 (q i hin), fun _ => rfl⟩
    · rw [if_neg hm1, (s_m_w hI.1.2 (s_z_lt8 hI ht hv (by omega)) hz8 hm1).1]
      simp only [zl]
      rw [if_pos hz, zb_ok ez, i_succ]
      refine ih (i + 1) f (by omega) (by omega) fun j hj => ?_
      by_cases hji : j = i
      · subst hji
        exact hm1
      · exact hc j (by omega)
theorem m_sum {m t n : Nat} {s : q_S} {l : Nat → Nat} {N : z_Mem} (hI : q_In s) (ht : t < q_T s.1) (hn : n ≤ 14) (hv : q_val s.2.1 l n) (hm : m_all m N s) (hl : m_list N m l n) : ∃ v, F_Model_sumOfWays m (Int32.ofNat t) N = some v ∧ (s_con s.1 s.2.1 t l n → v = s_ways s.1 s.2.1 t l n) ∧ (¬ s_con s.1 s.2.1 t l n → v = -1) := by
  obtain ⟨⟨z, hz, e⟩, -⟩ := hI.2.1.2.2.2 t ht
  have hT := hI.I.taxis4
  obtain ⟨v, e1, h⟩ := m_sum_L hI ht hn hv hm hl n 0 10000 (by omega) (by omega) (fun j hj => by omega)
  refine ⟨v, ?_, h⟩
  unfold F_Model_sumOfWays
  rw [zb_ok (m_in2L (kl := 0) hm 0 (by omega) (by omega) rfl)]
  have e2 : Int32.ofNat (s_z s.2.1 t l 0) = s.2.1 (13 + 40 * t) := by
    show Int32.ofNat ((s.2.1 (13 + 40 * t)).toNatClampNeg) = _
    rw [e, i_cl (by omega)]
  rw [e2] at e1
  exact e1
