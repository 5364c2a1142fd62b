/-! ===== the class's side (out of whole, by program) ===== -/
def q_b (x : Int32) (P : Prop) : Prop := (x = 1 ∧ P) ∨ (x = 0 ∧ ¬ P)
def q_val (A : q_R) (l : Nat → Nat) (n : Nat) : Prop := ∀ k, k < n → l k < 2 * q_N A
/-- the arrays of the plan from a place on -/
def c_times (N : z_Mem) (o : Nat) (c A : q_R) (t : Nat) (l : Nat → Nat) (i n : Nat) : Prop := ∀ k, i ≤ k → k < n → N.1 (o + 489) k = s_w c A t l k ∧ N.1 (o + 490) k = s_o c A t l k ∧ N.1 (o + 491) k = s_a c A t l k ∧ N.1 (o + 492) k = s_f c A t l (k + 1)
theorem s_z_lt8 {s : q_S} (hI : q_In s) {t : Nat} (ht : t < q_T s.1) {l : Nat → Nat} {n : Nat} (hv : q_val s.2.1 l n) {k : Nat} (hk : k ≤ n) : s_z s.2.1 t l k < 8 := by
  cases k with
  | zero =>
    obtain ⟨⟨z, hz, e⟩, -⟩ := hI.2.1.2.2.2 t ht
    show (s.2.1 (13 + 40 * t)).toNatClampNeg < 8
    rw [e, i_cl (by omega)]
    exact hz
  | succ k =>
    have hs := hv k (by omega)
    have hN := hI.I.rides24
    obtain ⟨⟨a, ha, ea⟩, ⟨b, hb, eb⟩, -⟩ := (hI.2.1.2.2.1 (l k / 2) (by omega)).1
    show q_zo s.2.1 (l k) < 8
    unfold q_zo
    by_cases h : l k % 2 = 1
    · rw [if_pos h, ea, i_cl (by omega)]
      exact ha
    · rw [if_neg h, eb, i_cl (by omega)]
      exact hb
theorem a_times_L {o t n : Nat} {s : q_S} {l : Nat → Nat} (hI : q_In s) (ht : t < q_T s.1) (hn : n ≤ 12) (hv : q_val s.2.1 l n) : ∀ (r i f : Nat) (N : z_Mem), i + r = n → r < f → c_all o N s → c_list N o l n → N.1 (o + 487) 0 = s_ways s.1 s.2.1 t l i → q_b (N.1 (o + 487) 4) (s_con s.1 s.2.1 t l i) →
    ∃ N', F_Plan_planTimes_L23 o f (o + 5 + 4 + 3 * t) (Int32.ofNat (s_z s.2.1 t l i)) (s_f s.1 s.2.1 t l i) (Int32.ofNat i) N = some N' ∧ c_pl o N N' ∧ c_list N' o l n ∧ N'.1 (o + 487) 0 = s_ways s.1 s.2.1 t l n ∧ q_b (N'.1 (o + 487) 4) (s_con s.1 s.2.1 t l n) ∧ c_times N' o s.1 s.2.1 t l i n ∧ (∀ k, k < i → ∀ x, o + 489 ≤ x → x < o + 493 → N'.1 x k = N.1 x k) ∧ N'.1 (o + 493) = N.1 (o + 493) := by
  intro r
  induction r with
  | zero =>
    intro i f N hi hf hc hl hw hb
    obtain ⟨f, rfl⟩ : ∃ g, f = g + 1 := ⟨f - 1, by omega⟩
    have hi' : i = n := by omega
    subst hi'
    unfold F_Plan_planTimes_L23 F_Plan_planTimes_B23
    rw [hl.1, if_pos ((i_le (by omega) (by omega)).mpr (Nat.le_refl _))]
    exact ⟨N, rfl, c_pl.rfl', hl, hw, hb, fun k h1 h2 => by omega, fun _ _ _ _ _ => rfl, rfl⟩
  | succ r ih =>
    intro i f N hi hf hc hl hw hb
    obtain ⟨f, rfl⟩ : ∃ g, f = g + 1 := ⟨f - 1, by omega⟩
    have hN := hI.I.rides24
    have hin : i < n := by omega
    have hs := hv i hin
    have hz : z_inb (Int32.ofNat i) 12 := (i_inb (by omega)).mpr (by omega)
    have ci : (Int32.ofNat i).toNatClampNeg = i := i_cl (by omega)
    obtain ⟨ez, hz8⟩ := a_zoneStop hI hc hs
    have eB : ∃ v, q_b v (s_con s.1 s.2.1 t l (i + 1)) ∧ F_Plan_planTimes_B23 o (F_Plan_planTimes_L23 o f) (o + 5 + 4 + 3 * t) (Int32.ofNat (s_z s.2.1 t l i)) (s_f s.1 s.2.1 t l i) (Int32.ofNat i) N = F_Plan_planTimes_J86 o (F_Plan_planTimes_L23 o f) (o + 5 + 4 + 3 * t) (s_f s.1 s.2.1 t l i) (Int32.ofNat i) (Int32.ofNat (q_zo s.2.1 (l i))) (s_m s.1 s.2.1 t l i) v N := by
      unfold F_Plan_planTimes_B23 F_Plan_planTimes_J85
      rw [hl.1, if_neg (i_nle (by omega) (by omega) hin), if_neg (i_nle12 (by omega)), if_pos hz, ci, hl.2 i hin, zb_ok ez, zb_ok (a_way_c hc (s_z_lt8 hI ht hv (by omega)) hz8)]
      have em : s.1 (8 * s_z s.2.1 t l i + q_zo s.2.1 (l i)) = s_m s.1 s.2.1 t l i := rfl
      rw [em]
      rcases hb with ⟨hb, hp⟩ | ⟨hb, hp⟩
      · rw [hb, if_neg (by decide)]
        by_cases hm : s_m s.1 s.2.1 t l i = -1
        · rw [if_pos hm]
          exact ⟨0, Or.inr ⟨rfl, fun q => q i (by omega) hm⟩, rfl⟩
        · rw [if_neg hm]
          refine ⟨1, Or.inl ⟨rfl, fun j hj => ?_⟩, rfl⟩
          by_cases hji : j = i
          · subst hji
            exact hm
          · exact hp j (by omega)
      · rw [hb, if_pos rfl]
        exact ⟨0, Or.inr ⟨rfl, fun q => hp fun j hj => q j (by omega)⟩, rfl⟩
    obtain ⟨v, hv1, eB⟩ := eB
    unfold F_Plan_planTimes_L23
    rw [eB]
    unfold F_Plan_planTimes_J86
    have hv01 : v = 0 ∨ v = 1 := by
      rcases hv1 with h | h
      · exact Or.inr h.1
      · exact Or.inl h.1
    have ew : (if s_m s.1 s.2.1 t l i < 0 then (0 : Int32) else s_m s.1 s.2.1 t l i) = s_w s.1 s.2.1 t l i := rfl
    rw [if_pos hv01, ew]
    simp only [zl, if_pos hz, ci]
    generalize hN2 : z_wI (z_wI N (o + 487) 4 v) (o + 489) i (s_w s.1 s.2.1 t l i) = N2
    have p2 : c_pl o N N2 := by
      rw [← hN2]
      exact (c_pl.rfl'.w (by omega) (by omega)).w (by omega) (by omega)
    have l2 : c_list N2 o l n := by
      rw [← hN2]
      exact ⟨(w_addr _ (by omega)).trans ((w_slot _ (by decide)).trans hl.1), fun k hk => (w_addr _ (by omega)).trans ((w_addr _ (by omega)).trans (hl.2 k hk))⟩
    have w2 : N2.1 (o + 489) i = s_w s.1 s.2.1 t l i := by
      rw [← hN2]
      exact w_same _ _ _ _
    rw [zb_ok (a_leaving_c hI (p2.all hc) ht l2 hn hin hs w2)]
    have eo : s_lv s.2.1 t i (l i) (s_w s.1 s.2.1 t l i) (s_f s.1 s.2.1 t l i) = s_o s.1 s.2.1 t l i := rfl
    rw [eo, w_same, w_addr i (show o + 489 ≠ o + 490 by omega), w2]
    have ea : s_o s.1 s.2.1 t l i + s_w s.1 s.2.1 t l i = s_a s.1 s.2.1 t l i := rfl
    rw [ea]
    generalize hN4 : z_wI (z_wI N2 (o + 490) i (s_o s.1 s.2.1 t l i)) (o + 491) i (s_a s.1 s.2.1 t l i) = N4
    have p4 : c_pl o N2 N4 := by
      rw [← hN4]
      exact (c_pl.rfl'.w (by omega) (by omega)).w (by omega) (by omega)
    have l4 : N4.1 (o + 488) i = Int32.ofNat (l i) := by
      rw [← hN4]
      exact (w_addr _ (by omega)).trans ((w_addr _ (by omega)).trans (l2.2 i hin))
    have a4 : N4.1 (o + 491) i = s_a s.1 s.2.1 t l i := by
      rw [← hN4]
      exact w_same _ _ _ _
    rw [l4, zb_ok (a_stay_c hI ((p2.tr p4).all hc) hs), a4]
    have ef : s_a s.1 s.2.1 t l i + s_stay s.2.1 (l i) = s_f s.1 s.2.1 t l (i + 1) := rfl
    rw [ef]
    have e1 : (z_wI N4 (o + 492) i (s_f s.1 s.2.1 t l (i + 1))).1 (o + 489) i = s_w s.1 s.2.1 t l i := by
      rw [w_addr _ (by omega), ← hN4, w_addr _ (by omega), w_addr _ (by omega), w2]
    have e2 : (z_wI N4 (o + 492) i (s_f s.1 s.2.1 t l (i + 1))).1 (o + 487) 0 = s_ways s.1 s.2.1 t l i := by
      rw [w_addr _ (by omega), ← hN4, w_addr _ (by omega), w_addr _ (by omega), ← hN2, w_addr _ (by omega), w_slot _ (by decide), hw]
    rw [e1, e2, w_addr i (show o + 492 ≠ o + 487 by omega), w_same, i_succ]
    have e3 : s_ways s.1 s.2.1 t l i + s_w s.1 s.2.1 t l i = s_ways s.1 s.2.1 t l (i + 1) := rfl
    rw [e3]
    generalize hN6 : z_wI (z_wI N4 (o + 492) i (s_f s.1 s.2.1 t l (i + 1))) (o + 487) 0 (s_ways s.1 s.2.1 t l (i + 1)) = N6
    have rd : ∀ x k, x ≠ o + 487 → (x ≠ o + 489 ∧ x ≠ o + 490 ∧ x ≠ o + 491 ∧ x ≠ o + 492 ∨ k ≠ i) → N6.1 x k = N.1 x k := fun x k hx h => by
      rw [← hN6, w_addr _ hx, ← hN4, ← hN2]
      rcases h with ⟨h1, h2, h3, h4⟩ | h
      · rw [w_addr _ h4, w_addr _ h3, w_addr _ h2, w_addr _ h1, w_addr _ hx]
      · rw [w_slot _ h, w_slot _ h, w_slot _ h, w_slot _ h, w_addr _ hx]
    have p6 : c_pl o N N6 := by
      rw [← hN6]
      exact ((p2.tr p4).w (by omega) (by omega)).w (by omega) (by omega)
    have l6 : c_list N6 o l n := by
      refine ⟨?_, fun k hk => (rd _ k (by omega) (Or.inl (by omega))).trans (hl.2 k hk)⟩
      rw [← hN6, w_slot _ (by decide), w_addr _ (by omega), ← hN4, w_addr _ (by omega), w_addr _ (by omega)]
      exact l2.1
    have b6 : N6.1 (o + 487) 4 = v := by
      rw [← hN6, w_slot _ (by decide), w_addr _ (by omega), ← hN4, w_addr _ (by omega), w_addr _ (by omega), ← hN2, w_addr _ (by omega), w_same]
    obtain ⟨N', e, g1, g2, g3, g4, g5, g6, g7⟩ := ih (i + 1) f N6 (by omega) (by omega) (p6.all hc) l6 (by rw [← hN6]; exact w_same _ _ _ _) (by rw [b6]; exact hv1)
    refine ⟨N', e, p6.tr g1, g2, g3, g4, fun k h1 h2 => ?_, fun k hk x h1 h2 => (g6 k (by omega) x h1 h2).trans (rd x k (by omega) (Or.inr (by omega))), g7.trans (funext fun k => rd _ k (by omega) (Or.inl (by omega)))⟩
    by_cases hki : k = i
    · subst hki
      rw [g6 k (by omega) _ (by omega) (by omega), g6 k (by omega) _ (by omega) (by omega), g6 k (by omega) _ (by omega) (by omega), g6 k (by omega) _ (by omega) (by omega), ← hN6]
      refine ⟨(w_addr _ (by omega)).trans e1, ?_, ?_, (w_addr _ (by omega)).trans (w_same _ _ _ _)⟩
      · rw [w_addr _ (by omega), w_addr _ (by omega), ← hN4, w_addr _ (by omega), w_same]
      · rw [w_addr _ (by omega), w_addr _ (by omega), a4]
    · exact g5 k (by omega) h2
/-- what the plan holds of a list -/
def c_plan (N : z_Mem) (o : Nat) (c A : q_R) (t : Nat) (l : Nat → Nat) (n : Nat) : Prop := c_list N o l n ∧ N.1 (o + 487) 0 = s_ways c A t l n ∧ q_b (N.1 (o + 487) 4) (s_con c A t l n) ∧ c_times N o c A t l 0 n
theorem a_times {o t n : Nat} {s : q_S} {l : Nat → Nat} {N : z_Mem} (hI : q_In s) (ht : t < q_T s.1) (hn : n ≤ 12) (hv : q_val s.2.1 l n) (hc : c_all o N s) (hl : c_list N o l n) : ∃ N', F_Plan_planTimes o (o + 5 + 4 + 3 * t) N = some N' ∧ c_pl o N N' ∧ c_plan N' o s.1 s.2.1 t l n := by
  obtain ⟨⟨z, hz, e⟩, -⟩ := hI.2.1.2.2.2 t ht
  obtain ⟨x0, x1, x2, -⟩ := hc.2.1.2.2.2.2.2.2.2.1 t ht
  have p1 : c_pl o N (z_wI (z_wI N (o + 487) 0 0) (o + 487) 4 1) := (c_pl.rfl'.w (by omega) (by omega)).w (by omega) (by omega)
  obtain ⟨N', e', g1, g2, g3, g4, g5, g6, g7⟩ := a_times_L hI ht hn hv n 0 10000 (z_wI (z_wI N (o + 487) 0 0) (o + 487) 4 1) (by omega) (by omega) (p1.all hc) ⟨(w_slot _ (by decide)).trans ((w_slot _ (by decide)).trans hl.1), fun k hk => (w_addr _ (by omega)).trans ((w_addr _ (by omega)).trans (hl.2 k hk))⟩ ((w_slot _ (by decide)).trans (w_same _ _ _ _)) (by rw [w_same]; exact Or.inl ⟨rfl, fun j hj => by omega⟩)
  refine ⟨N', ?_, p1.tr g1, g2, g3, g4, g5⟩
  unfold F_Plan_planTimes
  rw [x1, x2]
  simp only [zl]
  have e1 : Int32.ofNat (s_z s.2.1 t l 0) = s.2.1 (13 + 40 * t) := by
    show Int32.ofNat ((s.2.1 (13 + 40 * t)).toNatClampNeg) = _
    rw [e, i_cl (by omega)]
  rw [e1] at e'
  exact e'
theorem a_route_L {o t n : Nat} {s : q_S} {rt : List Nat} (hI : q_In s) (ht : t < q_T s.1) (hn : rt.length = n) (hn12 : n ≤ 12) (hr : q_li s.2.1 (24 + 40 * t) (25 + 40 * t) rt) : ∀ (r i f : Nat) (N : z_Mem), i + r = n → r < f → c_all o N s → c_list N o (g_l rt) i → ∃ N', F_Plan_planRoute_L7 o f (o + 5 + 4 + 3 * t) (Int32.ofNat i) N = (zb (F_Plan_planTimes o (o + 5 + 4 + 3 * t) N') fun M2 => some M2) ∧ c_pl o N N' ∧ c_list N' o (g_l rt) n := by
  intro r
  induction r with
  | zero =>
    intro i f N hi hf hc hl
    obtain ⟨f, rfl⟩ : ∃ g, f = g + 1 := ⟨f - 1, by omega⟩
    have hi' : i = n := by omega
    subst hi'
    have x7 := (hc.2.1.2.2.2.2.2.2.2.1 t ht).2.2.2.2.2.2.2.1
    unfold F_Plan_planRoute_L7 F_Plan_planRoute_B7
    rw [x7, hr.1, hn, if_pos ((i_le (by omega) (by omega)).mpr (Nat.le_refl _))]
    exact ⟨N, rfl, c_pl.rfl', hl⟩
  | succ r ih =>
    intro i f N hi hf hc hl
    obtain ⟨f, rfl⟩ : ∃ g, f = g + 1 := ⟨f - 1, by omega⟩
    have hin : i < n := by omega
    obtain ⟨x0, x1, x2, x3, x4, x5, x6, x7, x8, x11, x12, x13, x14, x15, x16, xr, xa⟩ := hc.2.1.2.2.2.2.2.2.2.1 t ht
    have h7 := x7.trans (hr.1.trans (congrArg Int32.ofNat hn))
    have hv : N.1 (o + 5 + 4 + 3 * t + 1) i = Int32.ofNat (g_l rt i) := (xr i (by omega) (by rw [hr.1, hn]; exact (i_lt (by omega) (by omega)).mpr hin)).trans (hr.2 i _ (g_l_get (by omega)))
    unfold F_Plan_planRoute_L7 F_Plan_planRoute_B7
    rw [h7, if_neg (i_nle (by omega) (by omega) hin), zb_ok (a_stopAt h7 (by omega) hin), hv]
    obtain ⟨N1, e1, l1, p1⟩ := a_append (o := o) (N := N) (l := g_l rt) (n := i) (by omega) hl
    rw [zb_ok e1]
    simp only [zl, i_succ]
    obtain ⟨N', e, p, l'⟩ := ih (i + 1) f N1 (by omega) (by omega) (p1.all hc) l1
    exact ⟨N', e, p1.tr p, l'⟩
theorem a_route {o t : Nat} {s : q_S} {n : Nat} {rt pt : List Nat} {N : z_Mem} (hI : q_In s) (ht : t < q_T s.1) (hT : q_taxiL s.1 s.2.1 t n rt pt) (hc : c_all o N s) : ∃ N', F_Plan_planRoute o (o + 5 + 4 + 3 * t) N = some N' ∧ c_pl o N N' ∧ c_plan N' o s.1 s.2.1 t (g_l rt) rt.length := by
  have p1 : c_pl o N (z_wI N (o + 487) 3 0) := c_pl.rfl'.w (by omega) (by omega)
  obtain ⟨N1, e1, p2, l1⟩ := a_route_L (o := o) hI ht rfl hT.1.2.1 hT.1.1 rt.length 0 10000 (z_wI N (o + 487) 3 0) (by omega) (by have := hT.1.2.1; omega) (p1.all hc) ⟨w_same _ _ _ _, fun k hk => by omega⟩
  obtain ⟨N', e2, p3, h⟩ := a_times (o := o) (N := N1) hI ht hT.1.2.1 (fun k hk => hT.1.2.2.1 _ (g_l_mem hk)) ((p1.tr p2).all hc) l1
  refine ⟨N', ?_, (p1.tr p2).tr p3, h⟩
  unfold F_Plan_planRoute
  simp only [zl]
  rw [i_0]
  exact e1.trans (by rw [zb_ok e2])
