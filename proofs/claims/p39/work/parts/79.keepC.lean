/-! ===== the class's side (out of whole, by program) ===== -/
theorem c_stint {o : Nat} {N : z_Mem} {s : q_S} (hc : c_all o N s) (a b d e : Int32) : F_Plan_stintBehind o a b d e N = some (if d - b < s.2.1 9 then a + e else e) := by
  unfold F_Plan_stintBehind
  rw [zb_ok (a_ruleV (kl := 6) (k := 6) hc (by omega) rfl)]
  split <;> rfl
theorem c_change {o s' : Nat} {N : z_Mem} {s : q_S} (hI : q_In s) (hc : c_all o N s) (hs : s' < 2 * q_N s.2.1) : F_Plan_personsChange o (Int32.ofNat s') N = some (s_pc s.2.1 s') := by
  have hN := hI.I.rides24
  have hr : s' / 2 < q_N s.2.1 := by omega
  have x3 := (hc.2.1.2.2.2.2.2.2.2.2 _ hr).2.2.2.1
  have x13 := (hc.2.1.2.2.2.2.2.2.2.2 _ hr).2.2.2.2.2.2.2.2.2.2.2.2.2.1
  have hab := (hI.2.1.2.2.1 _ hr).1.2.2
  unfold F_Plan_personsChange s_pc
  rw [zb_ok (a_rideNumber (by omega) N), zb_ok (a_rideAt (M := N) (d := o + 5) (by omega)), zb_ok (a_isPickup (by omega) N)]
  by_cases h : s' % 2 = 1
  · rw [if_pos h, if_neg (by decide), if_pos h, x13, x3]
    rcases hab with h0 | h1
    · rw [if_pos h0, if_neg (by rw [h0]; decide)]
    · rw [if_neg (by rw [h1]; decide), if_pos h1]
  · rw [if_neg h, if_pos rfl, if_neg h, x3]
theorem c_inTime {o t i n : Nat} {N : z_Mem} {s : q_S} {l : Nat → Nat} {g : q_R} (hI : q_In s) (hc : c_all o N s) (hn : n ≤ 12) (hi : i < n) (hs : l i < 2 * q_N s.2.1) (hl : c_list N o l n) (ht : c_times N o s.1 s.2.1 t l 0 n) (hg : ∀ r, r < 24 → N.1 (o + 493) r = s_pk s.1 s.2.1 t l g i r) :
    ∃ b N', F_Plan_isInTime o (Int32.ofNat i) N = some (b, N') ∧ q_b b (s_tm s.1 s.2.1 t l g i) ∧ (∀ x, x ≠ o + 493 → N'.1 x = N.1 x) ∧ N'.2 = N.2 ∧ ∀ r, r < 24 → N'.1 (o + 493) r = s_pk s.1 s.2.1 t l g (i + 1) r := by
  have hN := hI.I.rides24
  have hr : l i / 2 < q_N s.2.1 := by omega
  obtain ⟨x0, x1, x2, x3, x4, x5, x6, x7, x8, x9, x10, -⟩ := hc.2.1.2.2.2.2.2.2.2.2 _ hr
  obtain ⟨t1, t2, t3, t4⟩ := ht i (by omega) hi
  have hz : z_inb (Int32.ofNat i) 12 := (i_inb (by omega)).mpr (by omega)
  have hz8 : z_inb (Int32.ofNat (l i / 2)) 24 := (i_inb (by omega)).mpr (by omega)
  have ci : (Int32.ofNat i).toNatClampNeg = i := i_cl (by omega)
  have cr : (Int32.ofNat (l i / 2)).toNatClampNeg = l i / 2 := i_cl (by omega)
  unfold F_Plan_isInTime
  rw [zb_ok (a_hasPlace hl.1 hn hi), if_neg (by decide), if_pos hz]
  simp only [ci]
  rw [hl.2 i hi, zb_ok (a_rideNumber (by omega) N)]
  unfold F_Plan_isInTime_J21
  rw [if_neg (i_nn (by omega)), if_pos (i_ltN24 (by omega)), zb_ok (a_rideAt (M := N) (d := o + 5) (by omega)), if_pos hz]
  simp only [ci, cr]
  rw [hl.2 i hi, zb_ok (a_isPickup (by omega) N)]
  by_cases ho : l i % 2 = 1
  · rw [if_pos ho, if_neg (by decide), if_pos hz, if_pos hz8]
    simp only [zl]
    rw [if_pos hz, w_addr _ (show o + 5 + 16 + l i / 2 ≠ o + 493 by omega), w_addr _ (show o + 491 ≠ o + 493 by omega), x5, t3, t4]
    have htm : s_tm s.1 s.2.1 t l g i ↔ ¬ s.2.1 (178 + 17 * (l i / 2)) < s_a s.1 s.2.1 t l i := by
      unfold s_tm
      rw [if_pos ho]
    have hk : ∀ r, r < 24 → (z_wI N (o + 493) (l i / 2) (s_f s.1 s.2.1 t l (i + 1))).1 (o + 493) r = s_pk s.1 s.2.1 t l g (i + 1) r := fun r hr' => by
      show _ = (if l i = 2 * r + 1 then s_f s.1 s.2.1 t l (i + 1) else s_pk s.1 s.2.1 t l g i r)
      by_cases hrr : r = l i / 2
      · rw [hrr, w_same, if_pos (by omega)]
      · rw [w_slot _ hrr, if_neg (by omega), hg r hr']
    by_cases hlt : s.2.1 (178 + 17 * (l i / 2)) < s_a s.1 s.2.1 t l i
    · rw [if_pos hlt]
      exact ⟨0, _, rfl, Or.inr ⟨rfl, fun q => htm.mp q hlt⟩, fun x hx => funext fun k => w_addr k hx, rfl, hk⟩
    · rw [if_neg hlt]
      exact ⟨1, _, rfl, Or.inl ⟨rfl, htm.mpr hlt⟩, fun x hx => funext fun k => w_addr k hx, rfl, hk⟩
  · rw [if_neg ho, if_pos rfl, x0, x10]
    have hk : ∀ r, r < 24 → N.1 (o + 493) r = s_pk s.1 s.2.1 t l g (i + 1) r := fun r hr' => by
      show _ = (if l i = 2 * r + 1 then s_f s.1 s.2.1 t l (i + 1) else s_pk s.1 s.2.1 t l g i r)
      rw [if_neg (by omega), hg r hr']
    have h107 : ∀ y, y = s_since s.1 s.2.1 t l g i (l i / 2) → ∃ b, F_Plan_isInTime_J107 o (Int32.ofNat i) (o + 5 + 16 + l i / 2) y N = some (b, N) ∧ q_b b (s_tm s.1 s.2.1 t l g i) := fun y hy => by
      have htm : s_tm s.1 s.2.1 t l g i ↔ ¬ y + s_mo s.1 s.2.1 (l i / 2) < s_a s.1 s.2.1 t l i := by
        unfold s_tm
        rw [if_neg ho, hy]
      unfold F_Plan_isInTime_J107
      simp only [ci]
      have x8' : N.1 (o + 5 + 16 + l i / 2) 8 = s_mo s.1 s.2.1 (l i / 2) := x8
      rw [if_pos hz, x8', t3]
      by_cases hlt : y + s_mo s.1 s.2.1 (l i / 2) < s_a s.1 s.2.1 t l i
      · rw [if_pos hlt]
        exact ⟨0, rfl, Or.inr ⟨rfl, fun q => htm.mp q hlt⟩⟩
      · rw [if_neg hlt]
        exact ⟨1, rfl, Or.inl ⟨rfl, htm.mpr hlt⟩⟩
    by_cases h2 : s.2.1 (173 + 17 * (l i / 2)) = 2
    · rw [if_pos h2]
      obtain ⟨b, e, hb⟩ := h107 (s.2.1 (181 + 17 * (l i / 2))) (by unfold s_since; rw [if_pos h2])
      exact ⟨b, N, e, hb, fun _ _ => rfl, rfl, hk⟩
    · rw [if_neg h2, if_pos hz8]
      obtain ⟨b, e, hb⟩ := h107 (N.1 (o + 493) (l i / 2)) (by unfold s_since; rw [if_neg h2, hg _ (by omega)])
      exact ⟨b, N, e, hb, fun _ _ => rfl, rfl, hk⟩
theorem c_keeps_L {o t n : Nat} {s : q_S} {l : Nat → Nat} {g : q_R} {p0 : Int32} (hI : q_In s) (ht : t < q_T s.1) (hn : n ≤ 12) (hv : q_val s.2.1 l n) : ∀ (r i f : Nat) (N : z_Mem), i + r = n → r < f → c_all o N s → c_list N o l n → c_times N o s.1 s.2.1 t l 0 n → (∀ r, r < 24 → N.1 (o + 493) r = s_pk s.1 s.2.1 t l g i r) →
    ∃ b N', F_Plan_keepsLimits_L58 o f (o + 5 + 4 + 3 * t) (s_p s.2.1 l p0 i) (s_st s.1 s.2.1 t l i) (s_f s.1 s.2.1 t l i) (Int32.ofNat i) N = some (b, N') ∧ q_b b (∀ k, i ≤ k → k < n → s_k1 s.1 s.2.1 t l p0 g k) ∧ (∀ x, x ≠ o + 493 → N'.1 x = N.1 x) ∧ N'.2 = N.2 := by
  intro r
  induction r with
  | zero =>
    intro i f N hi hf hc hl hts hg
    obtain ⟨f, rfl⟩ : ∃ g, f = g + 1 := ⟨f - 1, by omega⟩
    have hi' : i = n := by omega
    subst hi'
    unfold F_Plan_keepsLimits_L58 F_Plan_keepsLimits_B58
    rw [hl.1, if_pos ((i_le (by omega) (by omega)).mpr (Nat.le_refl _))]
    exact ⟨1, N, rfl, Or.inl ⟨rfl, fun k h1 h2 => by omega⟩, fun _ _ => rfl, rfl⟩
  | succ r ih =>
    intro i f N hi hf hc hl hts hg
    obtain ⟨f, rfl⟩ : ∃ g, f = g + 1 := ⟨f - 1, by omega⟩
    have hin : i < n := by omega
    have hz : z_inb (Int32.ofNat i) 12 := (i_inb (by omega)).mpr (by omega)
    have ci : (Int32.ofNat i).toNatClampNeg = i := i_cl (by omega)
    obtain ⟨t1, t2, t3, t4⟩ := hts i (by omega) hin
    have y0 := (hc.2.1.2.2.2.2.2.2.2.1 t ht).1
    unfold F_Plan_keepsLimits_L58 F_Plan_keepsLimits_B58
    simp only [ci]
    rw [hl.1, if_neg (i_nle (by omega) (by omega) hin), if_neg (i_nle12 (by omega)), if_pos hz, if_pos hz, t2, t1, zb_ok (c_stint hc _ _ _ _), y0]
    have est : (if s_o s.1 s.2.1 t l i - s_f s.1 s.2.1 t l i < s.2.1 9 then s_st s.1 s.2.1 t l i + s_w s.1 s.2.1 t l i else s_w s.1 s.2.1 t l i) = s_st s.1 s.2.1 t l (i + 1) := rfl
    rw [est]
    by_cases q1 : s.1 (70 + t) < s_p s.2.1 l p0 i
    · rw [if_pos q1]
      exact ⟨0, N, rfl, Or.inr ⟨rfl, fun q => (q i (by omega) hin).1 q1⟩, fun _ _ => rfl, rfl⟩
    · rw [if_neg q1, zb_ok (a_ruleV (kl := 5) (k := 5) hc (by omega) rfl)]
      by_cases q2 : s.2.1 (3 + 5) < s_st s.1 s.2.1 t l (i + 1)
      · rw [if_pos q2]
        exact ⟨0, N, rfl, Or.inr ⟨rfl, fun q => (q i (by omega) hin).2.1 q2⟩, fun _ _ => rfl, rfl⟩
      · rw [if_neg q2]
        obtain ⟨b, N1, e1, hb, rd, h2, hg1⟩ := c_inTime (t := t) hI hc hn hin (hv i hin) hl hts hg
        rw [zb2_ok e1]
        have p1 : c_pl o N N1 := ⟨fun x hx => rd x (by omega), h2⟩
        rcases hb with ⟨hb1, hP⟩ | ⟨hb0, hP⟩
        · rw [if_neg (show ¬ b = 0 by rw [hb1]; decide), if_pos hz, rd (o + 488) (by omega), hl.2 i hin, zb_ok (c_change hI (p1.all hc) (hv i hin))]
          simp only [zl]
          rw [if_pos hz, rd (o + 492) (by omega), t4, i_succ]
          obtain ⟨b', N', e2, hb', rd', h2'⟩ := ih (i + 1) f N1 (by omega) (by omega) (p1.all hc) ⟨(congrFun (rd _ (by omega)) 3).trans hl.1, fun k hk => (congrFun (rd _ (by omega)) k).trans (hl.2 k hk)⟩ (fun k h1 h2 => by
            rw [rd _ (by omega), rd _ (by omega), rd _ (by omega), rd _ (by omega)]
            exact hts k h1 h2) hg1
          refine ⟨b', N', e2, hb'.of ⟨fun q k h1 h2 => ?_, fun q k h1 h2 => q k (by omega) h2⟩, fun x hx => (rd' x hx).trans (rd x hx), h2'.trans h2⟩
          by_cases hki : k = i
          · subst hki
            exact ⟨q1, q2, hP⟩
          · exact q k (by omega) h2
        · rw [if_pos hb0]
          exact ⟨0, N1, rfl, Or.inr ⟨rfl, fun q => hP (q i (by omega) hin).2.2⟩, rd, h2⟩
theorem c_keeps {o t n : Nat} {s : q_S} {l : Nat → Nat} {N : z_Mem} (hI : q_In s) (ht : t < q_T s.1) (hn : n ≤ 12) (hv : q_val s.2.1 l n) (hc : c_all o N s) (hp : c_plan N o s.1 s.2.1 t l n) : ∃ b N', F_Plan_keepsLimits o (o + 5 + 4 + 3 * t) N = some (b, N') ∧ q_b b (s_ok s.1 s.2.1 t l (y_per s.2.1 t) (N.1 (o + 493)) n) ∧ (∀ x, x ≠ o + 493 → N'.1 x = N.1 x) ∧ N'.2 = N.2 := by
  obtain ⟨hl, hw, hb, hts⟩ := hp
  have hT := (hc.2.1.2.2.2.2.2.2.2.1 t ht)
  unfold F_Plan_keepsLimits
  rw [hl.1]
  by_cases h0 : n = 0
  · rw [if_pos (show Int32.ofNat n = 0 by rw [h0]; rfl)]
    exact ⟨1, N, rfl, Or.inl ⟨rfl, fun j hj => by omega, Or.inl h0, fun k hk => by omega⟩, fun _ _ => rfl, rfl⟩
  · rw [if_neg (i_ne0 (by omega) h0)]
    rcases hb with ⟨hb1, hP⟩ | ⟨hb0, hP⟩
    · have e1 : Int32.ofNat n - 1 = Int32.ofNat (n - 1) := i_sub (b := 1) (by omega)
      have ed : F_Plan_doneAt o (Int32.ofNat (n - 1)) N = some (s_f s.1 s.2.1 t l n) := by
        have ci : (Int32.ofNat (n - 1)).toNatClampNeg = n - 1 := i_cl (by omega)
        unfold F_Plan_doneAt
        have := (hts (n - 1) (by omega) (by omega)).2.2.2
        rw [show n - 1 + 1 = n by omega] at this
        simp only [ci]
        rw [zb_ok (a_hasPlace hl.1 hn (by omega)), if_neg (by decide), if_pos ((i_inb (by omega)).mpr (by omega)), this]
      rw [hb1, if_neg (by decide), e1, zb_ok ed, hT.2.2.2.2.1]
      by_cases hle : s_f s.1 s.2.1 t l n ≤ s.2.1 (17 + 40 * t)
      · rw [if_pos hle, zb_ok (a_per_c hc.2.1 hT (hI.T ht)), hT.2.2.2.2.2.1, hT.2.2.1]
        simp only [zl]
        obtain ⟨b, N', e2, hb', h⟩ := c_keeps_L (o := o) (g := N.1 (o + 493)) (p0 := y_per s.2.1 t) hI ht hn hv n 0 10000 N (by omega) (by omega) hc hl hts (fun _ _ => rfl)
        refine ⟨b, N', e2, hb'.of ⟨fun q => ⟨hP, Or.inr ?_, fun k hk => q k (by omega) hk⟩, fun q k _ hk => q.2.2 k hk⟩, h⟩
        rw [Int32.le_iff_toInt_le] at hle
        rw [Int32.lt_iff_toInt_lt]
        omega
      · rw [if_neg hle]
        refine ⟨0, N, rfl, Or.inr ⟨rfl, fun q => ?_⟩, fun _ _ => rfl, rfl⟩
        rcases q.2.1 with q | q
        · exact h0 q
        · rw [Int32.le_iff_toInt_le] at hle
          rw [Int32.lt_iff_toInt_lt] at q
          omega
    · rw [hb0, if_pos rfl]
      exact ⟨0, N, rfl, Or.inr ⟨rfl, fun q => hP q.1⟩, fun _ _ => rfl, rfl⟩
