/-! ===== PURE: minutes pass ===== -/
theorem i_S.same {c c' A A' : q_R} {t : Nat} (h : i_S c A t) (hc : c' 67 = c 67) (hN : q_N A' = q_N A) (h7 : A' 7 = A 7) (hT : ∀ j, j = 18 ∨ j = 19 ∨ j = 23 → A' (j + 40 * t) = A (j + 40 * t)) (hR : ∀ r, r < q_N A → A' (173 + 17 * r) = A (173 + 17 * r) ∧ A' (180 + 17 * r) = A (180 + 17 * r) ∧ A' (183 + 17 * r) = A (183 + 17 * r)) : i_S c' A' t := by
  have eP : k_sum (i_P A' t) (q_N A) = k_sum (i_P A t) (q_N A) := k_sum_eq _ (fun r hr => by
    unfold i_P
    rw [(hR r hr).2.1, (hR r hr).2.2])
  have eF : k_sum (i_F (c 67) A' t) (q_N A) = k_sum (i_F (c 67) A t) (q_N A) := k_sum_eq _ (fun r hr => by
    unfold i_F
    rw [(hR r hr).2.1, (hR r hr).1])
  have eE : k_sum (i_E A' t) (q_N A) = k_sum (i_E A t) (q_N A) := k_sum_eq _ (fun r hr => by
    unfold i_E
    rw [(hR r hr).2.1, (hR r hr).1, h7])
  unfold i_S
  rw [hN, hc, eP, eF, eE, hT 18 (by omega), hT 19 (by omega), hT 23 (by omega)]
  exact h
theorem i_R.same {A A' : q_R} {r : Nat} (h : i_R A r) (h14 : ∀ u, u < 4 → A' (14 + 40 * u) = A (14 + 40 * u)) (hR : ∀ j, j = 173 ∨ j = 177 ∨ (180 ≤ j ∧ j < 184) → A' (j + 17 * r) = A (j + 17 * r)) : i_R A' r := by
  obtain ⟨g1, g2, g3, g4, g5, g6⟩ := h
  unfold i_R
  rw [hR 177 (by omega), hR 173 (by omega), hR 180 (by omega), hR 181 (by omega), hR 182 (by omega), hR 183 (by omega)]
  refine ⟨g1, g2, g3, g4, fun q => ?_, g6⟩
  obtain ⟨p, t, f, k1, q1, q2, q3, q4, q5⟩ := g5 q
  exact ⟨p, t, f, k1, q1, q2, (h14 t k1).trans q3, q4, q5⟩
theorem i_D.same {A A' : q_R} {n t : Nat} (h : i_D n A t) (hT : ∀ j, 20 ≤ j → j < 23 → A' (j + 40 * t) = A (j + 40 * t)) : i_D n A' t := by
  unfold i_D
  rw [hT 20 (by omega) (by omega), hT 21 (by omega) (by omega), hT 22 (by omega) (by omega)]
  exact h
theorem i_W.same {A A' : q_R} {t : Nat} (h : i_W A t) (h14 : A' (14 + 40 * t) = A (14 + 40 * t)) (h16 : A' (16 + 40 * t) = A (16 + 40 * t)) : i_W A' t := by
  unfold i_W
  rw [h14, h16]
  exact h
theorem i_X.more {s : q_S} {w n w' n' : Nat} (h : i_X w n s) (hw : w ≤ w') (hn : n ≤ n') : i_X w' n' s := by
  obtain ⟨⟨v, hv, e⟩, h4, h6, hR, hT⟩ := h
  refine ⟨⟨v, by omega, e⟩, h4, h6, hR, fun t ht => ?_⟩
  obtain ⟨hs, ⟨x, y, z, a, b, c, d⟩, hw'⟩ := hT t ht
  exact ⟨hs, ⟨x, y, z, a, b, Nat.le_trans c (Nat.mul_le_mul_left _ hn), d⟩, hw'⟩
theorem i_left {s : q_S} {w n t m τ : Nat} {v : Int32} {rt pt : List Nat} (hI : q_Inv s) (h : i_X w n s) (hw : w ≤ 2 ^ 19) (hτ : τ ≤ 2 ^ 20) (ht : t < q_T s.1) (hL : q_taxiL s.1 s.2.1 t m rt pt) (h0 : 0 < rt.length) (hv : (if Int32.ofNat τ ≤ s_o s.1 s.2.1 t (g_l rt) 0 then (-1 : Int32) else s_o s.1 s.2.1 t (g_l rt) 0) = v) : i_X w n (q_up s (16 + 40 * t) v) := by
  obtain ⟨f, l, v1, u, ef, hfl, hl20, hv1, hu, eo, ev, ea, es⟩ := i_times hI.1 h hw ht hL h0
  have hT4 := hI.1.I.taxis4
  have hN24 := hI.1.I.rides24
  have eN : q_N (q_w s.2.1 (16 + 40 * t) v) = q_N s.2.1 := q_N_w (by omega)
  obtain ⟨hx0, hx4, hx6, hxR, hxT⟩ := h
  refine ⟨?_, ?_, ?_, fun r hr => ?_, fun t' ht' => ?_⟩
  · obtain ⟨a, ha, e⟩ := hx0
    exact ⟨a, ha, (q_w_ne (by omega)).trans e⟩
  · obtain ⟨a, ha, e⟩ := hx4
    exact ⟨a, ha, (q_w_ne (by omega)).trans e⟩
  · obtain ⟨a, ha, e⟩ := hx6
    exact ⟨a, ha, (q_w_ne (by omega)).trans e⟩
  · have hr : r < q_N (q_w s.2.1 (16 + 40 * t) v) := hr
    rw [eN] at hr
    exact (hxR r hr).same (fun u hu => q_w_ne (by omega)) (fun j hj => q_w_ne (by omega))
  · have ht' : t' < q_T s.1 := ht'
    obtain ⟨a, b, c⟩ := hxT t' ht'
    refine ⟨a.same rfl eN (q_w_ne (by omega)) (fun j hj => q_w_ne (by omega)) (fun r hr => ⟨q_w_ne (by omega), q_w_ne (by omega), q_w_ne (by omega)⟩), b.same (fun j h1 h2 => q_w_ne (by omega)), ?_⟩
    by_cases htt : t' = t
    · rw [htt] at c ⊢
      refine ⟨f, by omega, (q_w_ne (by omega)).trans ef, ?_⟩
      show q_w s.2.1 (16 + 40 * t) v (16 + 40 * t) = -1 ∨ ∃ l, f ≤ l ∧ l ≤ 2 ^ 20 ∧ q_w s.2.1 (16 + 40 * t) v (16 + 40 * t) = Int32.ofNat l
      rw [q_w_same, ← hv]
      split
      · exact Or.inl rfl
      · exact Or.inr ⟨l, hfl, hl20, eo⟩
    · exact c.same (q_w_ne (by omega)) (q_w_ne (by omega))
/-- what a run of minutes leaves alone -/
def i_kp (s s' : q_S) : Prop := s'.1 = s.1 ∧ s'.2.1 1 = s.2.1 1 ∧ s'.2.1 7 = s.2.1 7
theorem i_kp.rfl' {s : q_S} : i_kp s s := ⟨rfl, rfl, rfl⟩
theorem i_kp.tr {s s' s'' : q_S} (h : i_kp s s') (h' : i_kp s' s'') : i_kp s s'' := ⟨h'.1.trans h.1, h'.2.1.trans h.2.1, h'.2.2.trans h.2.2⟩
theorem d_drive {o t m τ w : Nat} (hm : m ≤ 6) (hw : w ≤ 2 ^ 19) (hτ : τ ≤ 2 ^ 20) : ∀ (k : Nat) (s : q_S) (rt pt : List Nat), rt.length = k → q_Inv s → t < q_T s.1 → s.1 (70 + t) = Int32.ofNat m → q_taxiL s.1 s.2.1 t m rt pt → ∀ n, i_X w n s → ∀ (i f : Nat) (M : z_Mem) (v3 : Int32), i + k ≤ 12 → k < f → c_all o M s →
    ∃ s' v M', F_Traffic_driveTill_L5 o f (o + 5 + 4 + 3 * t) (Int32.ofNat τ) v3 (Int32.ofNat i) M = some (v, M') ∧ c_all o M' s' ∧ c_go o M M' ∧ q_Inv s' ∧ i_kp s s' ∧ i_X w (n + k) s' := by
  intro k
  induction k with
  | zero =>
    intro s rt pt hrt hI ht en hL n hX i f M v3 hi hf hc
    obtain ⟨f, rfl⟩ : ∃ g, f = g + 1 := ⟨f - 1, by omega⟩
    have hT4 := hI.1.I.taxis4
    have h7 := (c_route hc ht hL.1.1 hL.1.2.1).1
    refine ⟨s, v3, M, ?_, hc, c_go.rfl', hI, i_kp.rfl', hX⟩
    unfold F_Traffic_driveTill_L5 F_Traffic_driveTill_B5
    rw [h7, hrt]
    by_cases h12 : 12 ≤ i
    · rw [if_pos (show (12 : Int32) ≤ Int32.ofNat i from (i_le (a := 12) (by decide) (by omega)).mpr h12)]
    · rw [if_neg (i_nle12 (by omega)), if_pos (by decide)]
  | succ k ih =>
    intro s rt pt hrt hI ht en hL n hX i f M v3 hi hf hc
    obtain ⟨f, rfl⟩ : ∃ g, f = g + 1 := ⟨f - 1, by omega⟩
    have hT4 := hI.1.I.taxis4
    have h0 : 0 < rt.length := by omega
    have h12 := hL.1.2.1
    have h7 := (c_route hc ht hL.1.1 h12).1
    obtain ⟨M1, e1, p1, k1⟩ := a_route (o := o) hI.1 ht hL hc
    have hc1 := p1.all hc
    obtain ⟨t1, t2, t3, t4⟩ := k1.2.2.2 0 (by omega) h0
    have ed : F_Plan_doneAt o 0 M1 = some (s_f s.1 s.2.1 t (g_l rt) 1) := c_at (j := 0) k1.1.1 h12 h0 t4
    have el : F_Plan_leavingAt o 0 M1 = some (s_o s.1 s.2.1 t (g_l rt) 0) := c_at (j := 0) k1.1.1 h12 h0 t2
    have npos : ¬ Int32.ofNat rt.length ≤ 0 := i_nle (b := 0) (by omega) (by decide) h0
    by_cases hle : s_f s.1 s.2.1 t (g_l rt) 1 ≤ Int32.ofNat τ
    · obtain ⟨M3, e3, c3, r3, r3'⟩ := c_first (o := o) hI.1 ht hL hm h0 hc1 k1
      obtain ⟨hI1, hTL⟩ := hI.first ht hL hm en h0
      have hX1 := i_do hI hX hw hτ ht hL hm h0 hle
      have h6 := f_next_six hI.1.2.1 hL hm h0
      have o1 : q_do s.1 s.2.1 t rt pt 1 = s.2.1 1 := q_do_out (by omega) h12 h6 (by omega)
      have o7 : q_do s.1 s.2.1 t rt pt 7 = s.2.1 7 := q_do_out (by omega) h12 h6 (by omega)
      obtain ⟨s', v, M', e, c', g', hI', hk', hX'⟩ := ih (q_row s (q_do s.1 s.2.1 t rt pt)) (rt.drop 1) (f_next s.2.1 pt (g_l rt 0)) (by rw [List.length_drop]; omega) hI1 ht en hTL (n + 1) hX1 (i + 1) f M3 (v3 + 1) (by omega) (by omega) c3
      refine ⟨s', v, M', ?_, c', (p1.go.tr ⟨fun x hx => r3 x (by omega), r3'⟩).tr g', hI', i_kp.tr (show i_kp s (q_row s (q_do s.1 s.2.1 t rt pt)) from ⟨rfl, o1, o7⟩) hk', by rw [show n + (k + 1) = n + 1 + k by omega]; exact hX'⟩
      unfold F_Traffic_driveTill_L5 F_Traffic_driveTill_B5
      rw [if_neg (i_nle12 (by omega)), h7, if_neg npos, zb_ok e1, zb_ok ed, if_pos hle, zb_ok e3, i_succ]
      exact e
    · have key : ∀ v, (if Int32.ofNat τ ≤ s_o s.1 s.2.1 t (g_l rt) 0 then (-1 : Int32) else s_o s.1 s.2.1 t (g_l rt) 0) = v → ∃ s' v' M', F_Traffic_driveTill_L5 o (f + 1) (o + 5 + 4 + 3 * t) (Int32.ofNat τ) v3 (Int32.ofNat i) M = some (v', M') ∧ c_all o M' s' ∧ c_go o M M' ∧ q_Inv s' ∧ i_kp s s' ∧ i_X w (n + (k + 1)) s' := fun v hv => by
        obtain ⟨hI1, -⟩ := hI.left (v := v) ht hL hm en h0
        have c2 := hc1.wt ht hT4 (k := 6) (idx := 16) (v := v) (by unfold q_tmap; omega)
        refine ⟨q_up s (16 + 40 * t) v, v3, _, ?_, c2, p1.go.tr ⟨fun x hx => funext fun j => w_addr j (by omega), rfl⟩, hI1, ⟨rfl, q_w_ne (by omega), q_w_ne (by omega)⟩, (i_left hI hX hw hτ ht hL h0 hv).more (Nat.le_refl _) (by omega)⟩
        unfold F_Traffic_driveTill_L5 F_Traffic_driveTill_B5 F_Traffic_driveTill_J64
        rw [if_neg (i_nle12 (by omega)), h7, if_neg npos, zb_ok e1, zb_ok ed, if_neg hle, zb_ok el, zb_ok el]
        by_cases hl : Int32.ofNat τ ≤ s_o s.1 s.2.1 t (g_l rt) 0
        · rw [if_pos hl] at hv ⊢
          rw [hv]
          rfl
        · rw [if_neg hl] at hv ⊢
          rw [hv]
          rfl
      exact key _ rfl
theorem i_close {s : q_S} {w n : Nat} {till : Int32} (hI : q_Inv s) (h : i_X w n s) : ∀ i, i ≤ q_N s.2.1 → i_X w n (q_row s (s_close s.2.1 till i)) ∧ (∀ j, j < 173 → s_close s.2.1 till i j = s.2.1 j) ∧ ∀ r, i ≤ r → ∀ j, 173 ≤ j → j < 190 → s_close s.2.1 till i (j + 17 * r) = s.2.1 (j + 17 * r) := by
  have hT4 := hI.1.I.taxis4
  have hN24 := hI.1.I.rides24
  intro i
  induction i with
  | zero => exact fun _ => ⟨h, fun _ _ => rfl, fun _ _ _ _ _ => rfl⟩
  | succ i ih =>
    intro hi
    obtain ⟨i1, i2, i3⟩ := ih (by omega)
    have eS : s_close s.2.1 till (i + 1) = if (s_close s.2.1 till i) (173 + 17 * i) = 0 ∧ ¬ till ≤ (s_close s.2.1 till i) (189 + 17 * i) then q_w (s_close s.2.1 till i) (173 + 17 * i) 4 else s_close s.2.1 till i := rfl
    rw [eS]
    by_cases hc : (s_close s.2.1 till i) (173 + 17 * i) = 0 ∧ ¬ till ≤ (s_close s.2.1 till i) (189 + 17 * i)
    · rw [if_pos hc]
      generalize hB : s_close s.2.1 till i = B at i1 i2 i3 hc ⊢
      have eN : q_N (q_w B (173 + 17 * i) 4) = q_N B := q_N_w (by omega)
      have eN2 : q_N B = q_N s.2.1 := by
        unfold q_N
        rw [i2 1 (by omega)]
      obtain ⟨hx0, hx4, hx6, hxR, hxT⟩ := i1
      have hiB : i < q_N (q_row s B).2.1 := by show i < q_N B; omega
      have h180 := ((hxR i hiB).2.2.1 hc.1).1
      have h180 : B (180 + 17 * i) = -1 := h180
      refine ⟨⟨?_, ?_, ?_, fun r hr => ?_, fun t ht => ?_⟩, fun j hj => (q_w_ne (by omega)).trans (i2 j hj), fun r hr j h1 h2 => (q_w_ne (by omega)).trans (i3 r (by omega) j h1 h2)⟩
      · obtain ⟨a, ha, e⟩ := hx0
        exact ⟨a, ha, (q_w_ne (by omega)).trans e⟩
      · obtain ⟨a, ha, e⟩ := hx4
        exact ⟨a, ha, (q_w_ne (by omega)).trans e⟩
      · obtain ⟨a, ha, e⟩ := hx6
        exact ⟨a, ha, (q_w_ne (by omega)).trans e⟩
      · have hr : r < q_N (q_w B (173 + 17 * i) 4) := hr
        rw [eN] at hr
        by_cases hri : r = i
        · rw [hri]
          obtain ⟨x, hx, ex⟩ := (hxR i hiB).1
          have e4 : q_w B (173 + 17 * i) 4 (173 + 17 * i) = 4 := q_w_same _ _ _
          show i_R (q_w B (173 + 17 * i) 4) i
          unfold i_R
          rw [e4]
          exact ⟨⟨x, hx, (q_w_ne (by omega)).trans ex⟩, ⟨4, by omega, rfl⟩, fun q => absurd q (by decide), fun q => absurd q (by decide), fun q => absurd q (by decide), fun q => absurd q (by decide)⟩
        · exact (hxR r hr).same (fun u hu => q_w_ne (by omega)) (fun j hj => q_w_ne (by omega))
      · have ht : t < q_T s.1 := ht
        obtain ⟨⟨s1, s2⟩, b, c⟩ := hxT t ht
        have hne : ¬ (-1 : Int32) = Int32.ofNat t := fun q => by
          have h1 := congrArg Int32.toInt q
          rw [i_toInt (by omega)] at h1
          have : ((-1 : Int32)).toInt = -1 := by decide
          omega
        have eP : k_sum (i_P (q_w B (173 + 17 * i) 4) t) (q_N B) = k_sum (i_P B t) (q_N B) := k_sum_eq _ (fun r hr => by
          unfold i_P
          rw [q_w_ne (by omega), q_w_ne (by omega)])
        have e180 : ∀ r, q_w B (173 + 17 * i) 4 (180 + 17 * r) = B (180 + 17 * r) := fun r => q_w_ne (by omega)
        have eF : k_sum (i_F (s.1 67) (q_w B (173 + 17 * i) 4) t) (q_N B) = k_sum (i_F (s.1 67) B t) (q_N B) := k_sum_eq _ (fun r hr => by
          unfold i_F
          rw [e180]
          by_cases hri : r = i
          · rw [hri, h180, if_neg hne, if_neg hne]
          · rw [q_w_ne (show 173 + 17 * r ≠ 173 + 17 * i by omega)])
        have eE : k_sum (i_E (q_w B (173 + 17 * i) 4) t) (q_N B) = k_sum (i_E B t) (q_N B) := k_sum_eq _ (fun r hr => by
          unfold i_E
          rw [e180, q_w_ne (show 7 ≠ 173 + 17 * i by omega)]
          by_cases hri : r = i
          · rw [hri, h180, if_neg hne, if_neg hne]
          · rw [q_w_ne (show 173 + 17 * r ≠ 173 + 17 * i by omega)])
        refine ⟨?_, b.same (fun j h1 h2 => q_w_ne (by omega)), c.same (q_w_ne (by omega)) (q_w_ne (by omega))⟩
        show i_S s.1 (q_w B (173 + 17 * i) 4) t
        unfold i_S
        rw [eN, eP, eF, eE, q_w_ne (by omega), q_w_ne (by omega), q_w_ne (by omega)]
        exact ⟨s1, s2⟩
    · rw [if_neg hc]
      exact ⟨i1, i2, fun r hr => i3 r (by omega)⟩
theorem d_pass {o τ w : Nat} (hw : w ≤ 2 ^ 19) (hτ : τ ≤ 2 ^ 19) : ∀ (k i : Nat) (s : q_S), i + k = q_T s.1 → q_Inv s → ∀ n, i_X w n s → ∀ (f : Nat) (M : z_Mem) (v3 : Int32), k < f → c_all o M s →
    ∃ s' v M', F_Traffic_passMinutes_L15 o f (Int32.ofNat τ) v3 (Int32.ofNat i) M = some (v, M') ∧ c_all o M' s' ∧ c_go o M M' ∧ q_Inv s' ∧ i_kp s s' ∧ i_X τ (n + 12 * k) s' := by
  intro k
  induction k with
  | zero =>
    intro i s hi hI n hX f M v3 hf hc
    obtain ⟨f, rfl⟩ : ∃ g, f = g + 1 := ⟨f - 1, by omega⟩
    have hT4 := hI.1.I.taxis4
    have hi' : i = q_T s.1 := by omega
    subst hi'
    have hN := hI.1.I.rides24
    have c2 := hc.wd (k := 0) (v := Int32.ofNat τ) (Or.inl rfl)
    have hI2 := hI.now (v := Int32.ofNat τ)
    have eN : q_N (q_up s 0 (Int32.ofNat τ)).2.1 = q_N s.2.1 := q_N_w (by omega)
    have h00 : (q_up s 0 (Int32.ofNat τ)).2.1 0 = Int32.ofNat τ := q_w_same s.2.1 0 (Int32.ofNat τ)
    obtain ⟨M', e, c', g'⟩ := c_close_L (o := o) (till := Int32.ofNat τ) hI2 h00 (q_N (q_up s 0 (Int32.ofNat τ)).2.1) 0 10000 _ (by omega) (by omega) c2
    obtain ⟨hI3, -⟩ := s_close_inv (till := Int32.ofNat τ) hI2 (q_N (q_up s 0 (Int32.ofNat τ)).2.1) (Nat.le_refl _)
    have qn : ∀ j, j ≠ 0 → (q_up s 0 (Int32.ofNat τ)).2.1 j = s.2.1 j := fun j hj => q_w_ne hj
    have hX2 : i_X τ n (q_up s 0 (Int32.ofNat τ)) := by
      obtain ⟨hx0, hx4, hx6, hxR, hxT⟩ := hX
      refine ⟨⟨τ, Nat.le_refl _, h00⟩, ?_, ?_, fun r hr => ?_, fun t ht => ?_⟩
      · obtain ⟨a, ha, e⟩ := hx4
        exact ⟨a, ha, (qn 4 (by omega)).trans e⟩
      · obtain ⟨a, ha, e⟩ := hx6
        exact ⟨a, ha, (qn 6 (by omega)).trans e⟩
      · rw [eN] at hr
        exact (hxR r hr).same (fun u hu => qn _ (by omega)) (fun j hj => qn _ (by omega))
      · obtain ⟨a, b, c⟩ := hxT t ht
        exact ⟨a.same rfl eN (qn _ (by omega)) (fun j hj => qn _ (by omega)) (fun r hr => ⟨qn _ (by omega), qn _ (by omega), qn _ (by omega)⟩), b.same (fun j h1 h2 => qn _ (by omega)), c.same (qn _ (by omega)) (qn _ (by omega))⟩
    obtain ⟨hX3, hl3, -⟩ := i_close (till := Int32.ofNat τ) hI2 hX2 (q_N (q_up s 0 (Int32.ofNat τ)).2.1) (Nat.le_refl _)
    refine ⟨_, v3, M', ?_, c', c_go.tr ⟨fun x hx => funext fun j => w_addr j (by omega), rfl⟩ g', hI3, ⟨rfl, (hl3 1 (by omega)).trans (qn 1 (by omega)), (hl3 7 (by omega)).trans (qn 7 (by omega))⟩, hX3⟩
    have r3 : M.1 (o + 5) 3 = Int32.ofNat (q_T s.1) := hc.2.1.2.2.2.2.1.trans hI.1.I.taxis
    unfold F_Traffic_passMinutes_L15 F_Traffic_passMinutes_B15 F_Traffic_passMinutes_J57 F_Traffic_closeOffers
    rw [r3, if_pos ((i_le (by omega) (by omega)).mpr (Nat.le_refl _))]
    simp only [zl]
    rw [i_0, zb_ok e]
  | succ k ih =>
    intro i s hi hI n hX f M v3 hf hc
    obtain ⟨f, rfl⟩ : ∃ g, f = g + 1 := ⟨f - 1, by omega⟩
    have hT4 := hI.1.I.taxis4
    have hiT : i < q_T s.1 := by omega
    obtain ⟨m, rt, pt, hm, en, hL⟩ := hI.1.L hiT
    have h12 := hL.1.2.1
    obtain ⟨s1, v1, M1, e1, c1, g1, hI1, hk1, hX1⟩ := d_drive (o := o) (τ := τ) hm hw (by omega) rt.length s rt pt rfl hI hiT en hL n hX 0 10000 M 0 (by omega) (by omega) hc
    obtain ⟨s', v, M', e2, c2, g2, hI2, hk2, hX2⟩ := ih (i + 1) s1 (by rw [hk1.1]; omega) hI1 (n + 12) (hX1.more (Nat.le_refl _) (by omega)) f M1 (v3 + v1) (by omega) c1
    refine ⟨s', v, M', ?_, c2, g1.tr g2, hI2, hk1.tr hk2, hX2.more (Nat.le_refl _) (by omega)⟩
    have r3 : M.1 (o + 5) 3 = Int32.ofNat (q_T s.1) := hc.2.1.2.2.2.2.1.trans hI.1.I.taxis
    have ci : (Int32.ofNat i).toNatClampNeg = i := i_cl (by omega)
    have ed : F_Traffic_driveTill o (o + 5 + 4 + 3 * i) (Int32.ofNat τ) M = some (v1, M1) := e1
    unfold F_Traffic_passMinutes_L15 F_Traffic_passMinutes_B15
    rw [r3, if_neg (i_nle (by omega) (by omega) hiT), if_neg (show ¬ (4 : Int32) ≤ Int32.ofNat i from i_nle (a := 4) (by decide) (by omega) (by omega)), if_pos ((i_inb (by omega)).mpr (by omega)), ci]
    simp only [zl]
    rw [zb2_ok ed, i_succ]
    exact e2
/-- the class's own part of the law: below it nothing is written -/
def i_lo (o : Nat) (M M' : z_Mem) : Prop := ∀ x, x < o → M'.1 x = M.1 x
theorem i_lo.tr {o : Nat} {M M' M'' : z_Mem} (h : i_lo o M M') (h' : i_lo o M' M'') : i_lo o M M'' := fun x hx => (h' x hx).trans (h x hx)
theorem i_noted {s : q_S} {w n : Nat} (h : i_X w n s) : i_X w n (q_noted s) := h
theorem d_advance {o p w n : Nat} {s : q_S} {M : z_Mem} (hI : q_Inv s) (hX : i_X w n s) (hw : w + p ≤ 9999) (h1 : 1 ≤ p) (h2 : p ≤ 1440) (hc : c_all o M s) :
    ∃ s' v M', F_Sys_advance o (Int32.ofNat p) M = some (v, M') ∧ c_all o M' s' ∧ i_lo o M M' ∧ q_Inv s' ∧ i_kp s s' ∧ i_X (w + p) (n + 48) s' := by
  have hT4 := hI.1.I.taxis4
  obtain ⟨x, hx, ex⟩ := hX.1
  have r0 : M.1 (o + 5) 0 = Int32.ofNat x := hc.2.1.2.1.trans ex
  obtain ⟨M5, e5, c5, k5, l5⟩ := a_note_c (o := o) hI.1.I hI.1.2.1.abs hc
  obtain ⟨s', v, M', e6, c6, g6, hI6, hk6, hX6⟩ := d_pass (o := o) (τ := x + p) (w := w) (by omega) (by omega) (q_T s.1) 0 (q_noted s) (by show 0 + q_T s.1 = q_T s.1; omega) hI.noted n (i_noted hX) 10000 M5 0 (by omega) c5
  refine ⟨s', v, M', ?_, c6, fun y hy => (g6.1 y (by omega)).trans (l5 y (by omega)), hI6, hk6, hX6.more (by omega) (by omega)⟩
  have r5 : M5.1 (o + 5) 0 = Int32.ofNat x := c5.2.1.2.1.trans ex
  unfold F_Sys_advance
  rw [zb_ok (show F_Sys_checkRange (Int32.ofNat p) 1 1440 M = some () from e_rangeN (p := p) (lo := 1) (hi := 1440) M (by omega) (by decide) (by decide) h1 h2), r0, i_add, if_pos (show Int32.ofNat (x + p) ≤ (9999 : Int32) from (i_le (b := 9999) (by omega) (by decide)).mpr (by omega)), zb_ok e5]
  have ep : F_Traffic_passMinutes o (Int32.ofNat p) M5 = some (v, M') := by
    unfold F_Traffic_passMinutes
    rw [r5, i_add]
    exact e6
  rw [zb2_ok ep]
