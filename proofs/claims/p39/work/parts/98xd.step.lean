/-! ===== PURE: a stop is done: what always holds goes on ===== -/
theorem i_mxN {a b : Nat} (ha : a < 2 ^ 31) (hb : b < 2 ^ 31) : i_mx (Int32.ofNat a) (Int32.ofNat b) = Int32.ofNat (max a b) := by
  unfold i_mx
  by_cases h : a < b
  · rw [if_pos ((i_lt ha hb).mpr h), Nat.max_eq_right (by omega)]
  · rw [if_neg (fun q => h ((i_lt ha hb).mp q)), Nat.max_eq_left (by omega)]
theorem i_mx_sub {a x v : Nat} (ha : a ≤ 2 ^ 20) (hx : x ≤ 2 ^ 20) (hv : v ≤ 25344) : ∃ l, a ≤ l ∧ l ≤ 2 ^ 20 ∧ i_mx (Int32.ofNat a) (Int32.ofNat x - Int32.ofNat v) = Int32.ofNat l := by
  by_cases h : v ≤ x
  · rw [i_sub h, i_mxN (by omega) (by omega)]
    exact ⟨max a (x - v), by omega, by omega, rfl⟩
  · refine ⟨a, Nat.le_refl _, ha, ?_⟩
    unfold i_mx
    refine if_neg (fun q => ?_)
    rw [Int32.lt_iff_toInt_lt, i_toInt (by omega), Int32.toInt_sub, i_toInt (by omega), i_toInt (by omega), Int.bmod_eq_of_le (by omega) (by omega)] at q
    omega
theorem i_times {s : q_S} {w n t m : Nat} {rt pt : List Nat} (hI : q_In s) (h : i_X w n s) (hw : w ≤ 2 ^ 19) (ht : t < q_T s.1) (hL : q_taxiL s.1 s.2.1 t m rt pt) (h0 : 0 < rt.length) :
    ∃ f l v u, s.2.1 (14 + 40 * t) = Int32.ofNat f ∧ f ≤ l ∧ l ≤ 2 ^ 20 ∧ v ≤ 25344 ∧ u ≤ 30 ∧ s_o s.1 s.2.1 t (g_l rt) 0 = Int32.ofNat l ∧ s_w s.1 s.2.1 t (g_l rt) 0 = Int32.ofNat v ∧ s_a s.1 s.2.1 t (g_l rt) 0 = Int32.ofNat (l + v) ∧ s_f s.1 s.2.1 t (g_l rt) 1 = Int32.ofNat (l + v + u) := by
  obtain ⟨⟨v0, hv0, e0⟩, ⟨d, hd, ed⟩, ⟨p, hp, ep⟩, hR, hT⟩ := h
  obtain ⟨f, hf, ef, hleft⟩ := (hT t ht).2.2
  have hx := hL.val 0 h0
  obtain ⟨-, v, hv, ev⟩ := s_m_w hI.1.2 (s_z_lt8 hI ht hL.val (show 0 ≤ rt.length by omega)) (hI.zo hx) (hL.con 0 h0)
  obtain ⟨x, hx20, ex⟩ := (hR (g_l rt 0 / 2) (by omega)).1
  obtain ⟨u, hu, eu⟩ : ∃ u, u ≤ 30 ∧ s_stay s.2.1 (g_l rt 0) = Int32.ofNat u := by
    unfold s_stay
    split
    · exact ⟨p, hp, ep⟩
    · exact ⟨d, by omega, ed⟩
  have es : ∃ l, f ≤ l ∧ l ≤ 2 ^ 20 ∧ s_o s.1 s.2.1 t (g_l rt) 0 = Int32.ofNat l := by
    unfold s_o s_lv
    rw [ev]
    show ∃ l, f ≤ l ∧ l ≤ 2 ^ 20 ∧ (if 0 = 0 ∧ s.2.1 (16 + 40 * t) ≠ -1 then s.2.1 (16 + 40 * t) else if g_l rt 0 % 2 = 1 then i_mx (if 0 = 0 then i_mx (s.2.1 (14 + 40 * t)) (s.2.1 0) else s.2.1 (14 + 40 * t)) (s.2.1 (177 + 17 * (g_l rt 0 / 2)) - Int32.ofNat v) else if 0 = 0 then i_mx (s.2.1 (14 + 40 * t)) (s.2.1 0) else s.2.1 (14 + 40 * t)) = Int32.ofNat l
    rw [ef, e0, ex, if_pos rfl, i_mxN (by omega) (by omega)]
    by_cases hl : s.2.1 (16 + 40 * t) = -1
    · rw [if_neg (fun q => q.2 hl)]
      by_cases ho : g_l rt 0 % 2 = 1
      · rw [if_pos ho]
        obtain ⟨l, h1, h2, h3⟩ := i_mx_sub (a := max f v0) (x := x) (v := v) (by omega) hx20 hv
        exact ⟨l, by omega, h2, h3⟩
      · rw [if_neg ho]
        exact ⟨max f v0, by omega, by omega, rfl⟩
    · rw [if_pos ⟨rfl, hl⟩]
      rcases hleft with q | ⟨l, h1, h2, h3⟩
      · exact absurd q hl
      · exact ⟨l, h1, h2, h3⟩
  obtain ⟨l, h1, h2, h3⟩ := es
  refine ⟨f, l, v, u, ef, h1, h2, hv, hu, h3, ev, ?_, ?_⟩
  · unfold s_a
    rw [h3, ev, i_add]
  · show s_lv s.2.1 t 0 (g_l rt 0) (s_w s.1 s.2.1 t (g_l rt) 0) (s_f s.1 s.2.1 t (g_l rt) 0) + s_w s.1 s.2.1 t (g_l rt) 0 + s_stay s.2.1 (g_l rt 0) = _
    have h3' : s_lv s.2.1 t 0 (g_l rt 0) (s_w s.1 s.2.1 t (g_l rt) 0) (s_f s.1 s.2.1 t (g_l rt) 0) = Int32.ofNat l := h3
    rw [h3', ev, eu, i_add, i_add]
theorem i_ne {a b : Nat} (ha : a < 2 ^ 31) (hb : b < 2 ^ 31) (h : a ≠ b) : Int32.ofNat a ≠ Int32.ofNat b := fun q => h ((i_eq ha hb).mp q)
theorem i_do {s : q_S} {w n t m τ : Nat} {rt pt : List Nat} (hI : q_Inv s) (h : i_X w n s) (hw : w ≤ 2 ^ 19) (hτ : τ ≤ 2 ^ 20) (ht : t < q_T s.1) (hL : q_taxiL s.1 s.2.1 t m rt pt) (hm : m ≤ 6) (h0 : 0 < rt.length) (hle : s_f s.1 s.2.1 t (g_l rt) 1 ≤ Int32.ofNat τ) : i_X w (n + 1) (q_row s (q_do s.1 s.2.1 t rt pt)) := by
  obtain ⟨f, l, v, u, ef, hfl, hl20, hv, hu, eo, ev, ea, es⟩ := i_times hI.1 h hw ht hL h0
  have hlt : l + v + u ≤ τ := by
    rw [es] at hle
    exact (i_le (by omega) (by omega)).mp hle
  have hT4 := hI.1.I.taxis4
  have hN24 := hI.1.I.rides24
  have h12 := hL.1.2.1
  have hp6 := hL.2.1.2.1
  have h6 := f_next_six hI.1.2.1 hL hm h0
  have hx := hL.val 0 h0
  have t4 : t < 4 := by omega
  have hsca : q_scaJ s.2.1 := hI.1.2.1.2.1
  have hfr := f_inv.first (A := s.2.1) (P := pt) (s := g_l rt 0) (rest := rt.drop 1) (by
    have := hL.drive
    rw [← f_drop (L := rt) (k := 0) h0]
    exact this)
  have hstop := hL.stop (s := g_l rt 0) (by
    have := f_drop (L := rt) (k := 0) h0
    rw [List.drop_zero] at this
    rw [this]
    exact List.mem_cons_self ..)
  have hpt := hL.2.1.2.2.2
  have hnd := hL.2.1.2.2.1
  have hno : g_l rt 0 % 2 = 1 → g_l rt 0 / 2 ∉ pt := fun q => by
    rcases hfr with g | g
    · omega
    · exact g.2.1
  obtain ⟨r0, hr0⟩ : ∃ r0, r0 = g_l rt 0 / 2 := ⟨_, rfl⟩
  obtain ⟨d14, d16, d18, d20, d21, d22, d23⟩ := do_vals (c := s.1) (A := s.2.1) (t := t) (rt := rt) (pt := pt) t4 h12 hp6 h6
  have d183 : ∀ r, q_do s.1 s.2.1 t rt pt (183 + 17 * r) = _ := fun r => do_183 (c := s.1) (r := r) t4 h12 hp6 h6 hno
  obtain ⟨d181, d182⟩ := do_181 (c := s.1) (A := s.2.1) (t := t) (rt := rt) (pt := pt) t4 h12 hp6 h6
  have d173 := q_do_173 (c := s.1) (A := s.2.1) (t := t) (rt := rt) (pt := pt) t4 h6
  have dout : ∀ j, j < 13 + 40 * t ∨ j = 17 + 40 * t ∨ j = 19 + 40 * t ∨ (53 + 40 * t ≤ j ∧ j < 173) ∨ (173 ≤ j ∧ (∀ r, j ≠ 183 + 17 * r) ∧ j ≠ 173 + 17 * (g_l rt 0 / 2) ∧ j ≠ 181 + 17 * (g_l rt 0 / 2) ∧ j ≠ 182 + 17 * (g_l rt 0 / 2)) → q_do s.1 s.2.1 t rt pt j = s.2.1 j := fun j hj => q_do_out t4 h12 h6 hj
  rw [← hr0] at d181 d182 d173 hstop hno
  simp only [← hr0] at d183 dout
  have hr0N : r0 < q_N s.2.1 := by omega
  have hpick1 : g_l rt 0 % 2 = 1 → s.2.1 (173 + 17 * r0) = 1 := fun q => by
    rcases hstop.2.2 with g | g
    · exact g
    · exact absurd ((hpt r0).mpr ⟨hr0N, g, hstop.2.1⟩) (hno q)
  have hdrop2 : ¬ g_l rt 0 % 2 = 1 → r0 ∈ pt := fun q => by
    rcases hfr with g | g
    · rw [hr0]; exact g.2.1
    · exact absurd g.1 q
  generalize hD : q_do s.1 s.2.1 t rt pt = D at d14 d16 d18 d20 d21 d22 d23 d183 d181 d182 d173 dout ⊢
  have dN : q_N D = q_N s.2.1 := by
    unfold q_N
    rw [dout 1 (by omega)]
  have dr1 : ∀ j r, j = 177 ∨ j = 180 → D (j + 17 * r) = s.2.1 (j + 17 * r) := fun j r hj => dout _ (Or.inr (Or.inr (Or.inr (Or.inr ⟨by omega, fun r' => by omega, by omega, by omega, by omega⟩))))
  have dr2 : ∀ j r, j = 173 ∨ j = 181 ∨ j = 182 → r ≠ r0 → D (j + 17 * r) = s.2.1 (j + 17 * r) := fun j r hj hne => dout _ (Or.inr (Or.inr (Or.inr (Or.inr ⟨by omega, fun r' => by omega, by omega, by omega, by omega⟩))))
  obtain ⟨hx0, hx4, hx6, hxR, hxT⟩ := h
  refine ⟨?_, ?_, ?_, fun r hr => ?_, fun t' ht' => ?_⟩
  · obtain ⟨a, ha, e⟩ := hx0
    exact ⟨a, ha, (dout 0 (by omega)).trans e⟩
  · obtain ⟨a, ha, e⟩ := hx4
    exact ⟨a, ha, (dout 4 (by omega)).trans e⟩
  · obtain ⟨a, ha, e⟩ := hx6
    exact ⟨a, ha, (dout 6 (by omega)).trans e⟩
  · have hr : r < q_N D := hr
    rw [dN] at hr
    show i_R D r
    obtain ⟨g1, g2, g3, g4, g5, g6⟩ := hxR r hr
    have o177 : D (177 + 17 * r) = s.2.1 (177 + 17 * r) := dr1 _ _ (by omega)
    have o180 : D (180 + 17 * r) = s.2.1 (180 + 17 * r) := dr1 _ _ (by omega)
    by_cases hrr : r = r0
    · rw [hrr] at g1 g2 g3 g4 g5 g6 o177 o180 ⊢
      by_cases ho : g_l rt 0 % 2 = 1
      · rw [if_pos ho] at d173 d181 d182
        by_cases hab : s.2.1 (184 + 17 * r0) = 1
        · rw [if_pos hab] at d173
          unfold i_R
          rw [o177, d173]
          exact ⟨g1, ⟨5, by omega, rfl⟩, fun q => absurd q (by decide), fun q => absurd q (by decide), fun q => absurd q (by decide), fun q => absurd q (by decide)⟩
        · rw [if_neg hab] at d173
          unfold i_R
          rw [o177, d173, d181, o180]
          exact ⟨g1, ⟨2, by omega, rfl⟩, fun q => absurd q (by decide), fun q => absurd q (by decide), fun _ => ⟨l + v + u, t, l + v + u, t4, hstop.2.1, es, d14.trans es, Nat.le_refl _, by omega⟩, fun q => absurd q (by decide)⟩
      · rw [if_neg ho] at d173 d181 d182
        obtain ⟨p, t1, f1, k1, q1, q2, q3, q4, q5⟩ := g5 ((hpt r0).mp (hdrop2 ho)).2.1
        have ht1 : t1 = t := by
          have := q1.symm.trans hstop.2.1
          exact (i_eq (by omega) (by omega)).mp this
        have hf1 : f1 = f := by
          rw [ht1] at q3
          exact (i_eq (by omega) (by omega)).mp (q3.symm.trans ef)
        unfold i_R
        rw [o177, d173, d181, d182]
        exact ⟨g1, ⟨3, by omega, rfl⟩, fun q => absurd q (by decide), fun q => absurd q (by decide), fun q => absurd q (by decide), fun _ => ⟨p, l + v, q2, ea, by omega, by omega⟩⟩
    · have o173 : D (173 + 17 * r) = s.2.1 (173 + 17 * r) := dr2 _ _ (by omega) hrr
      have o181 : D (181 + 17 * r) = s.2.1 (181 + 17 * r) := dr2 _ _ (by omega) hrr
      have o182 : D (182 + 17 * r) = s.2.1 (182 + 17 * r) := dr2 _ _ (by omega) hrr
      have o183 : r ∉ pt → D (183 + 17 * r) = s.2.1 (183 + 17 * r) := fun q => by
        rw [d183 r, if_neg q, if_neg hrr, Int32.add_zero, Int32.add_zero]
      unfold i_R
      rw [o177, o173, o180, o181, o182]
      refine ⟨g1, g2, fun q => ⟨(g3 q).1, (o183 (fun z => ?_)).trans (g3 q).2⟩, fun q => (o183 (fun z => ?_)).trans (g4 q), fun q => ?_, g6⟩
      · have := ((hpt r).mp z).2.1
        rw [q] at this
        exact absurd this (by decide)
      · have := ((hpt r).mp z).2.1
        rw [q] at this
        exact absurd this (by decide)
      · obtain ⟨p, t1, f1, k1, q1, q2, q3, q4, q5⟩ := g5 q
        by_cases ht1 : t1 = t
        · rw [ht1] at q1 q3
          have hf1 : f1 = f := (i_eq (by omega) (by omega)).mp (q3.symm.trans ef)
          exact ⟨p, t, l + v + u, t4, q1, q2, d14.trans es, by omega, by omega⟩
        · exact ⟨p, t1, f1, k1, q1, q2, (dout _ (by omega)).trans q3, q4, q5⟩
  · have ht' : t' < q_T s.1 := ht'
    show i_S s.1 D t' ∧ i_D (n + 1) D t' ∧ i_W D t'
    obtain ⟨⟨s1, s2⟩, ⟨x, y, z, y1, y2, y3, y4, y5, y6⟩, f1, k1, k2, k3⟩ := hxT t' ht'
    by_cases htt : t' = t
    · subst htt
      have eP : k_sum (i_P D t') (q_N s.2.1) = k_sum (i_P s.2.1 t') (q_N s.2.1) + (if pt.length = 0 then 0 else f_amt s.2.1 (s_w s.1 s.2.1 t' (g_l rt) 0) pt.length) + d_v s.1 s.2.1 (g_l rt 0) := by
        have hsh := k_shares (A := s.2.1) (pt := pt) (w := v) (n := q_N s.2.1) hsca hv hp6 hnd (fun r hr => ((hpt r).mp hr).1)
        rw [← ev] at hsh
        rw [← hsh]
        have e1 := k_sum_one (a := r0) (v := d_v s.1 s.2.1 (g_l rt 0)) (q_N s.2.1) hr0N
        refine Eq.trans (k_sum_add (f := fun r => i_P s.2.1 t' r + (if r ∈ pt then f_sh (f_amt s.2.1 (s_w s.1 s.2.1 t' (g_l rt) 0) pt.length) pt.length r pt 0 else 0)) (g := fun r => if r = r0 then d_v s.1 s.2.1 (g_l rt 0) else 0) (q_N s.2.1) (fun r hr => ?_)) ?_
        · unfold i_P
          have o180 : D (180 + 17 * r) = s.2.1 (180 + 17 * r) := dr1 _ _ (by omega)
          rw [o180]
          by_cases hq : s.2.1 (180 + 17 * r) = Int32.ofNat t'
          · rw [if_pos hq, if_pos hq, d183 r]
          · rw [if_neg hq, if_neg hq, if_neg (fun z => hq ((hpt r).mp z).2.2), if_neg (fun z => hq (by rw [z]; exact hstop.2.1))]
            rfl
        · rw [e1]
          congr 1
          exact k_sum_add _ (fun r hr => rfl)
      have eF : k_sum (i_F (s.1 67) D t') (q_N s.2.1) = k_sum (i_F (s.1 67) s.2.1 t') (q_N s.2.1) + (if g_l rt 0 % 2 = 1 then (if s.2.1 (184 + 17 * r0) = 1 then 0 else s.1 67) else 0) := by
        rw [← k_sum_one (a := r0) (v := if g_l rt 0 % 2 = 1 then (if s.2.1 (184 + 17 * r0) = 1 then 0 else s.1 67) else 0) (q_N s.2.1) hr0N]
        refine k_sum_add _ (fun r hr => ?_)
        unfold i_F
        have o180 : D (180 + 17 * r) = s.2.1 (180 + 17 * r) := dr1 _ _ (by omega)
        rw [o180]
        by_cases hrr : r = r0
        · rw [hrr, hstop.2.1, if_pos rfl, if_pos rfl, if_pos rfl, d173]
          by_cases ho : g_l rt 0 % 2 = 1
          · rw [if_pos ho, if_pos ho, hpick1 ho]
            by_cases hab : s.2.1 (184 + 17 * r0) = 1
            · rw [if_pos hab, if_pos hab, if_neg (by decide), if_neg (by decide), if_neg (by decide), if_neg (by decide), Int32.add_zero]
            · rw [if_neg hab, if_neg hab, if_pos rfl, if_neg (by decide), if_neg (by decide), Int32.zero_add]
          · rw [if_neg ho, if_neg ho, ((hpt r0).mp (hdrop2 ho)).2.1, if_pos rfl, if_neg (by decide), if_pos rfl, Int32.add_zero]
        · have o173 : D (173 + 17 * r) = s.2.1 (173 + 17 * r) := dr2 _ _ (by omega) hrr
          rw [o173, if_neg hrr, Int32.add_zero]
      have eE : k_sum (i_E D t') (q_N s.2.1) = k_sum (i_E s.2.1 t') (q_N s.2.1) + (if g_l rt 0 % 2 = 1 then (if s.2.1 (184 + 17 * r0) = 1 then s.2.1 7 else 0) else 0) := by
        rw [← k_sum_one (a := r0) (v := if g_l rt 0 % 2 = 1 then (if s.2.1 (184 + 17 * r0) = 1 then s.2.1 7 else 0) else 0) (q_N s.2.1) hr0N]
        refine k_sum_add _ (fun r hr => ?_)
        unfold i_E
        have o180 : D (180 + 17 * r) = s.2.1 (180 + 17 * r) := dr1 _ _ (by omega)
        have o7 : D 7 = s.2.1 7 := dout _ (by omega)
        rw [o180, o7]
        by_cases hrr : r = r0
        · rw [hrr, hstop.2.1, if_pos rfl, if_pos rfl, if_pos rfl, d173]
          by_cases ho : g_l rt 0 % 2 = 1
          · rw [if_pos ho, if_pos ho, hpick1 ho]
            by_cases hab : s.2.1 (184 + 17 * r0) = 1
            · rw [if_pos hab, if_pos hab, if_pos rfl, if_neg (by decide), Int32.zero_add]
            · rw [if_neg hab, if_neg hab, if_neg (by decide), if_neg (by decide), Int32.add_zero]
          · rw [if_neg ho, if_neg ho, ((hpt r0).mp (hdrop2 ho)).2.1, if_neg (by decide), if_neg (by decide), Int32.add_zero]
        · have o173 : D (173 + 17 * r) = s.2.1 (173 + 17 * r) := dr2 _ _ (by omega) hrr
          rw [o173, if_neg hrr, Int32.add_zero]
      have ev2 : d_v s.1 s.2.1 (g_l rt 0) = (if g_l rt 0 % 2 = 1 then (if s.2.1 (184 + 17 * r0) = 1 then 0 else s.1 67) else 0) + (if g_l rt 0 % 2 = 1 then (if s.2.1 (184 + 17 * r0) = 1 then s.2.1 7 else 0) else 0) := by
        unfold d_v
        rw [← hr0]
        by_cases ho : g_l rt 0 % 2 = 1
        · rw [if_pos ho, if_pos ho, if_pos ho]
          by_cases hab : s.2.1 (184 + 17 * r0) = 1
          · rw [if_pos hab, if_pos hab, if_pos hab, Int32.zero_add]
          · rw [if_neg hab, if_neg hab, if_neg hab, Int32.add_zero]
        · rw [if_neg ho, if_neg ho, if_neg ho]
          rfl
      refine ⟨⟨?_, ?_⟩, ?_, ?_⟩
      · have o19 : D (19 + 40 * t') = s.2.1 (19 + 40 * t') := dout _ (by omega)
        rw [dN, eP, o19, d18]
        unfold q_tk
        rw [← s1]
        ac_rfl
      · rw [dN, eP, eF, eE, d23, s2, ev2]
        ac_rfl
      · unfold i_D
        rw [d20, d21, d22, ev, y4, y5, y6]
        by_cases hz : pt.length = 0
        · rw [if_pos hz, if_pos (by omega), i_add]
          exact ⟨x + v, y, z, y1, by omega, by omega, rfl, Int32.add_zero _, Int32.add_zero _⟩
        · rw [if_neg hz]
          by_cases hz1 : pt.length ≤ 1
          · rw [if_pos hz1, i_add, i_add]
            exact ⟨x + v, y + v, z, by omega, by omega, by omega, rfl, rfl, Int32.add_zero _⟩
          · rw [if_neg hz1, i_add, i_add, i_add]
            exact ⟨x + v, y + v, z + v, by omega, by omega, by omega, rfl, rfl, rfl⟩
      · exact ⟨l + v + u, by omega, d14.trans es, Or.inl d16⟩
    · have hne : Int32.ofNat t ≠ Int32.ofNat t' := i_ne (by omega) (by omega) (fun q => htt q.symm)
      have key : ∀ r, s.2.1 (180 + 17 * r) = Int32.ofNat t' → r ∉ pt ∧ r ≠ r0 := fun r hr => ⟨fun z => hne (((hpt r).mp z).2.2.symm.trans hr), fun z => hne (by rw [z] at hr; exact hstop.2.1.symm.trans hr)⟩
      have eP : k_sum (i_P D t') (q_N s.2.1) = k_sum (i_P s.2.1 t') (q_N s.2.1) := k_sum_eq _ (fun r hr => by
        unfold i_P
        have o180 : D (180 + 17 * r) = s.2.1 (180 + 17 * r) := dr1 _ _ (by omega)
        rw [o180]
        by_cases hq : s.2.1 (180 + 17 * r) = Int32.ofNat t'
        · rw [if_pos hq, if_pos hq, d183 r, if_neg (key r hq).1, if_neg (key r hq).2, Int32.add_zero, Int32.add_zero]
        · rw [if_neg hq, if_neg hq])
      have eF : k_sum (i_F (s.1 67) D t') (q_N s.2.1) = k_sum (i_F (s.1 67) s.2.1 t') (q_N s.2.1) := k_sum_eq _ (fun r hr => by
        unfold i_F
        have o180 : D (180 + 17 * r) = s.2.1 (180 + 17 * r) := dr1 _ _ (by omega)
        rw [o180]
        by_cases hq : s.2.1 (180 + 17 * r) = Int32.ofNat t'
        · have o173 : D (173 + 17 * r) = s.2.1 (173 + 17 * r) := dr2 _ _ (by omega) (key r hq).2
          rw [o173]
        · rw [if_neg hq, if_neg hq])
      have eE : k_sum (i_E D t') (q_N s.2.1) = k_sum (i_E s.2.1 t') (q_N s.2.1) := k_sum_eq _ (fun r hr => by
        unfold i_E
        have o180 : D (180 + 17 * r) = s.2.1 (180 + 17 * r) := dr1 _ _ (by omega)
        have o7 : D 7 = s.2.1 7 := dout _ (by omega)
        rw [o180, o7]
        by_cases hq : s.2.1 (180 + 17 * r) = Int32.ofNat t'
        · have o173 : D (173 + 17 * r) = s.2.1 (173 + 17 * r) := dr2 _ _ (by omega) (key r hq).2
          rw [o173]
        · rw [if_neg hq, if_neg hq])
      have o : ∀ j, 13 ≤ j → j < 24 → D (j + 40 * t') = s.2.1 (j + 40 * t') := fun j h1 h2 => dout _ (by omega)
      refine ⟨⟨?_, ?_⟩, ?_, ?_⟩
      · rw [dN, eP, o 19 (by omega) (by omega), o 18 (by omega) (by omega)]
        exact s1
      · rw [dN, eP, eF, eE, o 23 (by omega) (by omega)]
        exact s2
      · exact ⟨x, y, z, y1, y2, by omega, (o 20 (by omega) (by omega)).trans y4, (o 21 (by omega) (by omega)).trans y5, (o 22 (by omega) (by omega)).trans y6⟩
      · refine ⟨f1, k1, (o 14 (by omega) (by omega)).trans k2, ?_⟩
        rw [o 16 (by omega) (by omega)]
        exact k3
