/-! ===== PURE: cancel, absent ===== -/
theorem g_ofr_no {u s : Nat} {L : List Nat} (h : s / 2 ≠ u) : q_ofr u (L.filter (g_no s)) = q_ofr u L := by
  unfold q_ofr
  rw [List.filter_filter]
  refine List.filter_congr fun x hx => ?_
  by_cases hxu : x / 2 = u
  · have : x ≠ s := fun q => h (by rw [← q]; exact hxu)
    simp [hxu, g_no_t.mpr this]
  · simp [hxu]
theorem g_ofr_gone {r : Nat} {L : List Nat} (h : ∀ x ∈ L, x / 2 ≠ r) : q_ofr r L = [] := by
  unfold q_ofr
  rw [List.filter_eq_nil_iff]
  intro x hx
  simp [h x hx]
theorem g_ofr_swap {r s : Nat} {L : List Nat} : q_ofr r (L.filter (g_no s)) = (q_ofr r L).filter (g_no s) := by
  unfold q_ofr
  rw [List.filter_filter, List.filter_filter]
  refine List.filter_congr fun x hx => ?_
  rw [Bool.and_comm]
theorem q_should_1 {A : q_R} {t r : Nat} (hr : r < q_N A) (h1 : A (180 + 17 * r) = Int32.ofNat t) (h2 : A (173 + 17 * r) = 1) : q_should A t r = if A (184 + 17 * r) = 1 then [2 * r + 1] else [2 * r + 1, 2 * r] := by
  unfold q_should
  rw [if_pos ⟨hr, h1⟩, if_pos h2]
theorem q_chg_in {A : q_R} {r : Nat} : q_chg A (2 * r + 1) = if A (184 + 17 * r) = 1 then 0 else q_pe A r := by
  unfold q_chg
  rw [if_pos (by omega), show (2 * r + 1) / 2 = r by omega]
def q_can (A : q_R) (t r : Nat) (L : List Nat) : q_R := q_w (q_setL (q_setL A (24 + 40 * t) (25 + 40 * t) (L.filter (g_no (2 * r + 1)))) (24 + 40 * t) (25 + 40 * t) ((L.filter (g_no (2 * r + 1))).filter (g_no (2 * r)))) (173 + 17 * r) 6
def q_abs (A : q_R) (t r : Nat) (L : List Nat) : q_R := q_w (q_setL A (24 + 40 * t) (25 + 40 * t) (L.filter (g_no (2 * r)))) (184 + 17 * r) 1
theorem g_no_len {s : Nat} {L : List Nat} : (L.filter (g_no s)).length ≤ L.length := List.length_filter_le _ _
theorem q_can_out {A : q_R} {t r : Nat} {L : List Nat} (hL : L.length ≤ 12) {j : Nat} (h1 : ¬ (24 + 40 * t ≤ j ∧ j < 37 + 40 * t)) (h2 : j ≠ 173 + 17 * r) : q_can A t r L j = A j := by
  have l1 := g_no_len (s := 2 * r + 1) (L := L)
  have l2 := g_no_len (s := 2 * r) (L := L.filter (g_no (2 * r + 1)))
  unfold q_can
  rw [q_w_ne h2, q_setL_out (by omega) (by omega), q_setL_out (by omega) (by omega)]
theorem q_abs_out {A : q_R} {t r : Nat} {L : List Nat} (hL : L.length ≤ 12) {j : Nat} (h1 : ¬ (24 + 40 * t ≤ j ∧ j < 37 + 40 * t)) (h2 : j ≠ 184 + 17 * r) : q_abs A t r L j = A j := by
  have l1 := g_no_len (s := 2 * r) (L := L)
  unfold q_abs
  rw [q_w_ne h2, q_setL_out (by omega) (by omega)]
theorem q_chg_row {A A' : q_R} {s : Nat} (h1 : A' (176 + 17 * (s / 2)) = A (176 + 17 * (s / 2))) (h2 : A' (184 + 17 * (s / 2)) = A (184 + 17 * (s / 2))) : q_chg A' s = q_chg A s := by
  unfold q_chg q_pe
  rw [h1, h2]
theorem q_J.cancel {c A : q_R} {t r n : Nat} {rt pt : List Nat} (h : q_J c A) (hcJ : q_conJ c) (hT4 : q_T c ≤ 4) (ht : t < q_T c) (hL : q_taxiL c A t n rt pt) (hn : n ≤ 6) (en : c (70 + t) = Int32.ofNat n) (hr : r < q_N A) (h1 : A (173 + 17 * r) = 1) (htx : A (180 + 17 * r) = Int32.ofNat t) (hst1 : A (16 + 40 * t) ≠ -1 → rt[0]? ≠ some (2 * r + 1)) : q_J c (q_can A t r rt) := by
  have hN := h.1.2
  have hl12 := hL.1.2.1
  have l1 := g_no_len (s := 2 * r + 1) (L := rt)
  have l2 := g_no_len (s := 2 * r) (L := rt.filter (g_no (2 * r + 1)))
  have e173 : q_can A t r rt (173 + 17 * r) = 6 := q_w_same _ _ _
  have e184 : q_can A t r rt (184 + 17 * r) = A (184 + 17 * r) := q_can_out hl12 (by omega) (by omega)
  have eN : q_N (q_can A t r rt) = q_N A := by unfold q_N; rw [q_can_out hl12 (by omega) (by omega)]
  have hsub : ∀ x ∈ (rt.filter (g_no (2 * r + 1))).filter (g_no (2 * r)), x ∈ rt ∧ x / 2 ≠ r := fun x hx => by
    obtain ⟨a1, a2⟩ := List.mem_filter.mp hx
    obtain ⟨b1, b2⟩ := List.mem_filter.mp a1
    have := g_no_t.mp a2
    have := g_no_t.mp b2
    exact ⟨b1, by omega⟩
  have hshould := q_should_1 hr htx h1
  have hofr := hL.1.2.2.2 r
  rw [hshould] at hofr
  have hperr := h.per6 hr
  obtain ⟨-, hp1, -⟩ := hperr.pe
  have hzs : ∀ x ∈ rt, q_zo A x < 8 := fun x hx => by
    obtain ⟨⟨a, ha, ea⟩, ⟨b, hb, eb⟩, -⟩ := (h.2.2.1 (x / 2) (by have := hL.1.2.2.1 x hx; omega)).1
    unfold q_zo
    by_cases ho : x % 2 = 1
    · rw [if_pos ho, ea, i_cl (by omega)]
      exact ha
    · rw [if_neg ho, eb, i_cl (by omega)]
      exact hb
  obtain ⟨⟨z, hz8, ez⟩, -⟩ := h.2.2.2 t ht
  have hz0 : (A (13 + 40 * t)).toNatClampNeg < 8 := by rw [ez, i_cl (by omega)]; exact hz8
  refine h.route hT4 ht hL hn en hr (by rw [h1]; decide) (by rw [e173]; decide) (Or.inl htx) (Or.inr (by rw [e173]; decide)) (fun j q1 q2 q3 q4 => q_can_out hl12 q1 q2) (by rw [e184]; exact h.abs r hr) ?_ (by omega) (fun x hx => hL.1.2.2.1 x (hsub x hx).1) ?_ (fun u hu => ?_) ?_ (fun q => ?_) ?_
  · refine q_setL_li' (A := q_setL A (24 + 40 * t) (25 + 40 * t) (rt.filter (g_no (2 * r + 1)))) (by omega) fun j hj => ?_
    unfold q_can
    rw [q_w_ne (by omega)]
  · rw [g_ofr_gone (fun x hx => (hsub x hx).2), q_should_0 (by rw [e173]; decide) (by rw [e173]; decide)]
  · rw [g_ofr_no (by omega), g_ofr_no (by omega)]
  · have c1 := g_filter hcJ (g_no (2 * r + 1)) rt _ hz0 hzs hL.2.2.1
    exact g_filter hcJ (g_no (2 * r)) _ _ hz0 (fun x hx => hzs x (List.mem_filter.mp hx).1) c1
  · -- nothing is left: then the first stop was the pickup of the ride
    refine Decidable.byContradiction fun hne => ?_
    cases hrt : rt with
    | nil =>
      rw [hrt] at hofr
      have : q_ofr r ([] : List Nat) = [] := rfl
      rw [this] at hofr
      split at hofr <;> cases hofr
    | cons x l =>
      have hx0 : rt[0]? = some x := by rw [hrt]; rfl
      have hxr : x / 2 = r := by
        refine Decidable.byContradiction fun hxr => ?_
        have hx : x ∈ (rt.filter (g_no (2 * r + 1))).filter (g_no (2 * r)) := List.mem_filter.mpr ⟨List.mem_filter.mpr ⟨by rw [hrt]; exact List.mem_cons_self .., g_no_t.mpr (by omega)⟩, g_no_t.mpr (by omega)⟩
        rw [q] at hx
        cases hx
      rw [hrt, g_ofr_pos hxr] at hofr
      have hx1 : x = 2 * r + 1 := by
        split at hofr
        · injection hofr
        · injection hofr
      exact hst1 hne (by rw [hx0, hx1])
  · have hq := g_prof_drop (A := A) (A' := q_can A t r rt) (r := r) (n := n) (q := fun x => g_no (2 * r) x && g_no (2 * r + 1) x) (fun x hx => by
      rw [g_no_t.mpr (show x ≠ 2 * r by omega), g_no_t.mpr (show x ≠ 2 * r + 1 by omega)]
      rfl) (by simp [g_no]) (fun x hx => q_chg_row (q_can_out hl12 (by omega) (by omega)) (q_can_out hl12 (by omega) (by omega))) (fun q => by simp [g_no] at q) (by omega) (by rw [q_chg_in]; split <;> omega) rt (q_sumP A pt) (q_sumP A pt) (Int.le_refl _) (by
      by_cases ha : A (184 + 17 * r) = 1
      · rw [if_pos ha] at hofr
        exact Or.inl hofr
      · rw [if_neg ha] at hofr
        exact Or.inr ⟨hofr, by rw [q_chg_in, if_neg ha]⟩) hL.2.2.2.2
    rw [List.filter_filter]
    exact hq
theorem q_J.absent {c A : q_R} {t r n : Nat} {rt pt : List Nat} (h : q_J c A) (hcJ : q_conJ c) (hT4 : q_T c ≤ 4) (ht : t < q_T c) (hL : q_taxiL c A t n rt pt) (hn : n ≤ 6) (en : c (70 + t) = Int32.ofNat n) (hr : r < q_N A) (h1 : A (173 + 17 * r) = 1) (htx : A (180 + 17 * r) = Int32.ofNat t) (hab : A (184 + 17 * r) = 0) : q_J c (q_abs A t r rt) := by
  have hN := h.1.2
  have hl12 := hL.1.2.1
  have l1 := g_no_len (s := 2 * r) (L := rt)
  have e173 : q_abs A t r rt (173 + 17 * r) = 1 := by rw [q_abs_out hl12 (by omega) (by omega), h1]
  have e180 : q_abs A t r rt (180 + 17 * r) = Int32.ofNat t := by rw [q_abs_out hl12 (by omega) (by omega), htx]
  have e184 : q_abs A t r rt (184 + 17 * r) = 1 := q_w_same _ _ _
  have eN : q_N (q_abs A t r rt) = q_N A := by unfold q_N; rw [q_abs_out hl12 (by omega) (by omega)]
  have hshould := q_should_1 hr htx h1
  have hofr := hL.1.2.2.2 r
  rw [hshould, if_neg (by rw [hab]; decide)] at hofr
  obtain ⟨-, hp1, -⟩ := (h.per6 hr).pe
  have hzs : ∀ x ∈ rt, q_zo A x < 8 := fun x hx => by
    obtain ⟨⟨a, ha, ea⟩, ⟨b, hb, eb⟩, -⟩ := (h.2.2.1 (x / 2) (by have := hL.1.2.2.1 x hx; omega)).1
    unfold q_zo
    by_cases ho : x % 2 = 1
    · rw [if_pos ho, ea, i_cl (by omega)]
      exact ha
    · rw [if_neg ho, eb, i_cl (by omega)]
      exact hb
  obtain ⟨⟨z, hz8, ez⟩, -⟩ := h.2.2.2 t ht
  have hz0 : (A (13 + 40 * t)).toNatClampNeg < 8 := by rw [ez, i_cl (by omega)]; exact hz8
  have hofr2 : q_ofr r (rt.filter (g_no (2 * r))) = [2 * r + 1] := by
    rw [g_ofr_swap, hofr, List.filter_cons_of_pos (g_no_t.mpr (by omega)), List.filter_cons_of_neg (fun q => g_no_t.mp q rfl)]
    rfl
  refine h.route (L' := rt.filter (g_no (2 * r))) hT4 ht hL hn en hr (by rw [h1]; decide) (by rw [e173]; decide) (Or.inl htx) (Or.inl e180) (fun j q1 q2 q3 q4 => q_abs_out hl12 q1 q4) (Or.inr e184) ?_ (by omega) (fun x hx => hL.1.2.2.1 x (List.mem_filter.mp hx).1) ?_ (fun u hu => ?_) ?_ (fun q => ?_) ?_
  · refine q_setL_li' (A := A) (by omega) fun j hj => ?_
    unfold q_abs
    rw [q_w_ne (by omega)]
  · rw [hofr2, q_should_1 (by rw [eN]; exact hr) e180 e173, if_pos e184]
  · rw [g_ofr_no (by omega)]
  · exact g_filter hcJ (g_no (2 * r)) rt _ hz0 hzs hL.2.2.1
  · rw [q] at hofr2
    cases hofr2
  · exact g_prof_drop (A := A) (A' := q_abs A t r rt) (r := r) (n := n) (q := g_no (2 * r)) (fun x hx => g_no_t.mpr (by omega)) (by simp [g_no]) (fun x hx => q_chg_row (q_abs_out hl12 (by omega) (by omega)) (q_abs_out hl12 (by omega) (by omega))) (fun q => by rw [q_chg_in, if_pos e184]; exact Int.le_refl _) (by omega) (by rw [q_chg_in, if_neg (by rw [hab]; decide)]; omega) rt (q_sumP A pt) (q_sumP A pt) (Int.le_refl _) (Or.inr ⟨hofr, by rw [q_chg_in, if_neg (by rw [hab]; decide)]⟩) hL.2.2.2.2
theorem a_hasTaxi {o t : Nat} {M : z_Mem} {s : q_S} (hI : q_I s) (hc : c_all o M s) (ht : t < q_T s.1) : F_Desk_hasTaxi (o + 5) (Int32.ofNat t) M = some 1 := by
  have hT4 := hI.taxis4
  unfold F_Desk_hasTaxi
  rw [hc.2.1.2.2.2.2.1, hI.taxis, if_neg (i_nn (by omega)), if_neg (i_nle (by omega) (by omega) ht), if_neg (show ¬ (4 : Int32) ≤ Int32.ofNat t from i_nle (a := 4) (by decide) (by omega) (by omega))]
theorem a_pickupOf {r : Nat} (M : z_Mem) : F_Desk_pickupOf (Int32.ofNat r) M = some (Int32.ofNat (2 * r + 1)) := by
  unfold F_Desk_pickupOf
  rw [show (2 : Int32) = Int32.ofNat 2 from rfl, show (1 : Int32) = Int32.ofNat 1 from rfl, i_mul, i_add, Nat.mul_comm]
theorem a_dropOf {r : Nat} (M : z_Mem) : F_Desk_dropOf (Int32.ofNat r) M = some (Int32.ofNat (2 * r)) := by
  unfold F_Desk_dropOf
  rw [show (2 : Int32) = Int32.ofNat 2 from rfl, i_mul, Nat.mul_comm]
/-- the class's route of a taxi, as a list -/
theorem c_route {o t : Nat} {M : z_Mem} {s : q_S} {L : List Nat} (hc : c_all o M s) (ht : t < q_T s.1) (hli : q_li s.2.1 (24 + 40 * t) (25 + 40 * t) L) (hL : L.length ≤ 12) : M.1 (o + 5 + 4 + 3 * t) 7 = Int32.ofNat L.length ∧ ∀ k, k < L.length → M.1 (o + 5 + 4 + 3 * t + 1) k = Int32.ofNat (g_l L k) := by
  have tx := hc.2.1.2.2.2.2.2.2.2.1 t ht
  refine ⟨tx.2.2.2.2.2.2.2.1.trans hli.1, fun k hk => (tx.2.2.2.2.2.2.2.2.2.2.2.2.2.2.2.1 k (by omega) ?_).trans (hli.2 k _ (g_l_get hk))⟩
  rw [hli.1]
  exact (i_lt (by omega) (by omega)).mpr hk
theorem c_party {o t : Nat} {M : z_Mem} {s : q_S} {L : List Nat} (hc : c_all o M s) (ht : t < q_T s.1) (hli : q_li s.2.1 (37 + 40 * t) (38 + 40 * t) L) (hL : L.length ≤ 6) : M.1 (o + 5 + 4 + 3 * t) 8 = Int32.ofNat L.length ∧ ∀ k, k < L.length → M.1 (o + 5 + 4 + 3 * t + 2) k = Int32.ofNat (g_l L k) := by
  have tx := hc.2.1.2.2.2.2.2.2.2.1 t ht
  refine ⟨tx.2.2.2.2.2.2.2.2.1.trans hli.1, fun k hk => (tx.2.2.2.2.2.2.2.2.2.2.2.2.2.2.2.2 k (by omega) ?_).trans (hli.2 k _ (g_l_get hk))⟩
  rw [hli.1]
  exact (i_lt (by omega) (by omega)).mpr hk
theorem a_cancel {o L : Nat} {S : Nat → Int32} {i : Int32} {M : z_Mem} {s : q_S} {c : z_Mem → Option (Int32 × z_Mem)} (hI : q_Inv s) (hc : c_all o M s) (hm : m_all (o + 548) M s) (h1 : z_inb (i + (1 : Int32)) L) : ∃ M' s', Fc_1541 o L S i M c = c M' ∧ c_all o M' s' ∧ m_all (o + 548) M' s' ∧ q_Inv s' := by
  generalize hp : S (i + 1).toNatClampNeg = p
  have hN24 := hI.1.I.rides24
  have hT4 := hI.1.I.taxis4
  have ct := a_ride_c hI.1.I hc
  have mt := fun (N : z_Mem) (hN : m_all (o + 548) N s) p => a_ride_m (m := o + 548) (N := z_wI N (o + 548) 0 0) (R := q_N s.2.1) (by omega) (m_rides hI.1.I (hN.thr 0)) p
  rcases q_split (q_N s.2.1) (by omega) p with ⟨r, hr, rfl⟩ | hb
  · have gr := q_good (n := q_N s.2.1) (by omega) hr
    obtain ⟨x0, -, -, -, -, -, -, -, -, x9, -⟩ := hc.2.1.2.2.2.2.2.2.2.2 r hr
    have of0 : ∀ N, m_all (o + 548) N s → F_Model_of (o + 548) (Int32.ofNat r) 0 N = some (s.2.1 (173 + 17 * r)) := fun N hN => m_ofL (kl := 0) hN 0 (by omega) (by omega) rfl
    by_cases h0 : s.2.1 (173 + 17 * r) = 1
    · obtain ⟨t, ht, et⟩ := (hI.1.2.1.2.2.1 r hr).2.2 (Or.inl h0)
      obtain ⟨n, rt, pt, hn, en, hL⟩ := hI.1.L ht
      have hl12 := hL.1.2.1
      rw [et] at x9
      have hz4 : z_inb (Int32.ofNat t) 4 := (i_inb (by omega)).mpr (by omega)
      have ctt : (Int32.ofNat t).toNatClampNeg = t := i_cl (by omega)
      have tx := hc.2.1.2.2.2.2.2.2.2.1 t ht
      obtain ⟨h7, hl⟩ := c_route hc ht hL.1.1 hl12
      have of7 : ∀ N, m_all (o + 548) N s → F_Model_of (o + 548) (Int32.ofNat r) 7 N = some (Int32.ofNat t) := fun N hN => by
        rw [m_ofL (kl := 7) hN 7 (by omega) (by omega) rfl, show 173 + 17 * r + 7 = 180 + 17 * r by omega, et]
      have in3 : ∀ N, m_all (o + 548) N s → F_Model_in2 (o + 548) (Int32.ofNat t) 3 N = some (s.2.1 (16 + 40 * t)) := fun N hN => by
        rw [m_in2L (kl := 3) hN 3 (by omega) (by omega) rfl]
        exact congrArg some (congrArg s.2.1 (by omega))
      have hrt0 : 0 < rt.length := by
        refine Decidable.byContradiction fun q => ?_
        have hofr := hL.1.2.2.2 r
        have hnil : rt = [] := List.length_eq_zero_iff.mp (by omega)
        rw [q_should_1 hr et h0, hnil] at hofr
        have : q_ofr r ([] : List Nat) = [] := rfl
        rw [this] at hofr
        split at hofr <;> cases hofr
      have h48 := hL.1.2.2.1 _ (g_l_mem hrt0)
      have in12 : ∀ N, m_all (o + 548) N s → F_Model_in2 (o + 548) (Int32.ofNat t) 12 N = some (Int32.ofNat (g_l rt 0)) := fun N hN => by
        rw [m_in2L (kl := 12) hN 12 (by omega) (by omega) rfl, show 13 + 40 * t + 12 = 25 + 40 * t + 0 by omega, hL.1.1.2 0 _ (g_l_get hrt0)]
      have est : F_Taxi_stopAt (o + 5 + 4 + 3 * t) 0 M = some (Int32.ofNat (g_l rt 0)) := (a_stopAt (k := 0) h7 hl12 hrt0).trans (congrArg some (hl 0 hrt0))
      have e2r : ∀ r : Nat, (2 * Int32.ofNat r + 1 : Int32) = Int32.ofNat (2 * r + 1) := fun r => by rw [show (2 : Int32) = Int32.ofNat 2 from rfl, show (1 : Int32) = Int32.ofNat 1 from rfl, i_mul, i_add]
      have e2r0 : ∀ r : Nat, (2 * Int32.ofNat r : Int32) = Int32.ofNat (2 * r) := fun r => by rw [show (2 : Int32) = Int32.ofNat 2 from rfl, i_mul]
      by_cases hno : s.2.1 (16 + 40 * t) ≠ -1 ∧ g_l rt 0 = 2 * r + 1
      · obtain ⟨M', e, g1, g2⟩ := k_cancel (S := S) (c := c) (y := .ok (-3)) (s' := s) q_c1n hm h1 (l_of (c_ok (M' := M) (by
          rw [hp]
          unfold F_Sys_cancel
          simp only [zxm, zb, (ct _).2 r hr rfl]
          rw [x0, if_pos h0, x9, a_hasTaxi hI.1.I hc ht]
          simp only [zl, ctt]
          rw [if_neg (by decide), if_pos hz4, tx.2.2.2.2.2.2.1, if_neg hno.1, est]
          simp only
          rw [a_pickupOf]
          simp only
          rw [if_pos (by rw [hno.2])]) hc q_C.rfl') (fun e M1 he => by cases he)) (fun N hN => m_val hN (b := -3) rfl (by
          have hN0 := hN.thr 0
          rw [hp]
          unfold F_Model_cancel
          simp only [zl]
          rw [zb2_ok ((mt N hN _).2 gr), if_pos rfl, zb_ok (of0 _ hN0), if_pos h0, zb_ok (of7 _ hN0), zb_ok (in3 _ hN0), if_neg hno.1, zb_ok (in12 _ hN0), e2r, if_pos (by rw [hno.2])]))
        exact ⟨M', s, e, g1, g2, hI⟩
      · obtain ⟨M8, e8, c8, k8, fr8⟩ := a_note_c (o := o) hI.1.I hI.1.2.1.abs hc
        have hst48 : ∀ x ∈ rt, x < 48 := fun x hx => by have := hL.1.2.2.1 x hx; omega
        have l1 := g_no_len (s := 2 * r + 1) (L := rt)
        have l2 := g_no_len (s := 2 * r) (L := rt.filter (g_no (2 * r + 1)))
        obtain ⟨h78, hl8⟩ := c_route c8 ht (show q_li (q_noted s).2.1 _ _ rt from hL.1.1) hl12
        obtain ⟨M10, e10, i1, i2, i3, i4, i5⟩ := c_remove (s := 2 * r + 1) hl12 (by omega) hst48 h78 hl8
        have c10 := c8.rt (M' := M10) ht hT4 (by omega) i1 i2 i3 i4
        obtain ⟨M12, e12, j1, j2, j3, j4, j5⟩ := c_remove (s := 2 * r) (show (rt.filter (g_no (2 * r + 1))).length ≤ 12 by omega) (by omega) (fun x hx => hst48 x (List.mem_filter.mp hx).1) i1 i2
        have c12 := c10.rt (M' := M12) ht hT4 (by omega) j1 j2 j3 j4
        have hrN : r < q_N (q_setL (q_setL s.2.1 (24 + 40 * t) (25 + 40 * t) (rt.filter (g_no (2 * r + 1)))) (24 + 40 * t) (25 + 40 * t) ((rt.filter (g_no (2 * r + 1))).filter (g_no (2 * r)))) := by
          unfold q_N
          rw [q_setL_out (by omega) (by omega), q_setL_out (by omega) (by omega)]
          exact hr
        have c13 := c12.wr (r := r) (k := 0) (v := 6) hrN (Or.inr ⟨rfl, by decide⟩)
        have c13' : c_all o (z_wI M12 (o + 5 + 16 + r) 0 6) (q_row (q_noted s) (q_can s.2.1 t r rt)) := c13
        have hJ := hI.1.2.1.cancel hI.1.1.2 hT4 ht hL hn en hr h0 et (fun hne q => hno ⟨hne, (g_l_of q).2⟩)
        have hI2 : q_Inv (q_row (q_noted s) (q_can s.2.1 t r rt)) := hI.noted.row hJ (fun u hu hu0 => by
          have eN : q_N (q_can s.2.1 t r rt) = q_N s.2.1 := by unfold q_N; rw [q_can_out hl12 (by omega) (by omega)]
          rw [eN] at hu
          by_cases hur : u = r
          · subst hur
            rw [show q_can s.2.1 t u rt (173 + 17 * u) = 6 from q_w_same _ _ _] at hu0
            exact absurd hu0 (by decide)
          · rw [q_can_out hl12 (by omega) (by omega)] at hu0
            rw [q_can_out hl12 (by omega) (by omega), q_can_out hl12 (by omega) (by omega)]
            exact hI.2.1 u hu hu0)
        have eJ67 : F_Sys_cancel_J67 o (Int32.ofNat r) (o + 5 + 16 + r) (o + 5 + 4 + 3 * t) M = some (.ok (Int32.ofNat ((rt.filter (g_no (2 * r + 1))).filter (g_no (2 * r))).length), z_wI M12 (o + 5 + 16 + r) 0 6) := by
          unfold F_Sys_cancel_J67
          rw [zb_ok e8, zb_ok (a_pickupOf M8), zb_ok e10, zb_ok (a_dropOf M10), zb_ok e12]
          simp only [zl]
          rw [w_addr _ (show o + 5 + 4 + 3 * t ≠ o + 5 + 16 + r by omega), j1]
        obtain ⟨M', e, g1, g2⟩ := k_cancel (S := S) (c := c) (y := .ok (Int32.ofNat ((rt.filter (g_no (2 * r + 1))).filter (g_no (2 * r))).length)) (s' := q_row (q_noted s) (q_can s.2.1 t r rt)) q_c1n hm h1 (l_of (c_ok (by
          rw [hp]
          unfold F_Sys_cancel
          simp only [zxm, zb, (ct _).2 r hr rfl]
          rw [x0, if_pos h0, x9, a_hasTaxi hI.1.I hc ht]
          simp only [zl, ctt]
          rw [if_neg (by decide), if_pos hz4, tx.2.2.2.2.2.2.1]
          by_cases hne : s.2.1 (16 + 40 * t) = -1
          · rw [if_pos hne]
            exact eJ67
          · rw [if_neg hne, est]
            simp only
            rw [a_pickupOf]
            simp only
            rw [if_neg (fun q => hno ⟨hne, (i_eq (by omega) (by omega)).mp q⟩)]
            exact eJ67) c13' (((k8.tr (fun a ha => ⟨i4 a (by unfold q_inM at ha; omega) (by unfold q_inM at ha; omega), by rw [i5]⟩)).tr (fun a ha => ⟨j4 a (by unfold q_inM at ha; omega) (by unfold q_inM at ha; omega), by rw [j5]⟩)).tr (q_C.w (Or.inl ⟨by omega, by omega⟩)))) (fun e M1 he => by cases he)) (fun N hN => by
          have hN0 := hN.thr 0
          obtain ⟨N8, f8, m8, q8, n8, n8'⟩ := a_note_m hN0
          obtain ⟨N9, f9, m9, n9, n9'⟩ := m_drops (m := o + 548) (t := t) (s' := 2 * r + 1) (s := q_noted s) (by omega) hl12 (by omega) hst48 hL.1.1 m8
          obtain ⟨N10, f10, m10, n10, n10'⟩ := m_drops (m := o + 548) (t := t) (s' := 2 * r) (s := q_row (q_noted s) (q_setL s.2.1 (24 + 40 * t) (25 + 40 * t) (rt.filter (g_no (2 * r + 1))))) (L := rt.filter (g_no (2 * r + 1))) (by omega) (by omega) (by omega) (fun x hx => hst48 x (List.mem_filter.mp hx).1) (q_setL_li (by omega)) m9
          have m11 := m10.w (k := 173 + 17 * r) (v := 6)
          have m11' : m_all (o + 548) (z_wI N10 (o + 548 + 1) (173 + 17 * r) 6) (q_row (q_noted s) (q_can s.2.1 t r rt)) := m11
          have in11 : F_Model_in2 (o + 548) (Int32.ofNat t) 11 (z_wI N10 (o + 548 + 1) (173 + 17 * r) 6) = some (Int32.ofNat ((rt.filter (g_no (2 * r + 1))).filter (g_no (2 * r))).length) := by
            rw [m_in2L (kl := 11) m11' 11 (by omega) (by omega) rfl, show 13 + 40 * t + 11 = 24 + 40 * t by omega]
            show some (q_can s.2.1 t r rt (24 + 40 * t)) = _
            unfold q_can q_setL
            rw [q_w_ne (by omega), q_w_same]
          have eM : F_Model_cancel_J64 (o + 548) (Int32.ofNat r) (Int32.ofNat t) (z_wI N (o + 548) 0 0) = some (Int32.ofNat ((rt.filter (g_no (2 * r + 1))).filter (g_no (2 * r))).length, z_wI N10 (o + 548 + 1) (173 + 17 * r) 6) := by
            unfold F_Model_cancel_J64
            rw [e2r, e2r0, zb_ok f8, zb_ok f9, zb_ok f10, zb_ok (m_sets (kl := 0) (k := 0) (by omega) (by omega) rfl), show 173 + 17 * r + 0 = 173 + 17 * r from rfl, zb_ok in11]
          refine m_ok (N' := z_wI N10 (o + 548 + 1) (173 + 17 * r) 6) (b := Int32.ofNat ((rt.filter (g_no (2 * r + 1))).filter (g_no (2 * r))).length) ?_ rfl m11' ?_ (q8.tr (fun a ha => ⟨?_, ?_⟩))
          · rw [hp]
            unfold F_Model_cancel
            simp only [zl]
            rw [zb2_ok ((mt N hN _).2 gr), if_pos rfl, zb_ok (of0 _ hN0), if_pos h0, zb_ok (of7 _ hN0), zb_ok (in3 _ hN0)]
            by_cases hne : s.2.1 (16 + 40 * t) = -1
            · rw [if_pos hne]
              exact eM
            · rw [if_neg hne, zb_ok (in12 _ hN0), e2r, if_neg (fun q => hno ⟨hne, (i_eq (by omega) (by omega)).mp q⟩)]
              exact eM
          · rw [w_addr _ (by omega), n10 _ (by omega), n9 _ (by omega), n8 0 (by decide), w_same]
          · unfold q_inC at ha
            rw [← n9 a (by omega), ← n10 a (by omega)]
            exact funext fun k => w_addr k (by omega)
          · rw [← n9', ← n10']
            rfl)
        exact ⟨M', _, e, g1, g2, hI2⟩
    · obtain ⟨M', e, g1, g2⟩ := k_cancel (S := S) (c := c) (y := .ok (-2)) (s' := s) q_c1n hm h1 (l_of (c_ok (M' := M) (by
        rw [hp]
        unfold F_Sys_cancel
        simp only [zxm, zb, (ct _).2 r hr rfl]
        rw [x0, if_neg h0]) hc q_C.rfl') (fun e M1 he => by cases he)) (fun N hN => m_val hN (b := -2) rfl (by
        rw [hp]
        unfold F_Model_cancel
        simp only [zl]
        rw [zb2_ok ((mt N hN _).2 gr), if_pos rfl, zb_ok (of0 _ (hN.thr 0)), if_neg h0]))
      exact ⟨M', s, e, g1, g2, hI⟩
  · obtain ⟨M', e, g1, g2⟩ := k_cancel (S := S) (c := c) (y := .error 1) q_c1n hm h1 (l_of (c_thr hc (by
      rw [hp]
      unfold F_Sys_cancel
      simp only [zxm, zb, (ct _).1 hb])) (fun e M1 he => by cases he; rfl)) (fun N hN => m_err hN (b := 0) (v := 1) rfl (by
      rw [hp]
      unfold F_Model_cancel
      simp only [zl]
      rw [zb2_ok ((mt N hN _).1 hb)]
      rfl))
    exact ⟨M', s, e, g1, g2, hI⟩
