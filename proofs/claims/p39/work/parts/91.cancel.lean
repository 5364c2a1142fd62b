/-! ===== the class's side (out of whole, by program) ===== -/
theorem g_ofr_no {u s : Nat} {L : List Nat} (h : s / 2 ≠ u) : q_ofr u (L.filter (g_no s)) = q_ofr u L := by
  unfold q_ofr
  rw [List.filter_filter]
  refine List.filter_congr fun x hx => ?_
  by_cases hxu : x / 2 = u
  · have : x ≠ s := fun q => h (by rw [← q]; exact hxu)
    simp [hxu, g_no_t.mpr this]
  · simp [hxu]
theorem g_ofr_swap {r s : Nat} {L : List Nat} : q_ofr r (L.filter (g_no s)) = (q_ofr r L).filter (g_no s) := by
  unfold q_ofr
  rw [List.filter_filter, List.filter_filter]
  refine List.filter_congr fun x hx => ?_
  rw [Bool.and_comm]
theorem q_should_1 {A : q_R} {t r : Nat} (hr : r < q_N A) (h1 : A (180 + 17 * r) = Int32.ofNat t) (h2 : A (173 + 17 * r) = 1) : q_should A t r = if A (184 + 17 * r) = 1 then [2 * r + 1] else [2 * r + 1, 2 * r] := by
  unfold q_should
  rw [if_pos ⟨hr, h1⟩, if_pos h2]
theorem q_chg_in {A : q_R} {r : Nat} : q_chg A (2 * r + 1) = if A (184 + 17 * r) = 1 then 0 else q_pe A r := by
  unfold q_chg
  rw [if_pos (by omega), show (2 * r + 1) / 2 = r by omega]
def q_abs (A : q_R) (t r : Nat) (L : List Nat) : q_R := q_w (q_setL A (24 + 40 * t) (25 + 40 * t) (L.filter (g_no (2 * r)))) (184 + 17 * r) 1
theorem g_no_len {s : Nat} {L : List Nat} : (L.filter (g_no s)).length ≤ L.length := List.length_filter_le _ _
theorem q_abs_out {A : q_R} {t r : Nat} {L : List Nat} (hL : L.length ≤ 12) {j : Nat} (h1 : ¬ (24 + 40 * t ≤ j ∧ j < 37 + 40 * t)) (h2 : j ≠ 184 + 17 * r) : q_abs A t r L j = A j := by
  have l1 := g_no_len (s := 2 * r) (L := L)
  unfold q_abs
  rw [q_w_ne h2, q_setL_out (by omega) (by omega)]
theorem q_chg_row {A A' : q_R} {s : Nat} (h1 : A' (176 + 17 * (s / 2)) = A (176 + 17 * (s / 2))) (h2 : A' (184 + 17 * (s / 2)) = A (184 + 17 * (s / 2))) : q_chg A' s = q_chg A s := by
  unfold q_chg q_pe
  rw [h1, h2]
theorem q_J.absent {c A : q_R} {t r n : Nat} {rt pt : List Nat} (h : q_J c A) (hcJ : q_conJ c) (hT4 : q_T c ≤ 4) (ht : t < q_T c) (hL : q_taxiL c A t n rt pt) (hn : n ≤ 6) (en : c (70 + t) = Int32.ofNat n) (hr : r < q_N A) (h1 : A (173 + 17 * r) = 1) (htx : A (180 + 17 * r) = Int32.ofNat t) (hab : A (184 + 17 * r) = 0) : q_J c (q_abs A t r rt) := by
  have hN := h.1.2
  have hl12 := hL.1.2.1
  have l1 := g_no_len (s := 2 * r) (L := rt)
  have e173 : q_abs A t r rt (173 + 17 * r) = 1 := by rw [q_abs_out hl12 (by omega) (by omega), h1]
  have e180 : q_abs A t r rt (180 + 17 * r) = Int32.ofNat t := by rw [q_abs_out hl12 (by omega) (by omega), htx]
  have e184 : q_abs A t r rt (184 + 17 * r) = 1 := q_w_same _ _ _
  have eN : q_N (q_abs A t r rt) = q_N A := by unfold q_N; rw [q_abs_out hl12 (by omega) (by omega)]
  have hshould := q_should_1 hr htx h1
  have hofr := hL.1.2.2.2 r
  rw [hshould, if_neg (by rw [hab]; decide)] at hofr
  obtain ⟨-, hp1, -⟩ := (h.per6 hr).pe
  have hzs : ∀ x ∈ rt, q_zo A x < 8 := fun x hx => by
    obtain ⟨⟨a, ha, ea⟩, ⟨b, hb, eb⟩, -⟩ := (h.2.2.1 (x / 2) (by have := hL.1.2.2.1 x hx; omega)).1
    unfold q_zo
    by_cases ho : x % 2 = 1
    · rw [if_pos ho, ea, i_cl (by omega)]
      exact ha
    · rw [if_neg ho, eb, i_cl (by omega)]
      exact hb
  obtain ⟨⟨z, hz8, ez⟩, -⟩ := h.2.2.2 t ht
  have hz0 : (A (13 + 40 * t)).toNatClampNeg < 8 := by rw [ez, i_cl (by omega)]; exact hz8
  have hofr2 : q_ofr r (rt.filter (g_no (2 * r))) = [2 * r + 1] := by
    rw [g_ofr_swap, hofr, List.filter_cons_of_pos (g_no_t.mpr (by omega)), List.filter_cons_of_neg (fun q => g_no_t.mp q rfl)]
    rfl
  refine h.route (L' := rt.filter (g_no (2 * r))) hT4 ht hL hn en hr (by rw [h1]; decide) (by rw [e173]; decide) (Or.inl htx) (Or.inl e180) (fun j q1 q2 q3 q4 => q_abs_out hl12 q1 q4) (Or.inr e184) ?_ (by omega) (fun x hx => hL.1.2.2.1 x (List.mem_filter.mp hx).1) ?_ (fun u hu => ?_) ?_ (fun q => ?_) ?_
  · refine q_setL_li' (A := A) (by omega) fun j hj => ?_
    unfold q_abs
    rw [q_w_ne (by omega)]
  · rw [hofr2, q_should_1 (by rw [eN]; exact hr) e180 e173, if_pos e184]
  · rw [g_ofr_no (by omega)]
  · exact g_filter hcJ (g_no (2 * r)) rt _ hz0 hzs hL.2.2.1
  · rw [q] at hofr2
    cases hofr2
  · exact g_prof_drop (A := A) (A' := q_abs A t r rt) (r := r) (n := n) (q := g_no (2 * r)) (fun x hx => g_no_t.mpr (by omega)) (by simp [g_no]) (fun x hx => q_chg_row (q_abs_out hl12 (by omega) (by omega)) (q_abs_out hl12 (by omega) (by omega))) (fun q => by rw [q_chg_in, if_pos e184]; exact Int.le_refl _) (by omega) (by rw [q_chg_in, if_neg (by rw [hab]; decide)]; omega) rt (q_sumP A pt) (q_sumP A pt) (Int.le_refl _) (Or.inr ⟨hofr, by rw [q_chg_in, if_neg (by rw [hab]; decide)]⟩) hL.2.2.2.2
theorem a_hasTaxi {o t : Nat} {M : z_Mem} {s : q_S} (hI : q_I s) (hc : c_all o M s) (ht : t < q_T s.1) : F_Desk_hasTaxi (o + 5) (Int32.ofNat t) M = some 1 := by
  have hT4 := hI.taxis4
  unfold F_Desk_hasTaxi
  rw [hc.2.1.2.2.2.2.1, hI.taxis, if_neg (i_nn (by omega)), if_neg (i_nle (by omega) (by omega) ht), if_neg (show ¬ (4 : Int32) ≤ Int32.ofNat t from i_nle (a := 4) (by decide) (by omega) (by omega))]
theorem a_dropOf {r : Nat} (M : z_Mem) : F_Desk_dropOf (Int32.ofNat r) M = some (Int32.ofNat (2 * r)) := by
  unfold F_Desk_dropOf
  rw [show (2 : Int32) = Int32.ofNat 2 from rfl, i_mul, Nat.mul_comm]
/-- the class's route of a taxi, as a list -/
theorem c_route {o t : Nat} {M : z_Mem} {s : q_S} {L : List Nat} (hc : c_all o M s) (ht : t < q_T s.1) (hli : q_li s.2.1 (24 + 40 * t) (25 + 40 * t) L) (hL : L.length ≤ 12) : M.1 (o + 5 + 4 + 3 * t) 7 = Int32.ofNat L.length ∧ ∀ k, k < L.length → M.1 (o + 5 + 4 + 3 * t + 1) k = Int32.ofNat (g_l L k) := by
  have tx := hc.2.1.2.2.2.2.2.2.2.1 t ht
  refine ⟨tx.2.2.2.2.2.2.2.1.trans hli.1, fun k hk => (tx.2.2.2.2.2.2.2.2.2.2.2.2.2.2.2.1 k (by omega) ?_).trans (hli.2 k _ (g_l_get hk))⟩
  rw [hli.1]
  exact (i_lt (by omega) (by omega)).mpr hk
theorem c_party {o t : Nat} {M : z_Mem} {s : q_S} {L : List Nat} (hc : c_all o M s) (ht : t < q_T s.1) (hli : q_li s.2.1 (37 + 40 * t) (38 + 40 * t) L) (hL : L.length ≤ 6) : M.1 (o + 5 + 4 + 3 * t) 8 = Int32.ofNat L.length ∧ ∀ k, k < L.length → M.1 (o + 5 + 4 + 3 * t + 2) k = Int32.ofNat (g_l L k) := by
  have tx := hc.2.1.2.2.2.2.2.2.2.1 t ht
  refine ⟨tx.2.2.2.2.2.2.2.2.1.trans hli.1, fun k hk => (tx.2.2.2.2.2.2.2.2.2.2.2.2.2.2.2.2 k (by omega) ?_).trans (hli.2 k _ (g_l_get hk))⟩
  rw [hli.1]
  exact (i_lt (by omega) (by omega)).mpr hk
