/-! ===== the class's side (out of whole, by program) ===== -/
theorem q_prof.chg {A A' : q_R} {n : Int} : ∀ (l : List Nat) (p : Int), (∀ s ∈ l, q_chg A' s = q_chg A s) → q_prof A n p l → q_prof A' n p l
  | [], _, _, _ => trivial
  | s :: l, p, h, hp => ⟨hp.1, by rw [h s (List.mem_cons_self ..)]; exact q_prof.chg l _ (fun x hx => h x (List.mem_cons_of_mem _ hx)) hp.2⟩
theorem q_chain.zo {c A A' : q_R} : ∀ (l : List Nat) (z : Nat), (∀ s ∈ l, q_zo A' s = q_zo A s) → q_chain c A z l → q_chain c A' z l
  | [], _, _, _ => trivial
  | s :: l, z, h, hp => by
    have e := h s (List.mem_cons_self ..)
    exact ⟨by rw [e]; exact hp.1, by rw [e]; exact q_chain.zo l _ (fun x hx => h x (List.mem_cons_of_mem _ hx)) hp.2⟩
theorem q_sumP.pe {A A' : q_R} : ∀ (l : List Nat), (∀ r ∈ l, q_pe A' r = q_pe A r) → q_sumP A' l = q_sumP A l
  | [], _ => rfl
  | r :: l, h => by
    show q_pe A' r + q_sumP A' l = q_pe A r + q_sumP A l
    rw [h r (List.mem_cons_self ..), q_sumP.pe l (fun x hx => h x (List.mem_cons_of_mem _ hx))]
theorem q_should_two {A : q_R} {t u : Nat} : q_should A t u = [2 * u] ↔ u < q_N A ∧ A (173 + 17 * u) = 2 ∧ A (180 + 17 * u) = Int32.ofNat t := by
  unfold q_should
  constructor
  · intro q
    by_cases h1 : u < q_N A ∧ A (180 + 17 * u) = Int32.ofNat t
    · rw [if_pos h1] at q
      by_cases h2 : A (173 + 17 * u) = 1
      · rw [if_pos h2] at q
        split at q
        · injection q with q
          omega
        · injection q with q
          omega
      · rw [if_neg h2] at q
        by_cases h3 : A (173 + 17 * u) = 2
        · exact ⟨h1.1, h3, h1.2⟩
        · rw [if_neg h3] at q
          cases q
    · rw [if_neg h1] at q
      cases q
  · rintro ⟨h1, h2, h3⟩
    rw [if_pos ⟨h1, h3⟩, if_neg (by rw [h2]; decide), if_pos h2]
theorem q_do_out {c A : q_R} {t : Nat} {rt pt : List Nat} {j : Nat} (ht : t < 4) (hl : rt.length ≤ 12) (h6 : (f_next A pt (g_l rt 0)).length ≤ 6) (h : j < 13 + 40 * t ∨ j = 17 + 40 * t ∨ j = 19 + 40 * t ∨ (53 + 40 * t ≤ j ∧ j < 173) ∨ (173 ≤ j ∧ (∀ r, j ≠ 183 + 17 * r) ∧ j ≠ 173 + 17 * (g_l rt 0 / 2) ∧ j ≠ 181 + 17 * (g_l rt 0 / 2) ∧ j ≠ 182 + 17 * (g_l rt 0 / 2))) : q_do c A t rt pt j = A j := by
  have hd5 : q_d5 c A t rt pt j = A j := q_d5_out hl ht (by
    rcases h with h | h | h | h | h
    · exact Or.inl h
    · exact Or.inr (Or.inl h)
    · exact Or.inr (Or.inr (Or.inl h))
    · exact Or.inr (Or.inr (Or.inr (Or.inl (by omega))))
    · exact Or.inr (Or.inr (Or.inr (Or.inr ⟨h.1, h.2.1⟩))))
  have h183 : j ≠ 183 + 17 * (g_l rt 0 / 2) := by
    rcases h with h | h | h | h | h
    · omega
    · omega
    · omega
    · omega
    · exact h.2.1 _
  have h9 : ∀ st v, q_d9 c A t rt pt st v j = A j := fun st v => by
    unfold q_d9
    rw [q_w_ne (by omega), q_w_ne h183, q_w_ne (by omega), q_w_ne (by omega), hd5]
  unfold f_next at h6
  unfold q_do
  by_cases ho : g_l rt 0 % 2 = 1
  · rw [if_pos ho] at h6 ⊢
    by_cases ha : A (184 + 17 * (g_l rt 0 / 2)) = 1
    · rw [if_pos ha, h9]
    · rw [if_neg ha] at h6 ⊢
      rw [q_setL_out (by omega) (by omega), h9]
  · rw [if_neg ho] at h6 ⊢
    rw [q_setL_out (by omega) (by omega), q_w_ne (by omega), q_w_ne (by omega), hd5]
theorem q_d5_13 {c A : q_R} {t : Nat} {rt pt : List Nat} (ht : t < 4) : q_d5 c A t rt pt (13 + 40 * t) = Int32.ofNat (q_zo A (g_l rt 0)) ∧ q_d5 c A t rt pt (16 + 40 * t) = -1 := by
  unfold q_d5
  constructor
  · rw [q_setL_out (by omega) (by omega), q_w_ne (by omega), q_w_ne (by omega), q_w_same]
  · rw [q_setL_out (by omega) (by omega), q_w_same]
theorem q_do_13 {c A : q_R} {t : Nat} {rt pt : List Nat} (ht : t < 4) (h6 : (f_next A pt (g_l rt 0)).length ≤ 6) : q_do c A t rt pt (13 + 40 * t) = Int32.ofNat (q_zo A (g_l rt 0)) ∧ q_do c A t rt pt (16 + 40 * t) = -1 := by
  obtain ⟨e1, e2⟩ := q_d5_13 (c := c) (A := A) (rt := rt) (pt := pt) ht
  have h9 : ∀ st v, q_d9 c A t rt pt st v (13 + 40 * t) = Int32.ofNat (q_zo A (g_l rt 0)) ∧ q_d9 c A t rt pt st v (16 + 40 * t) = -1 := fun st v => by
    unfold q_d9
    exact ⟨by rw [q_w_ne (by omega), q_w_ne (by omega), q_w_ne (by omega), q_w_ne (by omega), e1], by rw [q_w_ne (by omega), q_w_ne (by omega), q_w_ne (by omega), q_w_ne (by omega), e2]⟩
  unfold f_next at h6
  unfold q_do
  by_cases ho : g_l rt 0 % 2 = 1
  · rw [if_pos ho] at h6 ⊢
    by_cases ha : A (184 + 17 * (g_l rt 0 / 2)) = 1
    · rw [if_pos ha]
      exact h9 _ _
    · rw [if_neg ha] at h6 ⊢
      rw [q_setL_out (by omega) (by omega), q_setL_out (by omega) (by omega)]
      exact h9 _ _
  · rw [if_neg ho] at h6 ⊢
    rw [q_setL_out (by omega) (by omega), q_setL_out (by omega) (by omega), q_w_ne (by omega), q_w_ne (by omega), q_w_ne (by omega), q_w_ne (by omega)]
    exact ⟨e1, e2⟩
theorem q_do_173 {c A : q_R} {t : Nat} {rt pt : List Nat} (ht : t < 4) (h6 : (f_next A pt (g_l rt 0)).length ≤ 6) : q_do c A t rt pt (173 + 17 * (g_l rt 0 / 2)) = if g_l rt 0 % 2 = 1 then (if A (184 + 17 * (g_l rt 0 / 2)) = 1 then 5 else 2) else 3 := by
  have h9 : ∀ st v, q_d9 c A t rt pt st v (173 + 17 * (g_l rt 0 / 2)) = st := fun st v => by
    unfold q_d9
    rw [q_w_ne (by omega), q_w_ne (by omega), q_w_same]
  unfold f_next at h6
  unfold q_do
  by_cases ho : g_l rt 0 % 2 = 1
  · rw [if_pos ho] at h6 ⊢
    by_cases ha : A (184 + 17 * (g_l rt 0 / 2)) = 1
    · rw [if_pos ha, if_pos ho, if_pos ha, h9]
    · rw [if_neg ha] at h6 ⊢
      rw [if_pos ho, if_neg ha, q_setL_out (by omega) (by omega), h9]
  · rw [if_neg ho] at h6 ⊢
    rw [if_neg ho, q_setL_out (by omega) (by omega), q_w_ne (by omega), q_w_same]
theorem q_d5_li {c A : q_R} {t : Nat} {rt pt : List Nat} : q_li (q_d5 c A t rt pt) (24 + 40 * t) (25 + 40 * t) (rt.filter (g_no (g_l rt 0))) := by
  unfold q_d5
  exact q_setL_li (by omega)
theorem q_do_rt {c A : q_R} {t : Nat} {rt pt : List Nat} (ht : t < 4) (hl : rt.length ≤ 12) (h6 : (f_next A pt (g_l rt 0)).length ≤ 6) : q_li (q_do c A t rt pt) (24 + 40 * t) (25 + 40 * t) (rt.filter (g_no (g_l rt 0))) := by
  have l1 := g_no_len (s := g_l rt 0) (L := rt)
  have h9 : ∀ st v, q_li (q_d9 c A t rt pt st v) (24 + 40 * t) (25 + 40 * t) (rt.filter (g_no (g_l rt 0))) := fun st v => by
    unfold q_d9
    exact (q_d5_li (c := c) (A := A) (pt := pt)).same (by rw [q_w_ne (by omega), q_w_ne (by omega), q_w_ne (by omega), q_w_ne (by omega)]) (fun k hk => by rw [q_w_ne (by omega), q_w_ne (by omega), q_w_ne (by omega), q_w_ne (by omega)])
  unfold f_next at h6
  unfold q_do
  by_cases ho : g_l rt 0 % 2 = 1
  · rw [if_pos ho] at h6 ⊢
    by_cases ha : A (184 + 17 * (g_l rt 0 / 2)) = 1
    · rw [if_pos ha]
      exact h9 _ _
    · rw [if_neg ha] at h6 ⊢
      exact (h9 _ _).same (q_setL_out (by omega) (by omega)) (fun k hk => q_setL_out (by omega) (by omega))
  · rw [if_neg ho] at h6 ⊢
    refine (q_d5_li (c := c) (A := A) (pt := pt)).same ?_ (fun k hk => ?_)
    · rw [q_setL_out (by omega) (by omega), q_w_ne (by omega), q_w_ne (by omega)]
    · rw [q_setL_out (by omega) (by omega), q_w_ne (by omega), q_w_ne (by omega)]
theorem q_do_pt {c A : q_R} {t : Nat} {rt pt : List Nat} (ht : t < 4) (hl : rt.length ≤ 12) (hp : q_li A (37 + 40 * t) (38 + 40 * t) pt) (hp6 : pt.length ≤ 6) (h6 : (f_next A pt (g_l rt 0)).length ≤ 6) : q_li (q_do c A t rt pt) (37 + 40 * t) (38 + 40 * t) (f_next A pt (g_l rt 0)) := by
  unfold f_next at h6 ⊢
  unfold q_do
  by_cases ho : g_l rt 0 % 2 = 1
  · rw [if_pos ho] at h6 ⊢
    rw [if_pos ho]
    by_cases ha : A (184 + 17 * (g_l rt 0 / 2)) = 1
    · rw [if_pos ha, if_pos ha]
      have out : ∀ j, 37 + 40 * t ≤ j → j < 53 + 40 * t → q_d9 c A t rt pt 5 (A 7) j = A j := fun j q1 q2 => by
        unfold q_d9
        rw [q_w_ne (by omega), q_w_ne (by omega), q_w_ne (by omega), q_w_ne (by omega), q_d5_out hl (by omega) (Or.inr (Or.inr (Or.inr (Or.inl (by omega)))))]
      exact hp.same (out _ (by omega) (by omega)) (fun k hk => out _ (by omega) (by omega))
    · rw [if_neg ha, if_neg ha]
      exact q_setL_li (by omega)
  · rw [if_neg ho, if_neg ho]
    exact q_setL_li (by omega)
theorem f_next_six {c A : q_R} {t n : Nat} {rt pt : List Nat} (h : q_J c A) (hL : q_taxiL c A t n rt pt) (hn : n ≤ 6) (h0 : 0 < rt.length) : (f_next A pt (g_l rt 0)).length ≤ 6 := by
  have hd := hL.drive
  have hdrop := f_drop h0
  rw [List.drop_zero] at hdrop
  rw [hdrop] at hd
  have h6 := hL.2.1.2.1
  unfold f_next
  by_cases ho : g_l rt 0 % 2 = 1
  · rw [if_pos ho]
    by_cases ha : A (184 + 17 * (g_l rt 0 / 2)) = 1
    · rw [if_pos ha]
      exact h6
    · rw [if_neg ha]
      have hk1 : 1 < rt.length := by
        rcases hd.first with ⟨q, -⟩ | ⟨-, -, ⟨q, -⟩ | ⟨-, q⟩⟩
        · omega
        · exact absurd q ha
        · refine Decidable.byContradiction fun hge => ?_
          rw [List.drop_eq_nil_of_le (by omega)] at q
          cases q
      have hpt : ∀ u ∈ pt, u < q_N A := fun u hu' => ((hL.2.1.2.2.2 u).mp hu').1
      have := f_P_six hn hL.drive hL.2.2.2.2 hpt hL.1.2.2.1 (fun u hu' => h.per6 hu') hk1
      have e : f_P A pt (g_l rt) 1 = pt ++ [g_l rt 0 / 2] := by
        show f_next _ _ _ = _
        unfold f_next
        rw [if_pos ho, if_neg ha]
        rfl
      rw [e] at this
      exact this
  · rw [if_neg ho]
    exact Nat.le_trans g_no_len h6
theorem q_J.first {c A : q_R} {t n : Nat} {rt pt : List Nat} (h : q_J c A) (hT4 : q_T c ≤ 4) (ht : t < q_T c) (hL : q_taxiL c A t n rt pt) (hn : n ≤ 6) (en : c (70 + t) = Int32.ofNat n) (h0 : 0 < rt.length) : q_J c (q_do c A t rt pt) ∧ q_taxiL c (q_do c A t rt pt) t n (rt.drop 1) (f_next A pt (g_l rt 0)) := by
  have hN := h.1.2
  have h12 := hL.1.2.1
  have h6 := f_next_six h hL hn h0
  have ht4 : t < 4 := by omega
  have htl := q_tail hL.drive h0
  have hx := hL.1.2.2.1 _ (g_l_mem h0)
  have hst := hL.stop (g_l_mem h0)
  have out : ∀ j, (j < 13 + 40 * t ∨ j = 17 + 40 * t ∨ j = 19 + 40 * t ∨ (53 + 40 * t ≤ j ∧ j < 173) ∨ (173 ≤ j ∧ (∀ r, j ≠ 183 + 17 * r) ∧ j ≠ 173 + 17 * (g_l rt 0 / 2) ∧ j ≠ 181 + 17 * (g_l rt 0 / 2) ∧ j ≠ 182 + 17 * (g_l rt 0 / 2))) → q_do c A t rt pt j = A j := fun j hj => q_do_out ht4 h12 h6 hj
  have outR : ∀ j r, (j = 174 ∨ j = 175 ∨ j = 176 ∨ j = 180 ∨ j = 184) → q_do c A t rt pt (j + 17 * r) = A (j + 17 * r) := fun j r hj => out _ (Or.inr (Or.inr (Or.inr (Or.inr ⟨by omega, fun r' => by omega, by omega, by omega, by omega⟩))))
  have e1 : q_do c A t rt pt 1 = A 1 := out 1 (Or.inl (by omega))
  have eN : q_N (q_do c A t rt pt) = q_N A := by unfold q_N; rw [e1]
  have hd := hL.drive
  have hdrop := f_drop h0
  rw [List.drop_zero] at hdrop
  have hdc := hd
  rw [hdrop] at hdc
  have hstep := hdc.step
  have hR : ∀ u, u ≠ g_l rt 0 / 2 → q_sameR A (q_do c A t rt pt) u := fun u hu => ⟨fun j q1 q2 => by
    by_cases hj : j = 173
    · subst hj
      exact out _ (Or.inr (Or.inr (Or.inr (Or.inr ⟨by omega, fun r' => by omega, by omega, by omega, by omega⟩))))
    · exact outR j u (by omega), outR 180 u (by omega), outR 184 u (by omega)⟩
  have hzo : ∀ x, q_zo (q_do c A t rt pt) x = q_zo A x := fun x => by
    unfold q_zo
    split
    · rw [outR 174 _ (by omega)]
    · rw [outR 175 _ (by omega)]
  have hpe : ∀ u, q_pe (q_do c A t rt pt) u = q_pe A u := fun u => by
    unfold q_pe
    rw [outR 176 _ (by omega)]
  have hchg : ∀ x, q_chg (q_do c A t rt pt) x = q_chg A x := fun x => q_chg_row (outR 176 _ (by omega)) (outR 184 _ (by omega))
  obtain ⟨e13, e16⟩ := q_do_13 (c := c) (A := A) (rt := rt) (pt := pt) ht4 h6
  have e173 := q_do_173 (c := c) (A := A) (rt := rt) (pt := pt) ht4 h6
  have e180 : q_do c A t rt pt (180 + 17 * (g_l rt 0 / 2)) = Int32.ofNat t := by rw [outR 180 _ (by omega)]; exact hst.2.1
  have hz8 : q_zo A (g_l rt 0) < 8 := by
    obtain ⟨⟨a, ha, ea⟩, ⟨b, hb, eb⟩, -⟩ := (h.2.2.1 (g_l rt 0 / 2) hst.1).1
    unfold q_zo
    by_cases ho : g_l rt 0 % 2 = 1
    · rw [if_pos ho, ea, i_cl (by omega)]
      exact ha
    · rw [if_neg ho, eb, i_cl (by omega)]
      exact hb
  have hch := hL.2.2.1
  rw [hdrop] at hch
  have hprof := hL.2.2.2.2
  rw [hdrop] at hprof
  have hofr : ∀ u, q_ofr u (rt.drop 1) = q_should (q_do c A t rt pt) t u := fun u => by
    by_cases hu : u = g_l rt 0 / 2
    · rw [hu]
      rcases hdc.first with ⟨ho, -, hr⟩ | ⟨ho, -, ⟨ha, hr⟩ | ⟨ha, hr⟩⟩
      · rw [hr, q_should_0]
        · rw [e173, if_neg (by omega)]
          decide
        · rw [e173, if_neg (by omega)]
          decide
      · rw [hr, q_should_0]
        · rw [e173, if_pos ho, if_pos ha]
          decide
        · rw [e173, if_pos ho, if_pos ha]
          decide
      · rw [hr]
        refine (q_should_two.mpr ⟨by rw [eN]; exact hst.1, ?_, e180⟩).symm
        rw [e173, if_pos ho, if_neg ha]
    · have e2 : q_ofr u (rt.drop 1) = q_ofr u rt := by
        conv => rhs; rw [hdrop]
        exact (g_ofr_neg (fun q => hu q.symm)).symm
      rw [e2, hL.1.2.2.2 u]
      obtain ⟨q1, q2, q3⟩ := hR u hu
      unfold q_should
      rw [eN, q2, q3, q1 173 (by omega) (by omega)]
  have hTL : q_taxiL c (q_do c A t rt pt) t n (rt.drop 1) (f_next A pt (g_l rt 0)) := by
    refine ⟨⟨by rw [← htl]; exact q_do_rt ht4 h12 h6, by rw [List.length_drop]; omega, fun x hx' => by rw [eN]; exact hL.1.2.2.1 x (List.mem_of_mem_drop hx'), hofr⟩, ⟨q_do_pt ht4 h12 hL.2.1.1 hL.2.1.2.1 h6, h6, hstep.1, fun u => ?_⟩, ?_, fun _ => e16, ?_⟩
    · rw [hstep.2.1 u]
      have : q_ofr u (rt.drop (0 + 1)) = q_should (q_do c A t rt pt) t u := hofr u
      rw [this, q_should_two]
    · rw [e13, i_cl (by omega)]
      exact q_chain.zo _ _ (fun x _ => hzo x) hch.2
    · rw [q_sumP.pe _ (fun u _ => hpe u), hdc.sum]
      exact q_prof.chg _ _ (fun x _ => hchg x) hprof.2
  refine ⟨h.one e1 ?_ (Or.inl hst.2.1) (Or.inl e180) hT4 ht4 (fun u hu hut => ?_) (fun u _ hu => hR u hu) (fun hu => ?_) ⟨⟨_, hz8, e13⟩, n, hn, en, _, _, hTL⟩, hTL⟩
  · obtain ⟨⟨v, hv, ev⟩, h3⟩ := h.2.1
    refine ⟨⟨v, hv, (out 2 (Or.inl (by omega))).trans ev⟩, fun k hk => ?_⟩
    obtain ⟨w, hw, ew⟩ := h3 k hk
    exact ⟨w, hw, (out _ (Or.inl (by omega))).trans ew⟩
  · have oT : ∀ j, 13 ≤ j → j < 53 → q_do c A t rt pt (j + 40 * u) = A (j + 40 * u) := fun j q1 q2 => out _ (by omega)
    refine ⟨?_, ?_, fun j q1 q2 => oT j (by omega) q2⟩
    · exact oT 13 (by omega) (by omega)
    · exact oT 16 (by omega) (by omega)
  · have hJ := h.2.2.1 _ hu
    refine ⟨⟨?_, ?_, ?_⟩, ?_, fun _ => ⟨t, ht, e180⟩⟩
    · rw [outR 174 _ (by omega)]
      exact hJ.1.1
    · rw [outR 175 _ (by omega)]
      exact hJ.1.2.1
    · rw [outR 184 _ (by omega)]
      exact hJ.1.2.2
    · rw [outR 176 _ (by omega)]
      exact hJ.2.1
