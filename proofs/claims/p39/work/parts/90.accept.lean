/-! ===== the class's side (out of whole, by program) ===== -/
def q_acc (A : q_R) (t r : Nat) (L : List Nat) : q_R := q_w (q_w (q_setL A (24 + 40 * t) (25 + 40 * t) L) (173 + 17 * r) 1) (180 + 17 * r) (Int32.ofNat t)
theorem q_acc_out {A : q_R} {t r : Nat} {L : List Nat} (hL : L.length ≤ 12) {j : Nat} (h1 : ¬ (24 + 40 * t ≤ j ∧ j < 37 + 40 * t)) (h2 : j ≠ 173 + 17 * r) (h3 : j ≠ 180 + 17 * r) : q_acc A t r L j = A j := by
  unfold q_acc
  rw [q_w_ne h3, q_w_ne h2, q_setL_out (by omega) (by omega)]
theorem q_setL_li' {A A' : q_R} {cnt base : Nat} {L : List Nat} (h : cnt < base) (he : ∀ j, (j = cnt ∨ (base ≤ j ∧ j < base + L.length)) → A' j = q_setL A cnt base L j) : q_li A' cnt base L := by
  obtain ⟨h1, h2⟩ := q_setL_li (A := A) (L := L) h
  refine ⟨(he cnt (Or.inl rfl)).trans h1, fun k s hs => ?_⟩
  have := (g_l_of hs).1
  exact (he _ (Or.inr ⟨by omega, by omega⟩)).trans (h2 k s hs)
theorem q_should_0 {A : q_R} {t r : Nat} (h1 : A (173 + 17 * r) ≠ 1) (h2 : A (173 + 17 * r) ≠ 2) : q_should A t r = [] := by
  unfold q_should
  rw [if_neg h1, if_neg h2]
  split <;> rfl
theorem g_ofr_sub {r : Nat} {L L' : List Nat} (h : q_ofr r L = []) (hs : ∀ x ∈ L', x ∈ L) : q_ofr r L' = [] := by
  unfold q_ofr at h ⊢
  rw [List.filter_eq_nil_iff] at h ⊢
  exact fun x hx => h x (hs x hx)
theorem q_J.accept {c A : q_R} {t r n p d : Nat} {rt pt : List Nat} {g : q_R} (h : q_J c A) (hT4 : q_T c ≤ 4) (ht : t < q_T c) (hL : q_taxiL c A t n rt pt) (hn : n ≤ 6) (en : c (70 + t) = Int32.ofNat n) (hr : r < q_N A) (h0 : A (173 + 17 * r) = 0) (hab : A (184 + 17 * r) = 0) (h1 : p < d) (h2 : d ≤ rt.length + 1) (h12 : rt.length + 2 ≤ 12) (hok : s_ok c A t (g_l (g_ins rt r p d)) (y_per A t) g (rt.length + 2)) : q_J c (q_acc A t r (g_ins rt r p d)) := by
  have hN := h.1.2
  have hlen := g_ins_len (L := rt) (r := r) h1 h2
  have hl12 : (g_ins rt r p d).length ≤ 12 := by omega
  have hst : ∀ x ∈ g_ins rt r p d, x < 2 * q_N A := fun x hx => by
    rcases g_ins_mem hx with q | q | q
    · exact hL.1.2.2.1 x q
    · omega
    · omega
  have e173 : q_acc A t r (g_ins rt r p d) (173 + 17 * r) = 1 := by
    unfold q_acc
    rw [q_w_ne (by omega), q_w_same]
  have e180 : q_acc A t r (g_ins rt r p d) (180 + 17 * r) = Int32.ofNat t := q_w_same _ _ _
  have e184 : q_acc A t r (g_ins rt r p d) (184 + 17 * r) = 0 := by rw [q_acc_out hl12 (by omega) (by omega) (by omega), hab]
  have eN : q_N (q_acc A t r (g_ins rt r p d)) = q_N A := by unfold q_N; rw [q_acc_out hl12 (by omega) (by omega) (by omega)]
  have ofr0 : q_ofr r rt = [] := by rw [hL.1.2.2.2 r]; exact q_should_0 (by rw [h0]; decide) (by rw [h0]; decide)
  refine h.route hT4 ht hL hn en hr (by rw [h0]; decide) (by rw [e173]; decide) (Or.inr (by rw [h0]; decide)) (Or.inl e180) (fun j q1 q2 q3 q4 => q_acc_out hl12 q1 q2 q3) (Or.inl e184) ?_ hl12 hst ?_ (fun u hu => ?_) ?_ (fun q => ?_) ?_
  · refine q_setL_li' (A := A) (by omega) fun j hj => ?_
    unfold q_acc
    rw [q_w_ne (by omega), q_w_ne (by omega)]
  · rw [g_ins_ofr h1, if_pos rfl, g_ofr_sub ofr0 (fun x hx => List.mem_of_mem_take hx), g_ofr_sub ofr0 (fun x hx => List.mem_of_mem_drop (List.mem_of_mem_take hx)), g_ofr_sub ofr0 (fun x hx => List.mem_of_mem_drop hx)]
    unfold q_should
    rw [eN, if_pos ⟨hr, e180⟩, if_pos e173, if_neg (by rw [e184]; decide)]
    rfl
  · rw [g_ins_ofr h1, if_neg hu]
  · have hc := hok.1
    rw [← hlen] at hc
    exact g_con'.mp hc
  · rw [q, List.length_nil] at hlen
    omega
  · have hp := s_ok_prof (L := g_ins rt r p d) (g := g) h hL hn en (by omega) hst (fun k hk => (hok.2.2 k (by omega)).1)
    have chg : ∀ s, q_chg (q_acc A t r (g_ins rt r p d)) s = q_chg A s := fun s => by
      unfold q_chg q_pe
      by_cases hs : 24 + 40 * t ≤ 176 + 17 * (s / 2) ∧ 176 + 17 * (s / 2) < 37 + 40 * t
      · omega
      · rw [q_acc_out hl12 hs (by omega) (by omega), q_acc_out hl12 (by omega) (by omega) (by omega)]
    have conv : ∀ (L : List Nat) (q : Int), q_prof A n q L → q_prof (q_acc A t r (g_ins rt r p d)) n q L := by
      intro L
      induction L with
      | nil => intros; trivial
      | cons x L ih =>
        intro q hq
        exact ⟨hq.1, by rw [chg]; exact ih _ hq.2⟩
    exact conv _ _ hp
