/-! ===== PURE: accept ===== -/
def q_acc (A : q_R) (t r : Nat) (L : List Nat) : q_R := q_w (q_w (q_setL A (24 + 40 * t) (25 + 40 * t) L) (173 + 17 * r) 1) (180 + 17 * r) (Int32.ofNat t)
theorem q_acc_out {A : q_R} {t r : Nat} {L : List Nat} (hL : L.length ≤ 12) {j : Nat} (h1 : ¬ (24 + 40 * t ≤ j ∧ j < 37 + 40 * t)) (h2 : j ≠ 173 + 17 * r) (h3 : j ≠ 180 + 17 * r) : q_acc A t r L j = A j := by
  unfold q_acc
  rw [q_w_ne h3, q_w_ne h2, q_setL_out (by omega) (by omega)]
theorem q_setL_li' {A A' : q_R} {cnt base : Nat} {L : List Nat} (h : cnt < base) (he : ∀ j, (j = cnt ∨ (base ≤ j ∧ j < base + L.length)) → A' j = q_setL A cnt base L j) : q_li A' cnt base L := by
  obtain ⟨h1, h2⟩ := q_setL_li (A := A) (L := L) h
  refine ⟨(he cnt (Or.inl rfl)).trans h1, fun k s hs => ?_⟩
  have := (g_l_of hs).1
  exact (he _ (Or.inr ⟨by omega, by omega⟩)).trans (h2 k s hs)
theorem q_should_0 {A : q_R} {t r : Nat} (h1 : A (173 + 17 * r) ≠ 1) (h2 : A (173 + 17 * r) ≠ 2) : q_should A t r = [] := by
  unfold q_should
  rw [if_neg h1, if_neg h2]
  split <;> rfl
theorem g_ofr_sub {r : Nat} {L L' : List Nat} (h : q_ofr r L = []) (hs : ∀ x ∈ L', x ∈ L) : q_ofr r L' = [] := by
  unfold q_ofr at h ⊢
  rw [List.filter_eq_nil_iff] at h ⊢
  exact fun x hx => h x (hs x hx)
theorem q_J.accept {c A : q_R} {t r n p d : Nat} {rt pt : List Nat} {g : q_R} (h : q_J c A) (hT4 : q_T c ≤ 4) (ht : t < q_T c) (hL : q_taxiL c A t n rt pt) (hn : n ≤ 6) (en : c (70 + t) = Int32.ofNat n) (hr : r < q_N A) (h0 : A (173 + 17 * r) = 0) (hab : A (184 + 17 * r) = 0) (h1 : p < d) (h2 : d ≤ rt.length + 1) (h12 : rt.length + 2 ≤ 12) (hok : s_ok c A t (g_l (g_ins rt r p d)) (y_per A t) g (rt.length + 2)) : q_J c (q_acc A t r (g_ins rt r p d)) := by
  have hN := h.1.2
  have hlen := g_ins_len (L := rt) (r := r) h1 h2
  have hl12 : (g_ins rt r p d).length ≤ 12 := by omega
  have hst : ∀ x ∈ g_ins rt r p d, x < 2 * q_N A := fun x hx => by
    rcases g_ins_mem hx with q | q | q
    · exact hL.1.2.2.1 x q
    · omega
    · omega
  have e173 : q_acc A t r (g_ins rt r p d) (173 + 17 * r) = 1 := by
    unfold q_acc
    rw [q_w_ne (by omega), q_w_same]
  have e180 : q_acc A t r (g_ins rt r p d) (180 + 17 * r) = Int32.ofNat t := q_w_same _ _ _
  have e184 : q_acc A t r (g_ins rt r p d) (184 + 17 * r) = 0 := by rw [q_acc_out hl12 (by omega) (by omega) (by omega), hab]
  have eN : q_N (q_acc A t r (g_ins rt r p d)) = q_N A := by unfold q_N; rw [q_acc_out hl12 (by omega) (by omega) (by omega)]
  have ofr0 : q_ofr r rt = [] := by rw [hL.1.2.2.2 r]; exact q_should_0 (by rw [h0]; decide) (by rw [h0]; decide)
  refine h.route hT4 ht hL hn en hr (by rw [h0]; decide) (by rw [e173]; decide) (Or.inr (by rw [h0]; decide)) (Or.inl e180) (fun j q1 q2 q3 q4 => q_acc_out hl12 q1 q2 q3) (Or.inl e184) ?_ hl12 hst ?_ (fun u hu => ?_) ?_ (fun q => ?_) ?_
  · refine q_setL_li' (A := A) (by omega) fun j hj => ?_
    unfold q_acc
    rw [q_w_ne (by omega), q_w_ne (by omega)]
  · rw [g_ins_ofr h1, if_pos rfl, g_ofr_sub ofr0 (fun x hx => List.mem_of_mem_take hx), g_ofr_sub ofr0 (fun x hx => List.mem_of_mem_drop (List.mem_of_mem_take hx)), g_ofr_sub ofr0 (fun x hx => List.mem_of_mem_drop hx)]
    unfold q_should
    rw [eN, if_pos ⟨hr, e180⟩, if_pos e173, if_neg (by rw [e184]; decide)]
    rfl
  · rw [g_ins_ofr h1, if_neg hu]
  · have hc := hok.1
    rw [← hlen] at hc
    exact g_con'.mp hc
  · rw [q, List.length_nil] at hlen
    omega
  · have hp := s_ok_prof (L := g_ins rt r p d) (g := g) h hL hn en (by omega) hst (fun k hk => (hok.2.2 k (by omega)).1)
    have chg : ∀ s, q_chg (q_acc A t r (g_ins rt r p d)) s = q_chg A s := fun s => by
      unfold q_chg q_pe
      by_cases hs : 24 + 40 * t ≤ 176 + 17 * (s / 2) ∧ 176 + 17 * (s / 2) < 37 + 40 * t
      · omega
      · rw [q_acc_out hl12 hs (by omega) (by omega), q_acc_out hl12 (by omega) (by omega) (by omega)]
    have conv : ∀ (L : List Nat) (q : Int), q_prof A n q L → q_prof (q_acc A t r (g_ins rt r p d)) n q L := by
      intro L
      induction L with
      | nil => intros; trivial
      | cons x L ih =>
        intro q hq
        exact ⟨hq.1, by rw [chg]; exact ih _ hq.2⟩
    exact conv _ _ hp
theorem a_accept {o L : Nat} {S : Nat → Int32} {i : Int32} {M : z_Mem} {s : q_S} {c : z_Mem → Option (Int32 × z_Mem)} (hI : q_Inv s) (hc : c_all o M s) (hm : m_all (o + 548) M s) (h1 : z_inb (i + (1 : Int32)) L) : ∃ M' s', Fc_1429 o L S i M c = c M' ∧ c_all o M' s' ∧ m_all (o + 548) M' s' ∧ q_Inv s' := by
  generalize hp : S (i + 1).toNatClampNeg = p
  have hN24 := hI.1.I.rides24
  have hT4 := hI.1.I.taxis4
  have ct := a_ride_c hI.1.I hc
  have mt := fun (N : z_Mem) (hN : m_all (o + 548) N s) p => a_ride_m (m := o + 548) (N := z_wI N (o + 548) 0 0) (R := q_N s.2.1) (by omega) (m_rides hI.1.I (hN.thr 0)) p
  rcases q_split (q_N s.2.1) (by omega) p with ⟨r, hr, rfl⟩ | hb
  · have gr := q_good (n := q_N s.2.1) (by omega) hr
    obtain ⟨x0, -, -, -, -, -, -, -, -, -, -, -, -, -, xo, -⟩ := hc.2.1.2.2.2.2.2.2.2.2 r hr
    have of0 : ∀ N, m_all (o + 548) N s → F_Model_of (o + 548) (Int32.ofNat r) 0 N = some (s.2.1 (173 + 17 * r)) := fun N hN => m_ofL (kl := 0) hN 0 (by omega) (by omega) rfl
    by_cases h0 : s.2.1 (173 + 17 * r) = 0
    · obtain ⟨⟨t, ht, et⟩, hab⟩ := hI.2.1 r hr h0
      obtain ⟨n, rt, pt, hn, en, hL⟩ := hI.1.L ht
      have x14 : M.1 (o + 5 + 16 + r) 14 = Int32.ofNat t := (xo h0).1.trans et
      obtain ⟨M6, v, e6, p6, b6⟩ := c_findBest (o := o) (r := r) hI.1 ht hL hr hc
      have hst := s_best_found (c := s.1) (A := s.2.1) (t := t) (r := r) (L := rt)
      have eht : F_Desk_hasTaxi (o + 5) (Int32.ofNat t) M = some 1 := by
        unfold F_Desk_hasTaxi
        rw [hc.2.1.2.2.2.2.1, hI.1.I.taxis, if_neg (i_nn (by omega)), if_neg (i_nle (by omega) (by omega) ht), if_neg (show ¬ (4 : Int32) ≤ Int32.ofNat t from i_nle (a := 4) (by decide) (by omega) (by omega))]
      have hz4 : z_inb (Int32.ofNat t) 4 := (i_inb (by omega)).mpr (by omega)
      have ctt : (Int32.ofNat t).toNatClampNeg = t := i_cl (by omega)
      have of12 : ∀ N, m_all (o + 548) N s → F_Model_of (o + 548) (Int32.ofNat r) 12 N = some (Int32.ofNat t) := fun N hN => by
        rw [m_ofL (kl := 12) hN 12 (by omega) (by omega) rfl, show 173 + 17 * r + 12 = 185 + 17 * r by omega, et]
      cases hbs : s_best s.1 s.2.1 t r rt with
      | none =>
        rw [hbs] at b6
        obtain ⟨M', e, g1, g2⟩ := k_accept (S := S) (c := c) (y := .ok (-3)) (s' := s) q_c1n hm h1 (l_of (c_ok (M' := M6) (by
          rw [hp]
          unfold F_Sys_accept
          simp only [zxm, zb, (ct _).2 r hr rfl]
          rw [x0, if_pos h0, x14, eht]
          simp only [zl, ctt]
          rw [if_neg (by decide), if_pos hz4, zb2_ok e6, if_pos (show v = 0 from b6)]) (p6.all hc) p6.C) (fun e M1 he => by cases he)) (fun N hN => by
          have hN0 := hN.thr 0
          obtain ⟨N1, b, f1, q1, bb, hb⟩ := m_findsBest (m := o + 548) hI.1 ht hL hr hN0
          rw [hbs] at hb
          have hb0 : b = 0 := by
            rcases hb with ⟨-, hb⟩ | ⟨hb, -⟩
            · exact absurd rfl hb
            · exact hb
          refine m_ok (N' := N1) (b := -3) ?_ rfl (q1.all hN0) ((q1.2.1 0 (by omega)).trans (w_same _ _ _ _)) q1.M
          rw [hp]
          unfold F_Model_accept
          simp only [zl]
          rw [zb2_ok ((mt N hN _).2 gr), if_pos rfl, zb_ok (of0 _ hN0), if_pos h0, zb_ok (of12 _ hN0), zb2_ok f1, if_pos hb0])
        exact ⟨M', s, e, g1, g2, hI⟩
      | some f =>
        rw [hbs] at b6 hst
        obtain ⟨p, d, hf, hpd, hd, hleft, hok⟩ := hst.1 f rfl
        have h12 := hst.2 (by simp)
        obtain ⟨v1, w0, w1, w2, w3, w4⟩ := b6
        have w3 : M6.1 (o + 494) 3 = Int32.ofNat p := by rw [w3, hf]; rfl
        have w4 : M6.1 (o + 494) 4 = Int32.ofNat d := by rw [w4, hf]; rfl
        have hlen := g_ins_len (L := rt) (r := r) hpd hd
        obtain ⟨M8, e8, c8, k8, fr8⟩ := a_note_c (o := o) hI.1.I hI.1.2.1.abs (p6.all hc)
        have tx := c8.2.1.2.2.2.2.2.2.2.1 t ht
        have h7 := tx.2.2.2.2.2.2.2.1.trans hL.1.1.1
        obtain ⟨M10, M12, e10, e12, i1, i2, i3, i4, i5, i6, i7⟩ := c_ins2 (a := o + 5 + 4 + 3 * t) (r := r) h12 hpd hd h7 (fun j hj => (tx.2.2.2.2.2.2.2.2.2.2.2.2.2.2.2.1 j (by omega) (by
          show Int32.ofNat j < s.2.1 (24 + 40 * t)
          rw [hL.1.1.1]
          exact (i_lt (by omega) (by omega)).mpr hj)).trans (hL.1.1.2 j _ (g_l_get hj)))
        have c12 := c8.rt (M' := M12) ht hT4 (by omega) i3 i4 i5 i6
        have c13 := c12.wr (r := r) (k := 0) (v := 1) (by
          show r < q_N (q_setL s.2.1 (24 + 40 * t) (25 + 40 * t) (g_ins rt r p d))
          unfold q_N
          rw [q_setL_out (by omega) (by omega)]
          exact hr) (Or.inr ⟨rfl, by decide⟩)
        have x14' : (z_wI M12 (o + 5 + 16 + r) 0 1).1 (o + 5 + 16 + r) 14 = Int32.ofNat t := by
          obtain ⟨-, -, -, -, -, -, -, -, -, -, -, -, -, -, xo8, -⟩ := c8.2.1.2.2.2.2.2.2.2.2 r hr
          rw [w_slot _ (by decide), i6 _ (by omega) (by omega)]
          exact (xo8 h0).1.trans et
        have c14 := c13.wr (r := r) (k := 9) (v := Int32.ofNat t) (by
          show r < q_N (q_w (q_setL s.2.1 (24 + 40 * t) (25 + 40 * t) (g_ins rt r p d)) (173 + 17 * r) 1)
          unfold q_N
          rw [q_w_ne (by omega), q_setL_out (by omega) (by omega)]
          exact hr) (Or.inl (by omega))
        have c15 : c_all o (z_wI (z_wI M12 (o + 5 + 16 + r) 0 1) (o + 5 + 16 + r) 9 (Int32.ofNat t)) (q_row (q_noted s) (q_acc s.2.1 t r (g_ins rt r p d))) := c14
        have hJ := hI.1.2.1.accept hT4 ht hL hn en hr h0 hab hpd hd h12 hok
        have hI2 : q_Inv (q_row (q_noted s) (q_acc s.2.1 t r (g_ins rt r p d))) := hI.noted.row hJ (fun u hu hu0 => by
          have eN : q_N (q_acc s.2.1 t r (g_ins rt r p d)) = q_N s.2.1 := by unfold q_N; rw [q_acc_out (by omega) (by omega) (by omega) (by omega)]
          rw [eN] at hu
          by_cases hur : u = r
          · subst hur
            have : q_acc s.2.1 t u (g_ins rt u p d) (173 + 17 * u) = 1 := by
              unfold q_acc
              rw [q_w_ne (by omega), q_w_same]
            rw [this] at hu0
            exact absurd hu0 (by decide)
          · rw [q_acc_out (by omega) (by omega) (by omega) (by omega)] at hu0
            rw [q_acc_out (by omega) (by omega) (by omega) (by omega), q_acc_out (by omega) (by omega) (by omega) (by omega)]
            exact hI.2.1 u hu hu0)
        obtain ⟨M', e, g1, g2⟩ := k_accept (S := S) (c := c) (y := .ok f.2.1) (s' := q_row (q_noted s) (q_acc s.2.1 t r (g_ins rt r p d))) q_c1n hm h1 (l_of (c_ok (by
          have epk : F_Desk_pickupOf (Int32.ofNat r) M8 = some (Int32.ofNat (2 * r + 1)) := by
            unfold F_Desk_pickupOf
            rw [show (2 : Int32) = Int32.ofNat 2 from rfl, show (1 : Int32) = Int32.ofNat 1 from rfl, i_mul, i_add, Nat.mul_comm]
          have edr : F_Desk_dropOf (Int32.ofNat r) M10 = some (Int32.ofNat (2 * r)) := by
            unfold F_Desk_dropOf
            rw [show (2 : Int32) = Int32.ofNat 2 from rfl, i_mul, Nat.mul_comm]
          have w3' : M8.1 (o + 494) 3 = Int32.ofNat p := by rw [fr8 _ (by omega), w3]
          have w4' : M10.1 (o + 494) 4 = Int32.ofNat d := by rw [i2 _ (by omega) (by omega), fr8 _ (by omega), w4]
          rw [hp]
          unfold F_Sys_accept
          simp only [zxm, zb, (ct _).2 r hr rfl]
          rw [x0, if_pos h0, x14, eht]
          simp only [zl, ctt]
          rw [if_neg (by decide), if_pos hz4, zb2_ok e6, if_neg (show ¬ v = 0 by rw [v1]; decide), e8]
          simp only
          rw [epk]
          simp only
          rw [w3', e10]
          simp only
          rw [edr]
          simp only
          rw [w4', e12]
          simp only
          rw [x14', w_addr _ (show o + 494 ≠ o + 5 + 16 + r by omega), w_addr _ (show o + 494 ≠ o + 5 + 16 + r by omega), i6 _ (by omega) (by omega), fr8 _ (by omega), w1]) c15 (((p6.C.tr k8).tr (fun a ha => ⟨i6 a (by unfold q_inM at ha; omega) (by unfold q_inM at ha; omega), by rw [i7]⟩)).tr ((q_C.w (Or.inl ⟨by omega, by omega⟩)).tr (q_C.w (Or.inl ⟨by omega, by omega⟩))))) (fun e M1 he => by cases he)) (fun N hN => by
          have hN0 := hN.thr 0
          obtain ⟨N6, b, f6, q6, bb, hb⟩ := m_findsBest (m := o + 548) hI.1 ht hL hr hN0
          rw [hbs] at bb hb
          obtain ⟨-, y0, y1, y2, y3, y4⟩ := bb
          have y3 : N6.1 (o + 548) 43 = Int32.ofNat p := by rw [y3, hf]; rfl
          have y4 : N6.1 (o + 548) 44 = Int32.ofNat d := by rw [y4, hf]; rfl
          have hb1 : ¬ b = 0 := by
            rcases hb with ⟨hb, -⟩ | ⟨-, hb⟩
            · rw [hb]
              decide
            · exact absurd (fun q => by cases q) hb
          obtain ⟨N8, f8, m8, q8, n8, n8'⟩ := a_note_m (q6.all hN0)
          obtain ⟨N9, f9, p9, l9⟩ := m_insert (m := o + 548) (t := t) (r := r) (s := q_noted s) (by omega) hL (by omega) h12 hpd hd m8
          have l9' : m_list N9 (o + 548) (g_l (g_ins rt r p d)) (g_ins rt r p d).length := by rw [hlen]; exact l9
          obtain ⟨N10, f10, m10, n10, n10'⟩ := m_puts (m := o + 548) (t := t) (by omega) (by omega) l9' (p9.all m8)
          have m11 := m10.w (k := 173 + 17 * r) (v := 1)
          have m12 := m11.w (k := 180 + 17 * r) (v := Int32.ofNat t)
          have m12' : m_all (o + 548) (z_wI (z_wI N10 (o + 548 + 1) (173 + 17 * r) 1) (o + 548 + 1) (180 + 17 * r) (Int32.ofNat t)) (q_row (q_noted s) (q_acc s.2.1 t r (g_ins rt r p d))) := m12
          have s41 : N10.1 (o + 548) 41 = f.2.1 := by rw [n10 _ (by omega), p9.2.1 41 (by decide), n8 41 (by decide), y1]
          refine m_ok (N' := _) (b := f.2.1) ?_ rfl m12' ?_ (((q6.M.tr q8).tr (p9.M)).tr (fun a ha => ⟨?_, ?_⟩))
          · rw [hp]
            unfold F_Model_accept
            simp only [zl]
            rw [zb2_ok ((mt N hN _).2 gr), if_pos rfl, zb_ok (of0 _ hN0), if_pos h0, zb_ok (of12 _ hN0), zb2_ok f6, if_neg hb1, zb_ok f8, n8 43 (by decide), n8 44 (by decide), y3, y4, zb_ok f9, zb_ok f10, zb_ok (m_sets (kl := 0) (k := 0) (by omega) (by omega) rfl), show 173 + 17 * r + 0 = 173 + 17 * r from rfl, zb_ok (m_sets (kl := 7) (k := 7) (by omega) (by omega) rfl), show 173 + 17 * r + 7 = 180 + 17 * r by omega, w_addr _ (show o + 548 ≠ o + 548 + 1 by omega), w_addr _ (show o + 548 ≠ o + 548 + 1 by omega), s41]
          · rw [w_addr _ (by omega), w_addr _ (by omega), n10 _ (by omega), p9.2.1 0 (by decide), n8 0 (by decide), q6.2.1 0 (by omega), w_same]
          · unfold q_inC at ha
            rw [← n10 a (by omega)]
            exact funext fun k => (w_addr k (by omega)).trans (w_addr k (by omega))
          · rw [← n10']
            rfl)
        exact ⟨M', _, e, g1, g2, hI2⟩
    · obtain ⟨M', e, g1, g2⟩ := k_accept (S := S) (c := c) (y := .ok (-2)) (s' := s) q_c1n hm h1 (l_of (c_ok (M' := M) (by
        rw [hp]
        unfold F_Sys_accept
        simp only [zxm, zb, (ct _).2 r hr rfl]
        rw [x0, if_neg h0]) hc q_C.rfl') (fun e M1 he => by cases he)) (fun N hN => m_val hN (b := -2) rfl (by
        rw [hp]
        unfold F_Model_accept
        simp only [zl]
        rw [zb2_ok ((mt N hN _).2 gr), if_pos rfl, zb_ok (of0 _ (hN.thr 0)), if_neg h0]))
      exact ⟨M', s, e, g1, g2, hI⟩
  · obtain ⟨M', e, g1, g2⟩ := k_accept (S := S) (c := c) (y := .error 1) q_c1n hm h1 (l_of (c_thr hc (by
      rw [hp]
      unfold F_Sys_accept
      simp only [zxm, zb, (ct _).1 hb])) (fun e M1 he => by cases he; rfl)) (fun N hN => m_err hN (b := 0) (v := 1) rfl (by
      rw [hp]
      unfold F_Model_accept
      simp only [zl]
      rw [zb2_ok ((mt N hN _).1 hb)]
      rfl))
    exact ⟨M', s, e, g1, g2, hI⟩
