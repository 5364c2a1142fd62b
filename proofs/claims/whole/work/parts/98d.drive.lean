/-! ===== PURE: a taxi drives till a time ===== -/
def c_go (o : Nat) (M M' : z_Mem) : Prop := (∀ x, (x < o + 5 ∨ (o + 45 ≤ x ∧ x < o + 487) ∨ o + 494 ≤ x) → M'.1 x = M.1 x) ∧ M'.2 = M.2
theorem c_go.rfl' {o : Nat} {M : z_Mem} : c_go o M M := ⟨fun _ _ => rfl, rfl⟩
theorem c_go.tr {o : Nat} {M M' M'' : z_Mem} (h : c_go o M M') (h' : c_go o M' M'') : c_go o M M'' := ⟨fun x hx => (h'.1 x hx).trans (h.1 x hx), h'.2.trans h.2⟩
theorem c_go.C {o : Nat} {M M' : z_Mem} (h : c_go o M M') : q_C o M M' := fun a ha => ⟨h.1 a (by unfold q_inM at ha; omega), by rw [h.2]⟩
theorem c_pl.go {o : Nat} {M M' : z_Mem} (h : c_pl o M M') : c_go o M M' := ⟨fun x hx => h.1 x (by omega), h.2⟩
def m_go (m : Nat) (N N' : z_Mem) : Prop := (∀ x, x ≠ m → x ≠ m + 1 → (x < m + 13 ∨ m + 20 ≤ x) → N'.1 x = N.1 x) ∧ (∀ k, k ≠ 39 → N'.1 m k = N.1 m k) ∧ N'.2 = N.2
theorem m_go.rfl' {m : Nat} {N : z_Mem} : m_go m N N := ⟨fun _ _ _ _ => rfl, fun _ _ => rfl, rfl⟩
theorem m_go.tr {m : Nat} {M M' M'' : z_Mem} (h : m_go m M M') (h' : m_go m M' M'') : m_go m M M'' := ⟨fun x h1 h2 h3 => (h'.1 x h1 h2 h3).trans (h.1 x h1 h2 h3), fun k hk => (h'.2.1 k hk).trans (h.2.1 k hk), h'.2.2.trans h.2.2⟩
theorem m_pl.go {m : Nat} {M M' : z_Mem} (h : m_pl m M M') : m_go m M M' := ⟨fun x h1 _ h3 => h.1 x h1 h3, h.2.1, h.2.2⟩
theorem m_go.one {m : Nat} {M M' : z_Mem} (h : ∀ x, x ≠ m + 1 → M'.1 x = M.1 x) (h2 : M'.2 = M.2) : m_go m M M' := ⟨fun x _ h3 _ => h x h3, fun k _ => by rw [h m (by omega)], h2⟩
theorem m_go.M {o : Nat} {M M' : z_Mem} (h : m_go (o + 548) M M') : q_M o M M' := fun a ha => ⟨h.1 a (by unfold q_inC at ha; omega) (by unfold q_inC at ha; omega) (by unfold q_inC at ha; omega), by rw [h.2.2]⟩
theorem q_Inv.left {s : q_S} {t n : Nat} {rt pt : List Nat} {v : Int32} (h : q_Inv s) (ht : t < q_T s.1) (hL : q_taxiL s.1 s.2.1 t n rt pt) (hn : n ≤ 6) (en : s.1 (70 + t) = Int32.ofNat n) (h0 : 0 < rt.length) : q_Inv (q_up s (16 + 40 * t) v) ∧ q_taxiL s.1 (q_w s.2.1 (16 + 40 * t) v) t n rt pt := by
  have hT4 := h.1.I.taxis4
  have hN := h.1.I.rides24
  have h12 := hL.1.2.1
  have h6 := hL.2.1.2.1
  have eN : q_N (q_w s.2.1 (16 + 40 * t) v) = q_N s.2.1 := q_N_w (by omega)
  have hR : ∀ u, q_sameR s.2.1 (q_w s.2.1 (16 + 40 * t) v) u := fun u => ⟨fun j q1 q2 => q_w_ne (by omega), q_w_ne (by omega), q_w_ne (by omega)⟩
  have hTL : q_taxiL s.1 (q_w s.2.1 (16 + 40 * t) v) t n rt pt := by
    obtain ⟨⟨a1, a2, a3, a4⟩, ⟨b1, b2, b3, b4⟩, hc, hl, hp⟩ := hL
    refine ⟨⟨a1.same (q_w_ne (by omega)) (fun k hk => q_w_ne (by omega)), a2, fun x hx => by rw [eN]; exact a3 x hx, fun u => ?_⟩, ⟨b1.same (q_w_ne (by omega)) (fun k hk => q_w_ne (by omega)), b2, b3, fun u => ?_⟩, ?_, fun q => ?_, ?_⟩
    · rw [a4 u]
      obtain ⟨q1, q2, q3⟩ := hR u
      unfold q_should
      rw [eN, q2, q3, q1 173 (by omega) (by omega)]
    · obtain ⟨q1, q2, q3⟩ := hR u
      rw [b4 u, eN, q2, q1 173 (by omega) (by omega)]
    · rw [q_w_ne (by omega)]
      exact q_chain.same rt _ (fun x _ => hR _) hc
    · rw [q] at h0
      exact absurd h0 (Nat.lt_irrefl _)
    · rw [q_sumP.same pt (fun r _ => hR r)]
      exact q_prof.same rt _ (fun x _ => hR _) hp
  refine ⟨h.row ⟨⟨?_, by rw [eN]; exact hN⟩, h.1.2.1.2.1.w (by omega) (by omega), fun r hr => ?_, fun u hu => ?_⟩ (fun r hr hr0 => ?_), hTL⟩
  · rw [eN, q_w_ne (by omega)]
    exact h.1.I.rides
  · rw [eN] at hr
    exact (h.1.2.1.2.2.1 r hr).same (hR r)
  · by_cases hut : u = t
    · subst hut
      obtain ⟨⟨z, hz, ez⟩, -⟩ := h.1.2.1.2.2.2 u hu
      exact ⟨⟨z, hz, (q_w_ne (by omega)).trans ez⟩, n, hn, en, rt, pt, hTL⟩
    · exact (h.1.2.1.2.2.2 u hu).same (by rw [eN]; exact Nat.le_refl _) ⟨q_w_ne (by omega), q_w_ne (by omega), fun j q1 q2 => q_w_ne (by omega)⟩ (fun r hr => Or.inl ⟨by rw [← eN]; exact hr, hR r⟩)
  · rw [eN] at hr
    rw [q_w_ne (by omega)] at hr0
    rw [q_w_ne (by omega), q_w_ne (by omega)]
    exact h.2.1 r hr hr0
theorem q_Inv.first {s : q_S} {t n : Nat} {rt pt : List Nat} (h : q_Inv s) (ht : t < q_T s.1) (hL : q_taxiL s.1 s.2.1 t n rt pt) (hn : n ≤ 6) (en : s.1 (70 + t) = Int32.ofNat n) (h0 : 0 < rt.length) : q_Inv (q_row s (q_do s.1 s.2.1 t rt pt)) ∧ q_taxiL s.1 (q_do s.1 s.2.1 t rt pt) t n (rt.drop 1) (f_next s.2.1 pt (g_l rt 0)) := by
  have hT4 := h.1.I.taxis4
  have hN := h.1.I.rides24
  have h12 := hL.1.2.1
  have h6 := f_next_six h.1.2.1 hL hn h0
  obtain ⟨hJ, hTL⟩ := h.1.2.1.first hT4 ht hL hn en h0
  have hst := hL.stop (g_l_mem h0)
  refine ⟨h.row hJ (fun r hr hr0 => ?_), hTL⟩
  have out : ∀ j, (j < 13 + 40 * t ∨ (173 ≤ j ∧ (∀ r, j ≠ 183 + 17 * r) ∧ j ≠ 173 + 17 * (g_l rt 0 / 2) ∧ j ≠ 181 + 17 * (g_l rt 0 / 2) ∧ j ≠ 182 + 17 * (g_l rt 0 / 2))) → q_do s.1 s.2.1 t rt pt j = s.2.1 j := fun j hj => q_do_out (by omega) h12 h6 (by
    rcases hj with q | q
    · exact Or.inl q
    · exact Or.inr (Or.inr (Or.inr (Or.inr q))))
  have eN : q_N (q_do s.1 s.2.1 t rt pt) = q_N s.2.1 := by unfold q_N; rw [out 1 (Or.inl (by omega))]
  rw [eN] at hr
  by_cases hru : r = g_l rt 0 / 2
  · subst hru
    rw [q_do_173 (by omega) h6] at hr0
    split at hr0
    · split at hr0
      · exact absurd hr0 (by decide)
      · exact absurd hr0 (by decide)
    · exact absurd hr0 (by decide)
  · rw [out _ (Or.inr ⟨by omega, fun r' => by omega, by omega, by omega, by omega⟩)] at hr0
    rw [out _ (Or.inr ⟨by omega, fun r' => by omega, by omega, by omega, by omega⟩), out _ (Or.inr ⟨by omega, fun r' => by omega, by omega, by omega, by omega⟩)]
    exact h.2.1 r hr hr0
theorem i_nltle (a b : Int32) : (¬ a < b) ↔ b ≤ a := by
  rw [Int32.lt_iff_toInt_lt, Int32.le_iff_toInt_le]
  omega
theorem a_drive {o t n : Nat} {till : Int32} (hn : n ≤ 6) : ∀ (k : Nat) (s : q_S) (rt pt : List Nat), rt.length = k → q_Inv s → t < q_T s.1 → s.1 (70 + t) = Int32.ofNat n → q_taxiL s.1 s.2.1 t n rt pt → ∀ (i f : Nat) (M : z_Mem) (v3 : Int32), i + k ≤ 12 → k < f → c_all o M s →
    ∃ s' v, (∃ M', F_Traffic_driveTill_L5 o f (o + 5 + 4 + 3 * t) till v3 (Int32.ofNat i) M = some (v, M') ∧ c_all o M' s' ∧ c_go o M M') ∧ (q_Inv s' ∧ s'.1 = s.1 ∧ s'.2.2 = s.2.2) ∧ ∀ (N : z_Mem) (g : Nat), k < g → m_all (o + 548) N s → ∃ N', F_Model_goesOn_L5 (o + 548) g (Int32.ofNat t) till v3 1 N = some (v, N') ∧ m_all (o + 548) N' s' ∧ m_go (o + 548) N N' := by
  intro k
  induction k with
  | zero =>
    intro s rt pt hrt hI ht en hL i f M v3 hi hf hc
    obtain ⟨f, rfl⟩ : ∃ g, f = g + 1 := ⟨f - 1, by omega⟩
    have hT4 := hI.1.I.taxis4
    have hnil := List.length_eq_zero_iff.mp hrt
    have h7 := (c_route hc ht hL.1.1 hL.1.2.1).1
    have hleft := hL.2.2.2.1 hnil
    refine ⟨s, v3, ⟨M, ?_, hc, c_go.rfl'⟩, ⟨hI, rfl, rfl⟩, fun N g hg hm => ?_⟩
    · unfold F_Traffic_driveTill_L5 F_Traffic_driveTill_B5
      rw [h7, hrt]
      by_cases h12 : 12 ≤ i
      · rw [if_pos (show (12 : Int32) ≤ Int32.ofNat i from (i_le (a := 12) (by decide) (by omega)).mpr h12)]
      · rw [if_neg (i_nle12 (by omega)), if_pos (by decide)]
    · obtain ⟨g, rfl⟩ : ∃ g', g = g' + 1 := ⟨g - 1, by omega⟩
      obtain ⟨N1, e1, p1, l1⟩ := m_lists (m := o + 548) (t := t) (by omega) hL hm
      obtain ⟨b, N2, e2, p2, l2, -, -⟩ := m_plans (m := o + 548) hI.1 ht (by omega) hL.val (p1.all hm) l1
      have m2 := (p1.tr p2).all hm
      have m3 := m2.w (k := 16 + 40 * t) (v := -1)
      have e3 : q_up s (16 + 40 * t) (-1) = s := by
        unfold q_up
        rw [q_w_id hleft.symm]
        rfl
      rw [e3] at m3
      have c39 : N2.1 (o + 548) 39 ≤ 0 := by rw [l2.1, hrt]; decide
      refine ⟨z_wI N2 (o + 548 + 1) (16 + 40 * t) (-1), ?_, m3, (p1.tr p2).go.tr (m_go.one (fun x hx => funext fun j => w_addr j hx) rfl)⟩
      unfold F_Model_goesOn_L5 F_Model_goesOn_B5 F_Model_goesOn_J43 F_Model_goesOn_J44 F_Model_goesOn_J123 F_Model_goesOn_J152 F_Model_goesOn_J153
      rw [if_neg (by decide), zb_ok e1, zb2_ok e2, if_pos c39, if_pos rfl, if_pos c39, zb_ok (m_lays2 (kl := 3) (k := 3) (by omega) (by omega) rfl), show 13 + 40 * t + 3 = 16 + 40 * t by omega]
  | succ k ih =>
    intro s rt pt hrt hI ht en hL i f M v3 hi hf hc
    obtain ⟨f, rfl⟩ : ∃ g, f = g + 1 := ⟨f - 1, by omega⟩
    have hT4 := hI.1.I.taxis4
    have h0 : 0 < rt.length := by omega
    have h12 := hL.1.2.1
    have h7 := (c_route hc ht hL.1.1 h12).1
    obtain ⟨M1, e1, p1, k1⟩ := a_route (o := o) hI.1 ht hL hc
    have hc1 := p1.all hc
    obtain ⟨t1, t2, t3, t4⟩ := k1.2.2.2 0 (by omega) h0
    have ed : F_Plan_doneAt o 0 M1 = some (s_f s.1 s.2.1 t (g_l rt) 1) := c_at (j := 0) k1.1.1 h12 h0 t4
    have el : F_Plan_leavingAt o 0 M1 = some (s_o s.1 s.2.1 t (g_l rt) 0) := c_at (j := 0) k1.1.1 h12 h0 t2
    have npos : ¬ Int32.ofNat rt.length ≤ 0 := i_nle (b := 0) (by omega) (by decide) h0
    have hz14 : z_inb (0 : Int32) 14 := by decide
    by_cases hle : s_f s.1 s.2.1 t (g_l rt) 1 ≤ till
    · obtain ⟨M3, e3, c3, r3, r3'⟩ := c_first (o := o) hI.1 ht hL hn h0 hc1 k1
      obtain ⟨hI1, hTL⟩ := hI.first ht hL hn en h0
      obtain ⟨s', v, ⟨M', e, c', g'⟩, ⟨hI', hs1, hs2⟩, hM⟩ := ih (q_row s (q_do s.1 s.2.1 t rt pt)) (rt.drop 1) (f_next s.2.1 pt (g_l rt 0)) (by rw [List.length_drop]; omega) hI1 ht en hTL (i + 1) f M3 (v3 + 1) (by omega) (by omega) c3
      refine ⟨s', v, ⟨M', ?_, c', (p1.go.tr ⟨fun x hx => r3 x (by omega), r3'⟩).tr g'⟩, ⟨hI', hs1, hs2⟩, fun N g hg hm => ?_⟩
      · unfold F_Traffic_driveTill_L5 F_Traffic_driveTill_B5
        rw [if_neg (i_nle12 (by omega)), h7, if_neg npos, zb_ok e1, zb_ok ed, if_pos hle, zb_ok e3, i_succ]
        exact e
      · obtain ⟨g, rfl⟩ : ∃ g', g = g' + 1 := ⟨g - 1, by omega⟩
        obtain ⟨N1, f1, q1, l1⟩ := m_lists (m := o + 548) (t := t) (by omega) hL hm
        obtain ⟨b, N2, f2, q2, l2, -, ts⟩ := m_plans (m := o + 548) hI.1 ht (by omega) hL.val (q1.all hm) l1
        have ts := ts hL.con
        obtain ⟨N3, f3, m3, r4, r4'⟩ := m_happen (m := o + 548) (rec5 := F_Model_goesOn_L5 (o + 548) g) (till := till) (v3 := v3) (v4 := 1) hI.1 ht hL hn h0 ((q1.tr q2).all hm) l2 ts
        obtain ⟨N', f4, m4, g4⟩ := hM N3 g (by omega) m3
        refine ⟨N', ?_, m4, ((q1.tr q2).go.tr (m_go.one r4 r4')).tr g4⟩
        have ee : N2.1 (o + 548 + 16) (0 : Int32).toNatClampNeg = s_f s.1 s.2.1 t (g_l rt) 1 := (ts 0 (by omega) h0).2.2.1
        unfold F_Model_goesOn_L5 F_Model_goesOn_B5 F_Model_goesOn_J44
        rw [if_neg (by decide), zb_ok f1, zb2_ok f2, l2.1, if_neg npos, if_pos hz14, ee, if_neg (show ¬ till < s_f s.1 s.2.1 t (g_l rt) 1 from (i_nltle _ _).mpr hle), if_neg (by decide), f3]
        exact f4
    · -- it is still on its way, or has not left
      have key : ∀ v, (if till ≤ s_o s.1 s.2.1 t (g_l rt) 0 then (-1 : Int32) else s_o s.1 s.2.1 t (g_l rt) 0) = v → ∃ s' v', (∃ M', F_Traffic_driveTill_L5 o (f + 1) (o + 5 + 4 + 3 * t) till v3 (Int32.ofNat i) M = some (v', M') ∧ c_all o M' s' ∧ c_go o M M') ∧ (q_Inv s' ∧ s'.1 = s.1 ∧ s'.2.2 = s.2.2) ∧ ∀ (N : z_Mem) (g : Nat), k + 1 < g → m_all (o + 548) N s → ∃ N', F_Model_goesOn_L5 (o + 548) g (Int32.ofNat t) till v3 1 N = some (v', N') ∧ m_all (o + 548) N' s' ∧ m_go (o + 548) N N' := fun v hv => by
        obtain ⟨hI1, -⟩ := hI.left (v := v) ht hL hn en h0
        have c2 := hc1.wt ht hT4 (k := 6) (idx := 16) (v := v) (by unfold q_tmap; omega)
        refine ⟨q_up s (16 + 40 * t) v, v3, ⟨_, ?_, c2, p1.go.tr ⟨fun x hx => funext fun j => w_addr j (by omega), rfl⟩⟩, ⟨hI1, rfl, rfl⟩, fun N g hg hm => ?_⟩
        · unfold F_Traffic_driveTill_L5 F_Traffic_driveTill_B5 F_Traffic_driveTill_J64
          rw [if_neg (i_nle12 (by omega)), h7, if_neg npos, zb_ok e1, zb_ok ed, if_neg hle, zb_ok el, zb_ok el]
          by_cases hl : till ≤ s_o s.1 s.2.1 t (g_l rt) 0
          · rw [if_pos hl] at hv ⊢
            rw [hv]
            rfl
          · rw [if_neg hl] at hv ⊢
            rw [hv]
            rfl
        · obtain ⟨g, rfl⟩ : ∃ g', g = g' + 1 := ⟨g - 1, by omega⟩
          obtain ⟨N1, f1, q1, l1⟩ := m_lists (m := o + 548) (t := t) (by omega) hL hm
          obtain ⟨b, N2, f2, q2, l2, -, ts⟩ := m_plans (m := o + 548) hI.1 ht (by omega) hL.val (q1.all hm) l1
          have ts := ts hL.con
          have m3 := ((q1.tr q2).all hm).w (k := 16 + 40 * t) (v := v)
          refine ⟨z_wI N2 (o + 548 + 1) (16 + 40 * t) v, ?_, m3, (q1.tr q2).go.tr (m_go.one (fun x hx => funext fun j => w_addr j hx) rfl)⟩
          have ee : N2.1 (o + 548 + 16) (0 : Int32).toNatClampNeg = s_f s.1 s.2.1 t (g_l rt) 1 := (ts 0 (by omega) h0).2.2.1
          have eo : N2.1 (o + 548 + 14) (0 : Int32).toNatClampNeg = s_o s.1 s.2.1 t (g_l rt) 0 := (ts 0 (by omega) h0).1
          have hlt : till < s_f s.1 s.2.1 t (g_l rt) 1 := by
            refine Decidable.byContradiction fun q => hle ((i_nltle _ _).mp q)
          unfold F_Model_goesOn_L5 F_Model_goesOn_B5 F_Model_goesOn_J43 F_Model_goesOn_J44 F_Model_goesOn_J123 F_Model_goesOn_J152 F_Model_goesOn_J153
          rw [if_neg (by decide), zb_ok f1, zb2_ok f2, l2.1, if_neg npos, if_pos hz14, ee, if_pos hlt, if_pos rfl, if_neg npos, if_pos hz14, eo, if_pos hz14]
          by_cases hl : till ≤ s_o s.1 s.2.1 t (g_l rt) 0
          · rw [if_pos hl] at hv ⊢
            rw [zb_ok (m_lays2 (kl := 3) (k := 3) (by omega) (by omega) rfl), show 13 + 40 * t + 3 = 16 + 40 * t by omega, hv]
          · rw [if_neg hl] at hv ⊢
            rw [zb_ok (m_lays2 (kl := 3) (k := 3) (by omega) (by omega) rfl), show 13 + 40 * t + 3 = 16 + 40 * t by omega, hv]
      exact key _ rfl
