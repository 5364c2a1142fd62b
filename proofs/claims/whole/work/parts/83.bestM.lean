/-! ===== PURE: the reference's search for the best insertion ===== -/
def m_best (N : z_Mem) (m : Nat) (st : Option q_F) : Prop := match st with
  | none => N.1 m 40 = -1
  | some f => f.1 ≠ -1 ∧ N.1 m 40 = f.1 ∧ N.1 m 41 = f.2.1 ∧ N.1 m 42 = f.2.2.1 ∧ N.1 m 43 = Int32.ofNat f.2.2.2.1 ∧ N.1 m 44 = Int32.ofNat f.2.2.2.2
def m_fb (m : Nat) (N N' : z_Mem) : Prop := (∀ x, x ≠ m → (x < m + 13 ∨ m + 20 ≤ x) → N'.1 x = N.1 x) ∧ (∀ k, (k < 39 ∨ 44 < k) → N'.1 m k = N.1 m k) ∧ N'.2 = N.2
theorem m_fb.rfl' {m : Nat} {N : z_Mem} : m_fb m N N := ⟨fun _ _ _ => rfl, fun _ _ => rfl, rfl⟩
theorem m_fb.tr {m : Nat} {M M' M'' : z_Mem} (h : m_fb m M M') (h' : m_fb m M' M'') : m_fb m M M'' := ⟨fun x h1 h2 => (h'.1 x h1 h2).trans (h.1 x h1 h2), fun k hk => (h'.2.1 k hk).trans (h.2.1 k hk), h'.2.2.trans h.2.2⟩
theorem m_pl.fb {m : Nat} {M M' : z_Mem} (h : m_pl m M M') : m_fb m M M' := ⟨h.1, fun k hk => h.2.1 k (by omega), h.2.2⟩
theorem m_fb.w {m k : Nat} {M M' : z_Mem} {v : Int32} (h : m_fb m M M') (h1 : 39 ≤ k) (h2 : k ≤ 44) : m_fb m M (z_wI M' m k v) := ⟨fun x h3 hx => (funext fun j => w_addr j h3).trans (h.1 x h3 hx), fun j hj => (w_slot m (by omega)).trans (h.2.1 j hj), h.2.2⟩
theorem m_fb.all {m : Nat} {M M' : z_Mem} {s : q_S} (h : m_fb m M M') (hm : m_all m M s) : m_all m M' s := hm.scr (fun k hk => h.2.1 k (by omega)) (fun j h1 h2 => h.1 _ (by omega) (by omega))
theorem m_fb.M {o : Nat} {M M' : z_Mem} (h : m_fb (o + 548) M M') : q_M o M M' := fun a ha => ⟨h.1 a (by unfold q_inC at ha; omega) (by unfold q_inC at ha; omega), by rw [h.2.2]⟩
theorem m_best.keep {N N' : z_Mem} {m : Nat} {st : Option q_F} (h : m_best N m st) (hk : ∀ k, 40 ≤ k → k ≤ 44 → N'.1 m k = N.1 m k) : m_best N' m st := by
  cases st with
  | none => exact (hk 40 (by omega) (by omega)).trans h
  | some f =>
    unfold m_best at h ⊢
    simp only at h ⊢
    rw [hk 40 (by omega) (by omega), hk 41 (by omega) (by omega), hk 42 (by omega) (by omega), hk 43 (by omega) (by omega), hk 44 (by omega) (by omega)]
    exact h
theorem m_inner {m t r p n : Nat} {s : q_S} {n6 : Nat} {L pt : List Nat} {rec52 : Int32 → Int32 → Int32 → Int32 → Int32 → z_Mem → Option (Int32 × z_Mem)} (hI : q_In s) (ht : t < q_T s.1) (hT : q_taxiL s.1 s.2.1 t n6 L pt) (hn : L.length = n) (hn12 : n + 2 ≤ 12) (hr : r < q_N s.2.1) : ∀ (k d f : Nat) (N : z_Mem) (st : Option q_F), d + k = n + 2 → p < d → k < f → m_all m N s → m_best N m st →
    ∃ N', F_Model_findsBest_L64 m rec52 f (Int32.ofNat t) (Int32.ofNat r) (Int32.ofNat n) (s_ways s.1 s.2.1 t (g_l L) n) (Int32.ofNat p) (Int32.ofNat d) N = rec52 (Int32.ofNat t) (Int32.ofNat r) (Int32.ofNat n) (s_ways s.1 s.2.1 t (g_l L) n) (Int32.ofNat (p + 1)) N' ∧ m_fb m N N' ∧ m_best N' m (s_inner s.1 s.2.1 t r L st p d k) := by
  subst hn
  have hN24 := hI.I.rides24
  have hT4 := hI.I.taxis4
  obtain ⟨⟨z0, hz0, ez0⟩, -⟩ := hI.2.1.2.2.2 t ht
  intro k
  induction k with
  | zero =>
    intro d f N st hd hp hf hm hb
    obtain ⟨f, rfl⟩ : ∃ g, f = g + 1 := ⟨f - 1, by omega⟩
    have hd' : d = L.length + 2 := by omega
    subst hd'
    unfold F_Model_findsBest_L64 F_Model_findsBest_B64
    rw [i_succ, if_pos ((i_lt (by omega) (by omega)).mpr (by omega)), i_succ]
    simp only [zl]
    exact ⟨N, rfl, m_fb.rfl', hb⟩
  | succ k ih =>
    intro d f N st hd hp hf hm hb
    obtain ⟨f, rfl⟩ : ∃ g, f = g + 1 := ⟨f - 1, by omega⟩
    have hdl : d ≤ L.length + 1 := by omega
    have hlt : ¬ Int32.ofNat (L.length + 1) < Int32.ofNat d := fun q => by
      have := (i_lt (by omega) (by omega)).mp q
      omega
    have hv := q_ins_val (r := r) hT.1.2.2.1 hr hp hdl
    have hfr := g_ins_fresh (r := r) hp hdl hT.fresh
    obtain ⟨N1, e1, p1, l1⟩ := m_insert (m := m) (t := t) (r := r) (by omega) hT (by omega) hn12 hp hdl hm
    obtain ⟨b, N2, e2, p2, l2, hok, ts⟩ := m_plans (m := m) hI ht (by omega) hv (p1.all hm) l1
    have hok := hok.of (s_ok_any hfr _ (fun _ => 0))
    have pp := p1.tr p2
    have m2 := pp.all hm
    have hb2 : m_best N2 m st := hb.keep (fun k h1 h2 => pp.2.1 k (by omega))
    have key : ∃ N3, F_Model_findsBest_B64 m rec52 (F_Model_findsBest_L64 m rec52 f) (Int32.ofNat t) (Int32.ofNat r) (Int32.ofNat L.length) (s_ways s.1 s.2.1 t (g_l L) L.length) (Int32.ofNat p) (Int32.ofNat d) N = F_Model_findsBest_L64 m rec52 f (Int32.ofNat t) (Int32.ofNat r) (Int32.ofNat L.length) (s_ways s.1 s.2.1 t (g_l L) L.length) (Int32.ofNat p) (Int32.ofNat (d + 1)) N3 ∧ m_fb m N N3 ∧ m_best N3 m (s_try s.1 s.2.1 t r L st p d) := by
      unfold F_Model_findsBest_B64
      rw [i_succ, if_neg hlt, zb_ok e1, zb2_ok e2]
      simp only [zl]
      rcases hok with ⟨hb1, hP⟩ | ⟨hb0, hP⟩
      · have hext := g_extra hI.1.2 (by rw [ez0, i_cl (by omega)]; exact hz0) (fun s' hs' => by
          rcases g_ins_mem hs' with q | q | q
          · exact hI.zo (hT.1.2.2.1 _ q)
          · exact hI.zo (by omega)
          · exact hI.zo (by omega)) (fun s' hs' => hI.zo (hT.1.2.2.1 _ hs')) hp hdl (by omega) hP.1
        obtain ⟨v, e3, g1, -⟩ := m_sum hI ht (by omega) hv m2 l2
        have hv1 := g1 hP.1
        subst hv1
        rw [if_neg (show ¬ b = 0 by rw [hb1]; decide), zb_ok e3]
        generalize hx : s_ways s.1 s.2.1 t (g_l (g_ins L r p d)) (L.length + 2) - s_ways s.1 s.2.1 t (g_l L) L.length = x at hext
        have ec : s_cand s.1 s.2.1 t r L p d = (x, s_a s.1 s.2.1 t (g_l (g_ins L r p d)) p, s_a s.1 s.2.1 t (g_l (g_ins L r p d)) d, p, d) := by rw [← hx]; rfl
        have zp : z_inb (Int32.ofNat p) 14 := (i_inb (by omega)).mpr (by omega)
        have zd : z_inb (Int32.ofNat d) 14 := (i_inb (by omega)).mpr (by omega)
        have cp : (Int32.ofNat p).toNatClampNeg = p := i_cl (by omega)
        have cd : (Int32.ofNat d).toNatClampNeg = d := i_cl (by omega)
        have tp := (ts hP.1 p (by omega) (by omega)).2.1
        have td := (ts hP.1 d (by omega) (by omega)).2.1
        have e146 : ∃ N3, F_Model_findsBest_J146 m rec52 (F_Model_findsBest_L64 m rec52 f) (Int32.ofNat t) (Int32.ofNat r) (Int32.ofNat L.length) (s_ways s.1 s.2.1 t (g_l L) L.length) (Int32.ofNat p) (Int32.ofNat d) x N2 = F_Model_findsBest_L64 m rec52 f (Int32.ofNat t) (Int32.ofNat r) (Int32.ofNat L.length) (s_ways s.1 s.2.1 t (g_l L) L.length) (Int32.ofNat p) (Int32.ofNat (d + 1)) N3 ∧ m_fb m N N3 ∧ m_best N3 m (some (s_cand s.1 s.2.1 t r L p d)) := by
          obtain ⟨N3, hN3⟩ : ∃ N3, N3 = z_wI (z_wI (z_wI (z_wI (z_wI N2 m 40 x) m 41 (s_a s.1 s.2.1 t (g_l (g_ins L r p d)) p)) m 42 (s_a s.1 s.2.1 t (g_l (g_ins L r p d)) d)) m 43 (Int32.ofNat p)) m 44 (Int32.ofNat d) := ⟨_, rfl⟩
          refine ⟨N3, ?_, ?_, ?_⟩
          · unfold F_Model_findsBest_J146
            simp only [zl, cp, cd]
            rw [if_pos zp, w_addr (M := N2) _ (show m + 15 ≠ m by omega), tp, if_pos zd, w_addr _ (show m + 15 ≠ m by omega), w_addr _ (show m + 15 ≠ m by omega), td, i_succ, hN3]
          · rw [hN3]
            exact ((((pp.fb.w (by omega) (by omega)).w (by omega) (by omega)).w (by omega) (by omega)).w (by omega) (by omega)).w (by omega) (by omega)
          · rw [ec, hN3]
            refine ⟨hext.1, ?_, ?_, ?_, ?_, ?_⟩
            · rw [w_slot _ (by decide), w_slot _ (by decide), w_slot _ (by decide), w_slot _ (by decide), w_same]
            · rw [w_slot _ (by decide), w_slot _ (by decide), w_slot _ (by decide), w_same]
            · rw [w_slot _ (by decide), w_slot _ (by decide), w_same]
            · rw [w_slot _ (by decide), w_same]
            · rw [w_same]
        have etry : s_try s.1 s.2.1 t r L st p d = s_pick st (s_cand s.1 s.2.1 t r L p d) := if_pos hP
        rw [etry]
        cases st with
        | none =>
          have h40 : N2.1 m 40 = -1 := hb2
          rw [if_pos h40]
          exact e146
        | some g =>
          obtain ⟨h1, g0, g1', g2, g3, g4⟩ := hb2
          have hb2' : m_best N2 m (some g) := ⟨h1, g0, g1', g2, g3, g4⟩
          have epick : s_pick (some g) (s_cand s.1 s.2.1 t r L p d) = @ite _ (s_asgood g x (s_a s.1 s.2.1 t (g_l (g_ins L r p d)) p)) (s_asgoodD _ _ _) (some g) (some (s_cand s.1 s.2.1 t r L p d)) := by rw [ec]; rfl
          rw [epick, g0, if_neg h1]
          by_cases q1 : g.1 < x
          · rw [if_pos q1, if_pos (show s_asgood g x _ from Or.inl q1), i_succ]
            exact ⟨N2, rfl, pp.fb, hb2'⟩
          · rw [if_neg q1]
            by_cases q2 : x = g.1
            · rw [if_pos q2, if_pos zp, cp, tp, g1']
              by_cases q3 : s_a s.1 s.2.1 t (g_l (g_ins L r p d)) p < g.2.1
              · rw [if_pos q3, if_neg (show ¬ s_asgood g x _ from fun q => by
                  rcases q with q | q
                  · exact q1 q
                  · exact q.2 q3)]
                exact e146
              · rw [if_neg q3, if_pos (show s_asgood g x _ from Or.inr ⟨q2.symm, q3⟩), i_succ]
                exact ⟨N2, rfl, pp.fb, hb2'⟩
            · rw [if_neg q2, if_neg (show ¬ s_asgood g x _ from fun q => by
                rcases q with q | q
                · exact q1 q
                · exact q2 q.1.symm)]
              exact e146
      · have etry : s_try s.1 s.2.1 t r L st p d = st := if_neg hP
        rw [if_pos hb0, i_succ, etry]
        exact ⟨N2, rfl, pp.fb, hb2⟩
    obtain ⟨N3, e3, p3, b3⟩ := key
    obtain ⟨N', e4, p4, b4⟩ := ih (d + 1) f N3 _ (by omega) (by omega) (by omega) (p3.all hm) b3
    unfold F_Model_findsBest_L64
    exact ⟨N', e3.trans e4, p3.tr p4, b4⟩
theorem m_outer {m t r n : Nat} {s : q_S} {n6 : Nat} {L pt : List Nat} (hI : q_In s) (ht : t < q_T s.1) (hT : q_taxiL s.1 s.2.1 t n6 L pt) (hn : L.length = n) (hn12 : n + 2 ≤ 12) (hr : r < q_N s.2.1) : ∀ (k p f : Nat) (N : z_Mem) (st : Option q_F), p + k = n + 1 → k < f → m_all m N s → m_best N m st →
    ∃ N' b, F_Model_findsBest_L52 m f (Int32.ofNat t) (Int32.ofNat r) (Int32.ofNat n) (s_ways s.1 s.2.1 t (g_l L) n) (Int32.ofNat p) N = some (b, N') ∧ m_fb m N N' ∧ m_best N' m (s_outer s.1 s.2.1 t r L st p k) ∧ q_b b (s_outer s.1 s.2.1 t r L st p k ≠ none) := by
  intro k
  induction k with
  | zero =>
    intro p f N st hp hf hm hb
    obtain ⟨f, rfl⟩ : ∃ g, f = g + 1 := ⟨f - 1, by omega⟩
    unfold F_Model_findsBest_L52 F_Model_findsBest_B52
    rw [if_pos ((i_lt (by omega) (by omega)).mpr (by omega))]
    cases st with
    | none =>
      have h40 : N.1 m 40 = -1 := hb
      rw [if_pos h40]
      exact ⟨N, 0, rfl, m_fb.rfl', hb, Or.inr ⟨rfl, fun q => q rfl⟩⟩
    | some g =>
      rw [hb.2.1, if_neg hb.1]
      exact ⟨N, 1, rfl, m_fb.rfl', hb, Or.inl ⟨rfl, fun q => by cases q⟩⟩
  | succ k ih =>
    intro p f N st hp hf hm hb
    obtain ⟨f, rfl⟩ : ∃ g, f = g + 1 := ⟨f - 1, by omega⟩
    unfold F_Model_findsBest_L52 F_Model_findsBest_B52
    rw [if_neg (fun q => by
      have := (i_lt (by omega) (by omega)).mp q
      omega), i_succ]
    simp only [zl]
    obtain ⟨N1, e1, p1, b1⟩ := m_inner (m := m) (p := p) (rec52 := F_Model_findsBest_L52 m f) hI ht hT hn hn12 hr (n + 1 - p) (p + 1) 10000 N st (by omega) (by omega) (by omega) hm hb
    rw [e1]
    obtain ⟨N', b, e2, p2, b2, hbb⟩ := ih (p + 1) f N1 _ (by omega) (by omega) (p1.all hm) b1
    subst hn
    exact ⟨N', b, e2, p1.tr p2, b2, hbb⟩
theorem m_findsBest {m t r : Nat} {s : q_S} {n6 : Nat} {L pt : List Nat} {N : z_Mem} (hI : q_In s) (ht : t < q_T s.1) (hT : q_taxiL s.1 s.2.1 t n6 L pt) (hr : r < q_N s.2.1) (hm : m_all m N s) :
    ∃ N' b, F_Model_findsBest m (Int32.ofNat t) (Int32.ofNat r) N = some (b, N') ∧ m_fb m N N' ∧ m_best N' m (s_best s.1 s.2.1 t r L) ∧ q_b b (s_best s.1 s.2.1 t r L ≠ none) := by
  have hT4 := hI.I.taxis4
  have hn := hT.1.2.1
  have p0 : m_fb m N (z_wI N m 40 (-1)) := m_fb.rfl'.w (by omega) (by omega)
  have m0 := p0.all hm
  have b0 : m_best (z_wI N m 40 (-1)) m none := w_same _ _ _ _
  unfold F_Model_findsBest s_best
  simp only [zl]
  rw [zb_ok (m_in2L (kl := 11) m0 11 (by omega) (by omega) rfl), show 13 + 40 * t + 11 = 24 + 40 * t by omega, hT.1.1.1, show Int32.ofNat L.length + 2 = Int32.ofNat (L.length + 2) from i_add _ 2]
  by_cases h : L.length + 2 ≤ 12
  · rw [if_pos h, if_pos (show Int32.ofNat (L.length + 2) ≤ (12 : Int32) from (i_le (b := 12) (by omega) (by decide)).mpr h)]
    obtain ⟨N1, e1, p1, l1⟩ := m_lists (m := m) (t := t) (by omega) hT m0
    have m1 := p1.all m0
    obtain ⟨v, e2, g1, -⟩ := m_sum hI ht (by omega) hT.val m1 l1
    have hv := g1 hT.con
    subst hv
    have b1 : m_best N1 m none := b0.keep (fun k h1 h2 => p1.2.1 k (by omega))
    have in3 : F_Model_in2 m (Int32.ofNat t) 3 N1 = some (s.2.1 (16 + 40 * t)) := by
      rw [m_in2L (kl := 3) m1 3 (by omega) (by omega) rfl]
      exact congrArg some (congrArg s.2.1 (by omega))
    rw [zb_ok e1, zb_ok e2, zb_ok in3]
    unfold F_Model_findsBest_J50
    by_cases hL : s.2.1 (16 + 40 * t) = -1
    · rw [if_pos hL, if_pos hL]
      obtain ⟨N', b, e, p2, b2, hb⟩ := m_outer (m := m) hI ht hT rfl h hr (L.length + 1 - 0) 0 10000 N1 none (by omega) (by omega) m1 b1
      exact ⟨N', b, e, (p0.tr p1.fb).tr p2, b2, hb⟩
    · rw [if_neg hL, if_neg hL]
      obtain ⟨N', b, e, p2, b2, hb⟩ := m_outer (m := m) hI ht hT rfl h hr (L.length + 1 - 1) 1 10000 N1 none (by omega) (by omega) m1 b1
      exact ⟨N', b, e, (p0.tr p1.fb).tr p2, b2, hb⟩
  · rw [if_neg h, if_neg (show ¬ Int32.ofNat (L.length + 2) ≤ (12 : Int32) from fun q => by
      have := (i_le (b := 12) (by omega) (by decide)).mp q
      omega)]
    exact ⟨_, 0, rfl, p0, b0, Or.inr ⟨rfl, fun q => q rfl⟩⟩
