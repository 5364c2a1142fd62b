/-! ===== PURE: keeps, routeMinutes, stop ===== -/
theorem q_b.uniq {x y : Int32} {P Q : Prop} (h : q_b x P) (h' : q_b y Q) (e : P ↔ Q) : x = y := by
  rcases h with ⟨h1, h2⟩ | ⟨h1, h2⟩ <;> rcases h' with ⟨h3, h4⟩ | ⟨h3, h4⟩
  · rw [h1, h3]
  · exact absurd (e.mp h2) h4
  · exact absurd (e.mpr h4) h2
  · rw [h1, h3]
theorem q_b.val {x : Int32} {P : Prop} (h : q_b x P) : x = 0 ∨ x = 1 := by
  rcases h with ⟨h1, h2⟩ | ⟨h1, h2⟩
  · exact Or.inr h1
  · exact Or.inl h1
theorem c_pl.C {o : Nat} {M M' : z_Mem} (h : c_pl o M M') : q_C o M M' := fun a ha => ⟨h.1 a (by unfold q_inM at ha; omega), by rw [h.2]⟩
theorem m_pl.M {o : Nat} {M M' : z_Mem} (h : m_pl (o + 548) M M') : q_M o M M' := fun a ha => ⟨h.1 a (by unfold q_inC at ha; omega) (by unfold q_inC at ha; omega), by rw [h.2.2]⟩
theorem c_thr {o : Nat} {M : z_Mem} {s : q_S} {e : Nat} {F : Option (q_Y × z_Mem)} (hc : c_all o M s) (h : F = some (.error e, M)) : c_does o M s (.error e) F := ⟨M, h, hc, q_C.rfl'⟩
theorem c_ok {o : Nat} {M M' : z_Mem} {s : q_S} {v : Int32} {F : Option (q_Y × z_Mem)} (h : F = some (.ok v, M')) (hc : c_all o M' s) (hk : q_C o M M') : c_does o M s (.ok v) F := ⟨M', h, hc, hk⟩
theorem m_ok {o : Nat} {N N' : z_Mem} {s : q_S} {cd : Nat → Int32} {b v : Int32} {F : Option (Int32 × z_Mem)} (h : F = some (b, N')) (hb : b = v) (hm : m_all (o + 548) N' s) (h0 : N'.1 (o + 548) 0 = 0) (hk : q_M o (z_wI N (o + 548) 0 0) N') : m_does o N s (.ok v) cd F := ⟨b, N', h, hm, q_M.thr.tr hk, h0, fun v' e => by cases e; exact hb⟩
theorem q_In.L {s : q_S} (hI : q_In s) {t : Nat} (ht : t < q_T s.1) : ∃ n rt pt, n ≤ 6 ∧ s.1 (70 + t) = Int32.ofNat n ∧ q_taxiL s.1 s.2.1 t n rt pt := by
  obtain ⟨-, n, h1, h2, rt, pt, h⟩ := hI.2.1.2.2.2 t ht
  exact ⟨n, rt, pt, h1, h2, h⟩
theorem q_taxiL.val {c A : q_R} {t n : Nat} {rt pt : List Nat} (h : q_taxiL c A t n rt pt) : q_val A (g_l rt) rt.length := fun k hk => h.1.2.2.1 _ (g_l_mem hk)
theorem q_taxiL.con {c A : q_R} {t n : Nat} {rt pt : List Nat} (h : q_taxiL c A t n rt pt) : s_con c A t (g_l rt) rt.length := g_con'.mpr h.2.2.1
theorem a_keeps {o L : Nat} {S : Nat → Int32} {i : Int32} {M : z_Mem} {s : q_S} {c : z_Mem → Option (Int32 × z_Mem)} (hI : q_In s) (hc : c_all o M s) (hm : m_all (o + 548) M s) (h1 : z_inb (i + (1 : Int32)) L) : ∃ M', Fc_1066 o L S i M c = c M' ∧ c_all o M' s ∧ m_all (o + 548) M' s := by
  generalize hp : S (i + 1).toNatClampNeg = p
  have hT := hI.I.taxis4
  have ct := a_taxi_c hI.I hc
  have mt := fun (N : z_Mem) (hN : m_all (o + 548) N s) p => a_taxi_m (m := o + 548) (N := z_wI N (o + 548) 0 0) (T := q_T s.1) (by omega) (m_taxis hI.I (hN.thr 0)) p
  rcases q_split (q_T s.1) (by omega) p with ⟨t, ht, rfl⟩ | hb
  · have gt := q_good (n := q_T s.1) (by omega) ht
    obtain ⟨n, rt, pt, -, -, hL⟩ := hI.L ht
    have hn := hL.1.2.1
    obtain ⟨M1, e1, p1, k1⟩ := a_route (o := o) hI ht hL hc
    obtain ⟨b, M2, e2, hb, r2, r2'⟩ := c_keeps hI ht hn hL.val (p1.all hc) k1
    have p2 : c_pl o M M2 := p1.tr ⟨fun x hx => r2 x (by omega), r2'⟩
    have eC : F_Sys_keeps o (Int32.ofNat t) M = some (.ok b, M2) := by
      unfold F_Sys_keeps
      simp only [zxm, zb, (ct _).2 t ht rfl, e1]
      rw [zb2_ok e2, if_pos hb.val]
    refine k_keeps (y := .ok b) q_c1n hm h1 (fun v hv => by cases hv; exact hb.val) ?_ (fun N hN => ?_)
    · rw [hp]
      have h01 := hb.val
      refine ⟨z_wL M2 (o + 573) 0 b.toInt64, ?_, p2.all hc, fun a ha => ⟨(p2.C a ha).1, ?_⟩, fun v' hv => by cases hv; exact wl_same _ _ _ _⟩
      · unfold F_LW_keeps
        rw [eC]
        rcases h01 with h0 | h0 <;> subst h0 <;> rfl
      · rw [← (p2.C a ha).2]
        exact z_wL_off (by unfold q_inM at ha; omega)
    · rw [hp]
      have hN0 := hN.thr 0
      obtain ⟨N1, f1, q1, l1⟩ := m_lists (m := o + 548) (t := t) (by omega) hL hN0
      obtain ⟨b', N2, f2, q2, l2, hb', -⟩ := m_plans (m := o + 548) hI ht (by omega) hL.val (q1.all hN0) l1
      have q := q1.tr q2
      refine m_ok (N' := N2) (b := b') ?_ (hb'.uniq hb (s_ok_any hL.fresh _ _)) (q.all hN0) ((q.2.1 0 (by decide)).trans (w_same _ _ _ _)) q.M
      unfold F_Model_keeps
      simp only [zl]
      rw [zb2_ok ((mt N hN _).2 gt), if_pos rfl, zb_ok f1, zb2_ok f2, if_pos hb'.val]
  · refine k_keeps (y := .error 1) q_c1n hm h1 (fun v hv => by cases hv) ?_ (fun N hN => m_err hN (b := 0) (v := 1) rfl ?_)
    · rw [hp]
      refine ⟨M, ?_, hc, q_C.rfl', fun v' hv => by cases hv⟩
      unfold F_LW_keeps F_Sys_keeps
      simp only [zxm, zb, (ct _).1 hb]
      rfl
    · rw [hp]
      unfold F_Model_keeps
      simp only [zl]
      rw [zb2_ok ((mt N hN _).1 hb)]
      rfl
theorem a_routeMinutes {o L : Nat} {S : Nat → Int32} {i : Int32} {M : z_Mem} {s : q_S} {c : z_Mem → Option (Int32 × z_Mem)} (hI : q_In s) (hc : c_all o M s) (hm : m_all (o + 548) M s) (h1 : z_inb (i + (1 : Int32)) L) : ∃ M', Fc_1129 o L S i M c = c M' ∧ c_all o M' s ∧ m_all (o + 548) M' s := by
  generalize hp : S (i + 1).toNatClampNeg = p
  have hT := hI.I.taxis4
  have ct := a_taxi_c hI.I hc
  have mt := fun (N : z_Mem) (hN : m_all (o + 548) N s) p => a_taxi_m (m := o + 548) (N := z_wI N (o + 548) 0 0) (T := q_T s.1) (by omega) (m_taxis hI.I (hN.thr 0)) p
  rcases q_split (q_T s.1) (by omega) p with ⟨t, ht, rfl⟩ | hb
  · have gt := q_good (n := q_T s.1) (by omega) ht
    obtain ⟨n, rt, pt, -, -, hL⟩ := hI.L ht
    have hn := hL.1.2.1
    obtain ⟨M1, e1, p1, k1⟩ := a_route (o := o) hI ht hL hc
    refine k_routeMinutes (y := .ok (s_ways s.1 s.2.1 t (g_l rt) rt.length)) q_c1n hm h1 (l_of (c_ok (M' := M1) ?_ (p1.all hc) p1.C) (fun e M1 he => by cases he)) (fun N hN => ?_)
    · rw [hp]
      unfold F_Sys_routeMinutes
      simp only [zxm, zb, (ct _).2 t ht rfl, e1]
      rw [k1.2.1]
    · rw [hp]
      have hN0 := hN.thr 0
      obtain ⟨N1, f1, q1, l1⟩ := m_lists (m := o + 548) (t := t) (by omega) hL hN0
      obtain ⟨v, f2, g1, -⟩ := m_sum hI ht (by omega) hL.val (q1.all hN0) l1
      refine m_ok (N' := N1) (b := v) ?_ (g1 hL.con) (q1.all hN0) ((q1.2.1 0 (by decide)).trans (w_same _ _ _ _)) q1.M
      unfold F_Model_routeMinutes
      simp only [zl]
      rw [zb2_ok ((mt N hN _).2 gt), if_pos rfl, zb_ok f1, zb_ok f2]
  · refine k_routeMinutes (y := .error 1) q_c1n hm h1 (l_of (c_thr hc ?_) (fun e M1 he => by cases he; rfl)) (fun N hN => m_err hN (b := 0) (v := 1) rfl ?_)
    · rw [hp]
      unfold F_Sys_routeMinutes
      simp only [zxm, zb, (ct _).1 hb]
    · rw [hp]
      unfold F_Model_routeMinutes
      simp only [zl]
      rw [zb2_ok ((mt N hN _).1 hb)]
      rfl
def q_stopV (c A : q_R) (t : Nat) (l : Nat → Nat) (j k : Nat) : Int32 := match k with
  | 0 => Int32.ofNat (l j / 2)
  | 1 => Int32.ofNat (l j % 2)
  | 2 => Int32.ofNat (q_zo A (l j))
  | 3 => s_o c A t l j
  | 4 => s_a c A t l j
  | _ => s_f c A t l (j + 1)
theorem c_at {o n j x : Nat} {N : z_Mem} {v : Int32} (hl : N.1 (o + 487) 3 = Int32.ofNat n) (hn : n ≤ 12) (hj : j < n) (hv : N.1 x j = v) : (zb (F_Plan_hasPlace o (Int32.ofNat j) N) fun x1 => if x1 = 0 then some (-1 : Int32) else if z_inb (Int32.ofNat j) 12 then some (N.1 x (Int32.ofNat j).toNatClampNeg) else none) = some v := by
  have cj : (Int32.ofNat j).toNatClampNeg = j := i_cl (by omega)
  rw [zb_ok (a_hasPlace hl hn hj), if_neg (by decide), if_pos ((i_inb (by omega)).mpr (by omega)), cj, hv]
theorem a_stop {o L : Nat} {S : Nat → Int32} {i : Int32} {M : z_Mem} {s : q_S} {c : z_Mem → Option (Int32 × z_Mem)} (hI : q_In s) (hc : c_all o M s) (hm : m_all (o + 548) M s) (h1 : z_inb (i + (1 : Int32)) L) (h2 : z_inb (i + (2 : Int32)) L) (h3 : z_inb (i + (3 : Int32)) L) : ∃ M', Fc_658 o L S i M c = c M' ∧ c_all o M' s ∧ m_all (o + 548) M' s := by
  generalize hp : S (i + 1).toNatClampNeg = p
  generalize hq : S (i + 2).toNatClampNeg = q
  generalize hw : S (i + 3).toNatClampNeg = w
  have hT := hI.I.taxis4
  have hN24 := hI.I.rides24
  have ct := a_taxi_c hI.I hc
  have mt := fun (N : z_Mem) (hN : m_all (o + 548) N s) p => a_taxi_m (m := o + 548) (N := z_wI N (o + 548) 0 0) (T := q_T s.1) (by omega) (m_taxis hI.I (hN.thr 0)) p
  rcases q_split (q_T s.1) (by omega) p with ⟨t, ht, rfl⟩ | hb
  · have gt := q_good (n := q_T s.1) (by omega) ht
    obtain ⟨n, rt, pt, -, -, hL⟩ := hI.L ht
    have hn := hL.1.2.1
    have x7 := (hc.2.1.2.2.2.2.2.2.2.1 t ht).2.2.2.2.2.2.2.1
    have h7 := x7.trans hL.1.1.1
    have in11 : ∀ N, m_all (o + 548) N s → F_Model_in2 (o + 548) (Int32.ofNat t) 11 N = some (Int32.ofNat rt.length) := fun N hN => by
      rw [m_in2L (kl := 11) hN 11 (by omega) (by omega) rfl, show 13 + 40 * t + 11 = 24 + 40 * t by omega, hL.1.1.1]
    rcases q_split rt.length (by omega) q with ⟨j, hj, rfl⟩ | hb
    · have gj := q_good (n := rt.length) (by omega) hj
      have hsj := hL.val j hj
      have xr := (hc.2.1.2.2.2.2.2.2.2.1 t ht).2.2.2.2.2.2.2.2.2.2.2.2.2.2.2.1
      have hv : M.1 (o + 5 + 4 + 3 * t + 1) j = Int32.ofNat (g_l rt j) := (xr j (by omega) (by rw [hL.1.1.1]; exact (i_lt (by omega) (by omega)).mpr hj)).trans (hL.1.1.2 j _ (g_l_get hj))
      have est := (a_stopAt h7 hn hj).trans (congrArg some hv)
      obtain ⟨M1, e1, p1, k1, k2, k3, k4⟩ := a_route (o := o) hI ht hL hc
      obtain ⟨t1, t2, t3, t4⟩ := k4 j (by omega) hj
      have b1 := p1.all hc
      have ej : ¬ Int32.ofNat j < 0 := i_nn (by omega)
      have ej2 : Int32.ofNat j < M.1 (o + 5 + 4 + 3 * t) 7 := by rw [h7]; exact (i_lt (by omega) (by omega)).mpr hj
      rcases q_split 6 (by omega) w with ⟨k, hk, rfl⟩ | hb
      · have gk := q_good (n := 6) (by omega) hk
        refine k_stop (y := .ok (q_stopV s.1 s.2.1 t (g_l rt) j k)) q_c1n hm h1 h2 h3 (l_of (c_ok (M' := M1) ?_ b1 p1.C) (fun e M1 he => by cases he)) (fun N hN => ?_)
        · rw [hp, hq, hw]
          unfold F_Sys_stop
          simp only [zxm, zb, (ct _).2 t ht rfl]
          rw [if_neg ej, if_pos ej2, est]
          simp only [zb]
          rw [e1]
          rcases (show k = 0 ∨ k = 1 ∨ k = 2 ∨ k = 3 ∨ k = 4 ∨ k = 5 by omega) with rfl | rfl | rfl | rfl | rfl | rfl
          · exact congrArg (fun z => zb z fun x10 => some (Except.ok x10, M1)) (a_rideNumber (by omega) M1)
          · refine (congrArg (fun z => zb z fun x9 => if x9 = 0 then some (Except.ok (0 : Int32), M1) else some (Except.ok 1, M1)) (a_isPickup (s := g_l rt j) (by omega) M1)).trans ?_
            show (if (if g_l rt j % 2 = 1 then (1 : Int32) else 0) = 0 then _ else _) = some (Except.ok (Int32.ofNat (g_l rt j % 2)), M1)
            by_cases ho : g_l rt j % 2 = 1
            · rw [if_pos ho, if_neg (by decide), ho]
              rfl
            · rw [if_neg ho, if_pos rfl, show g_l rt j % 2 = 0 by omega]
              rfl
          · exact congrArg (fun z => zb z fun x10 => some (Except.ok x10, M1)) (a_zoneStop hI b1 hsj).1
          · exact congrArg (fun z => zb z fun x10 => some (Except.ok x10, M1)) (c_at k1.1 hn hj t2)
          · exact congrArg (fun z => zb z fun x10 => some (Except.ok x10, M1)) (c_at k1.1 hn hj t3)
          · exact congrArg (fun z => zb z fun x10 => some (Except.ok x10, M1)) (c_at k1.1 hn hj t4)
        · rw [hp, hq, hw]
          have hN0 := hN.thr 0
          obtain ⟨N1, f1, q1, l1⟩ := m_lists (m := o + 548) (t := t) (by omega) hL hN0
          obtain ⟨b', N2, f2, q2, l2, hb', ts⟩ := m_plans (m := o + 548) hI ht (by omega) hL.val (q1.all hN0) l1
          have qq := q1.tr q2
          obtain ⟨u1, u2, u3, u4, u5⟩ := ts hL.con j (by omega) hj
          have lj := l2.2 j hj
          refine m_ok (N' := N2) (b := q_stopV s.1 s.2.1 t (g_l rt) j k) ?_ rfl (qq.all hN0) ((qq.2.1 0 (by decide)).trans (w_same _ _ _ _)) qq.M
          have hz : z_inb (Int32.ofNat j) 14 := (i_inb (by omega)).mpr (by omega)
          have cj : (Int32.ofNat j).toNatClampNeg = j := i_cl (by omega)
          have in1 : F_Model_in (Int32.ofNat j).toInt64 0 ((Int32.ofNat rt.length - 1).toInt64) (z_wI N (o + 548) 0 0) = some 1 := by
            refine (p_in (Int32.ofNat j) 0 (Int32.ofNat rt.length - 1) _).trans ?_
            rw [if_neg ej, if_neg]
            intro q
            rw [i_pred (by omega) ej, cj] at q
            omega
          have in5 : F_Model_in (Int32.ofNat k).toInt64 0 5 (z_wI N (o + 548) 0 0) = some 1 := by
            refine (p_in (Int32.ofNat k) 0 5 _).trans ?_
            rw [if_neg (i_nn (by omega)), if_neg (show ¬ (5 : Int32) < Int32.ofNat k from fun q => by
              have := (i_lt (a := 5) (by decide) (by omega)).mp q
              omega)]
          unfold F_Model_stop F_Model_stop_J49
          simp only [zl]
          rw [zb2_ok ((mt N hN _).2 gt), if_pos rfl, zb_ok (in11 _ hN0), zb_ok in1, if_neg (by decide), zb_ok in5, if_neg (by decide)]
          unfold F_Model_stop_J50
          rw [zb2_ok ((p_fails (o + 548) 1 1 _).trans (by rw [if_neg (by decide)])), if_pos rfl, zb_ok f1, zb2_ok f2]
          simp only [cj, if_pos hz]
          rw [lj, u1, u2, u3]
          rcases (show k = 0 ∨ k = 1 ∨ k = 2 ∨ k = 3 ∨ k = 4 ∨ k = 5 by omega) with rfl | rfl | rfl | rfl | rfl | rfl
          · rw [if_pos (show Int32.ofNat 0 = 0 from rfl), i_half (by omega)]
            rfl
          · rw [if_neg (by decide), if_pos (show Int32.ofNat 1 = 1 from rfl), i_odd _ (by omega)]
            rfl
          · rw [if_neg (by decide), if_neg (by decide), if_pos (show Int32.ofNat 2 = 2 from rfl), zb_ok (m_zoneOf hI (qq.all hN0) hsj).1]
            rfl
          · rw [if_neg (by decide), if_neg (by decide), if_neg (by decide), if_pos (show Int32.ofNat 3 = 3 from rfl)]
            rfl
          · rw [if_neg (by decide), if_neg (by decide), if_neg (by decide), if_neg (by decide), if_pos (show Int32.ofNat 4 = 4 from rfl)]
            rfl
          · rw [if_neg (by decide), if_neg (by decide), if_neg (by decide), if_neg (by decide), if_neg (by decide)]
            rfl
      · have n0 : ¬ w = (0 : Int32) := q_badne (t := 0) (by omega) (by omega) hb
        have n1 : ¬ w = (1 : Int32) := q_badne (t := 1) (by omega) (by omega) hb
        have n2 : ¬ w = (2 : Int32) := q_badne (t := 2) (by omega) (by omega) hb
        have n3 : ¬ w = (3 : Int32) := q_badne (t := 3) (by omega) (by omega) hb
        have n4 : ¬ w = (4 : Int32) := q_badne (t := 4) (by omega) (by omega) hb
        have n5 : ¬ w = (5 : Int32) := q_badne (t := 5) (by omega) (by omega) hb
        refine k_stop (y := .error 1) q_c1n hm h1 h2 h3 (l_of ⟨M1, ?_, b1, p1.C⟩ (fun e M1 he => by cases he; rfl)) (fun N hN => m_err hN (b := 0) (v := 1) rfl ?_)
        · rw [hp, hq, hw]
          unfold F_Sys_stop
          simp only [zxm, zb, (ct _).2 t ht rfl]
          rw [if_neg ej, if_pos ej2, est]
          simp only [zb]
          rw [e1]
          simp only [zb]
          rw [if_neg n0, if_neg n1, if_neg n2, if_neg n3, if_neg n4, if_neg n5]
        · rw [hp, hq, hw]
          have hN0 := hN.thr 0
          have cj : (Int32.ofNat j).toNatClampNeg = j := i_cl (by omega)
          have in1 : F_Model_in (Int32.ofNat j).toInt64 0 ((Int32.ofNat rt.length - 1).toInt64) (z_wI N (o + 548) 0 0) = some 1 := by
            refine (p_in (Int32.ofNat j) 0 (Int32.ofNat rt.length - 1) _).trans ?_
            rw [if_neg ej, if_neg]
            intro q
            rw [i_pred (by omega) ej, cj] at q
            omega
          have in5 : F_Model_in w.toInt64 0 5 (z_wI N (o + 548) 0 0) = some 0 := by
            refine (p_in w 0 5 _).trans ?_
            by_cases h0 : w < 0
            · rw [if_pos h0]
            · rw [if_neg h0, if_pos]
              have h6 : (6 : Int32) ≤ w := (q_badle (n := 6) (by omega) h0).mp (hb.resolve_left h0)
              rw [Int32.le_iff_toInt_le] at h6
              rw [Int32.lt_iff_toInt_lt]
              have a5 : (5 : Int32).toInt = 5 := rfl
              have a6 : (6 : Int32).toInt = 6 := rfl
              omega
          unfold F_Model_stop F_Model_stop_J49 F_Model_stop_J50
          simp only [zl]
          rw [zb2_ok ((mt N hN _).2 gt), if_pos rfl, zb_ok (in11 _ hN0), zb_ok in1, if_neg (by decide), zb_ok in5, if_pos rfl]
          rfl
    · refine k_stop (y := .error 1) q_c1n hm h1 h2 h3 (l_of (c_thr hc ?_) (fun e M1 he => by cases he; rfl)) (fun N hN => m_err hN (b := 0) (v := 1) rfl ?_)
      · rw [hp, hq, hw]
        unfold F_Sys_stop F_Sys_stop_J20
        simp only [zxm, zb, (ct _).2 t ht rfl]
        by_cases h0 : q < 0
        · rw [if_pos h0]
        · rw [if_neg h0, if_neg (by rw [h7]; exact hb.resolve_left h0)]
      · rw [hp, hq, hw]
        have hN0 := hN.thr 0
        have in1 : F_Model_in q.toInt64 0 ((Int32.ofNat rt.length - 1).toInt64) (z_wI N (o + 548) 0 0) = some 0 := by
          refine (p_in q 0 (Int32.ofNat rt.length - 1) _).trans ?_
          by_cases h0 : q < 0
          · rw [if_pos h0]
          · rw [if_neg h0, if_pos]
            exact ((q_badp (by omega)).mpr hb).resolve_left h0
        unfold F_Model_stop F_Model_stop_J49 F_Model_stop_J50
        simp only [zl]
        rw [zb2_ok ((mt N hN _).2 gt), if_pos rfl, zb_ok (in11 _ hN0), zb_ok in1, if_pos rfl]
        rfl
  · refine k_stop (y := .error 1) q_c1n hm h1 h2 h3 (l_of (c_thr hc ?_) (fun e M1 he => by cases he; rfl)) (fun N hN => m_err hN (b := 0) (v := 1) rfl ?_)
    · rw [hp, hq, hw]
      unfold F_Sys_stop
      simp only [zxm, zb, (ct _).1 hb]
    · rw [hp, hq, hw]
      unfold F_Model_stop
      simp only [zl]
      rw [zb2_ok ((mt N hN _).1 hb)]
      rfl
