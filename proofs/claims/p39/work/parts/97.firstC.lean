/-! ===== the class's side (out of whole, by program) ===== -/
def q_tk (A : q_R) (t : Nat) (w : Int32) (pt : List Nat) : Int32 := A (18 + 40 * t) + (if pt.length = 0 then 0 else f_amt A w pt.length)
def q_d5 (c A : q_R) (t : Nat) (rt pt : List Nat) : q_R :=
  q_setL (q_w (q_w (q_w (q_w (q_py A t (s_w c A t (g_l rt) 0) pt) (15 + 40 * t) (s_st c A t (g_l rt) 1)) (13 + 40 * t) (Int32.ofNat (q_zo A (g_l rt 0)))) (14 + 40 * t) (s_f c A t (g_l rt) 1)) (16 + 40 * t) (-1)) (24 + 40 * t) (25 + 40 * t) (rt.filter (g_no (g_l rt 0)))
/-- a party is picked up, or was waited for in vain: st its state, v what it pays -/
def q_d9 (c A : q_R) (t : Nat) (rt pt : List Nat) (st v : Int32) : q_R :=
  q_w (q_w (q_w (q_w (q_d5 c A t rt pt) (181 + 17 * (g_l rt 0 / 2)) (s_f c A t (g_l rt) 1)) (173 + 17 * (g_l rt 0 / 2)) st) (183 + 17 * (g_l rt 0 / 2)) (A (183 + 17 * (g_l rt 0 / 2)) + v)) (18 + 40 * t) (q_tk A t (s_w c A t (g_l rt) 0) pt + v)
def q_do (c A : q_R) (t : Nat) (rt pt : List Nat) : q_R :=
  if g_l rt 0 % 2 = 1 then (if A (184 + 17 * (g_l rt 0 / 2)) = 1 then q_d9 c A t rt pt 5 (A 7) else q_setL (q_d9 c A t rt pt 2 (c 67)) (37 + 40 * t) (38 + 40 * t) (pt ++ [g_l rt 0 / 2]))
  else q_setL (q_w (q_w (q_d5 c A t rt pt) (173 + 17 * (g_l rt 0 / 2)) 3) (182 + 17 * (g_l rt 0 / 2)) (s_a c A t (g_l rt) 0)) (37 + 40 * t) (38 + 40 * t) (pt.filter (g_no (g_l rt 0 / 2)))
theorem q_py_out {A : q_R} {t : Nat} {w : Int32} {pt : List Nat} {j : Nat} (h : j < 18 + 40 * t ∨ (24 + 40 * t ≤ j ∧ j < 173) ∨ (173 ≤ j ∧ ∀ r, j ≠ 183 + 17 * r)) (ht : t < 4) : q_py A t w pt j = A j := by
  unfold q_py
  rw [q_w_ne (by omega), q_w_ne (by omega), q_w_ne (by omega), q_w_ne (by omega), q_w_ne (by omega)]
  rcases h with h | h | h
  · exact q_pd_out (Or.inl (by omega))
  · exact q_pd_out (Or.inl (by omega))
  · exact q_pd_out (Or.inr h.2)
theorem q_py_ride {A : q_R} {t r : Nat} {w : Int32} {pt : List Nat} (ht : t < 4) (hr : r ∉ pt) : q_py A t w pt (183 + 17 * r) = A (183 + 17 * r) := by
  unfold q_py
  rw [q_w_ne (by omega), q_w_ne (by omega), q_w_ne (by omega), q_w_ne (by omega), q_w_ne (by omega), q_pd_ride, if_neg (fun q => hr (List.mem_of_mem_take q))]
theorem q_d5_out {c A : q_R} {t : Nat} {rt pt : List Nat} {j : Nat} (hl : rt.length ≤ 12) (ht : t < 4) (h : j < 13 + 40 * t ∨ j = 17 + 40 * t ∨ j = 19 + 40 * t ∨ (37 + 40 * t ≤ j ∧ j < 173) ∨ (173 ≤ j ∧ ∀ r, j ≠ 183 + 17 * r)) : q_d5 c A t rt pt j = A j := by
  have l1 := g_no_len (s := g_l rt 0) (L := rt)
  unfold q_d5
  by_cases h19 : j = 19 + 40 * t
  · rw [q_setL_out (by omega) (by omega), q_w_ne (by omega), q_w_ne (by omega), q_w_ne (by omega), q_w_ne (by omega)]
    unfold q_py
    rw [q_w_ne (by omega), q_w_ne (by omega), q_w_ne (by omega), q_w_ne (by omega), q_w_ne (by omega), q_pd_out (Or.inl (by omega))]
  · rw [q_setL_out (by omega) (by omega), q_w_ne (by omega), q_w_ne (by omega), q_w_ne (by omega), q_w_ne (by omega), q_py_out (by
      rcases h with h | h | h | h | h
      · exact Or.inl (by omega)
      · exact Or.inl (by omega)
      · omega
      · exact Or.inr (Or.inl (by omega))
      · exact Or.inr (Or.inr h)) ht]
theorem c_first {o t : Nat} {s : q_S} {n : Nat} {rt pt : List Nat} {N : z_Mem} (hI : q_In s) (ht : t < q_T s.1) (hL : q_taxiL s.1 s.2.1 t n rt pt) (hn : n ≤ 6) (h0 : 0 < rt.length) (hc : c_all o N s) (hp : c_plan N o s.1 s.2.1 t (g_l rt) rt.length) :
    ∃ N', F_Traffic_doFirstStop o (o + 5 + 4 + 3 * t) N = some N' ∧ c_all o N' (q_row s (q_do s.1 s.2.1 t rt pt)) ∧ (∀ x, (x < o + 5 ∨ o + 45 ≤ x) → N'.1 x = N.1 x) ∧ N'.2 = N.2 := by
  have hN24 := hI.I.rides24
  have hT4 := hI.I.taxis4
  have h12 := hL.1.2.1
  have h6 := hL.2.1.2.1
  have hx := hL.val 0 h0
  have hu : g_l rt 0 / 2 < q_N s.2.1 := by omega
  obtain ⟨h7, hl⟩ := c_route hc ht hL.1.1 h12
  obtain ⟨t1, t2, t3, t4⟩ := hp.2.2.2 0 (by omega) h0
  have hz8 := hI.zo hx
  obtain ⟨-, w, hw, ew⟩ := s_m_w hI.1.2 (s_z_lt8 hI ht hL.val (show 0 ≤ rt.length by omega)) hz8 (hL.con 0 h0)
  obtain ⟨N4, e4, c4, r4, r4'⟩ := c_payWay (o := o) hI ht hL hw hc
  rw [← ew] at e4 c4
  have tx4 := c4.2.1.2.2.2.2.2.2.2.1 t ht
  have x5 : N4.1 (o + 5 + 4 + 3 * t) 5 = s_st s.1 s.2.1 t (g_l rt) 0 := by
    refine tx4.2.2.2.2.2.1.trans ?_
    exact q_py_out (Or.inl (by omega)) (by omega)
  have x2 : N4.1 (o + 5 + 4 + 3 * t) 2 = s_f s.1 s.2.1 t (g_l rt) 0 := by
    refine tx4.2.2.1.trans ?_
    exact q_py_out (Or.inl (by omega)) (by omega)
  have rule9 : q_py s.2.1 t (s_w s.1 s.2.1 t (g_l rt) 0) pt 9 = s.2.1 9 := q_py_out (Or.inl (by omega)) (by omega)
  -- what the plan says stays
  have at0 : ∀ (N' : z_Mem) x v, (∀ y, o + 45 ≤ y → N'.1 y = N.1 y) → o + 487 ≤ x → N.1 x 0 = v → (zb (F_Plan_hasPlace o 0 N') fun x1 => if x1 = 0 then some (-1 : Int32) else if z_inb (0 : Int32) 12 then some (N'.1 x (0 : Int32).toNatClampNeg) else none) = some v := fun N' x v hy hx' hv => by
    have := c_at (N := N') (x := x) (v := v) (j := 0) ((congrFun (hy (o + 487) (by omega)) 3).trans hp.1.1) h12 h0 ((congrFun (hy x (by omega)) 0).trans hv)
    exact this
  have c5 := c4.wt ht hT4 (k := 5) (idx := 15) (v := s_st s.1 s.2.1 t (g_l rt) 1) (by unfold q_tmap; omega)
  have c6 := c5.wt ht hT4 (k := 1) (idx := 13) (v := Int32.ofNat (q_zo s.2.1 (g_l rt 0))) (by unfold q_tmap; omega)
  have c7 := c6.wt ht hT4 (k := 2) (idx := 14) (v := s_f s.1 s.2.1 t (g_l rt) 1) (by unfold q_tmap; omega)
  have c8 := c7.wt ht hT4 (k := 6) (idx := 16) (v := -1) (by unfold q_tmap; omega)
  generalize hN8 : z_wI (z_wI (z_wI (z_wI N4 (o + 5 + 4 + 3 * t) 5 (s_st s.1 s.2.1 t (g_l rt) 1)) (o + 5 + 4 + 3 * t) 1 (Int32.ofNat (q_zo s.2.1 (g_l rt 0)))) (o + 5 + 4 + 3 * t) 2 (s_f s.1 s.2.1 t (g_l rt) 1)) (o + 5 + 4 + 3 * t) 6 (-1) = N8 at c8
  have r8 : ∀ x, (x < o + 5 ∨ o + 45 ≤ x) → N8.1 x = N.1 x := fun x hx' => by
    rw [← r4 x hx', ← hN8]
    exact funext fun k => by rw [w_addr _ (by omega), w_addr _ (by omega), w_addr _ (by omega), w_addr _ (by omega)]
  have li8 : q_li (q_w (q_w (q_w (q_w (q_py s.2.1 t (s_w s.1 s.2.1 t (g_l rt) 0) pt) (15 + 40 * t) (s_st s.1 s.2.1 t (g_l rt) 1)) (13 + 40 * t) (Int32.ofNat (q_zo s.2.1 (g_l rt 0)))) (14 + 40 * t) (s_f s.1 s.2.1 t (g_l rt) 1)) (16 + 40 * t) (-1)) (24 + 40 * t) (25 + 40 * t) rt := by
    have out : ∀ j, 24 + 40 * t ≤ j → j < 37 + 40 * t → (q_w (q_w (q_w (q_w (q_py s.2.1 t (s_w s.1 s.2.1 t (g_l rt) 0) pt) (15 + 40 * t) (s_st s.1 s.2.1 t (g_l rt) 1)) (13 + 40 * t) (Int32.ofNat (q_zo s.2.1 (g_l rt 0)))) (14 + 40 * t) (s_f s.1 s.2.1 t (g_l rt) 1)) (16 + 40 * t) (-1)) j = s.2.1 j := fun j q1 q2 => by
      rw [q_w_ne (by omega), q_w_ne (by omega), q_w_ne (by omega), q_w_ne (by omega), q_py_out (Or.inr (Or.inl (by omega))) (by omega)]
    exact hL.1.1.same (out _ (by omega) (by omega)) (fun k hk => out _ (by omega) (by omega))
  obtain ⟨h78, hl8⟩ := c_route c8 ht li8 h12
  have hst48 : ∀ x ∈ rt, x < 48 := fun x hx' => by have := hL.1.2.2.1 x hx'; omega
  have l1 := g_no_len (s := g_l rt 0) (L := rt)
  obtain ⟨N9, e9, i1, i2, i3, i4, i5⟩ := c_remove (s := g_l rt 0) h12 (by omega) hst48 h78 hl8
  have c9 := c8.rt (M' := N9) ht hT4 (by omega) i1 i2 i3 i4
  have c9' : c_all o N9 (q_row s (q_d5 s.1 s.2.1 t rt pt)) := c9
  have r9 : ∀ x, (x < o + 5 ∨ o + 45 ≤ x) → N9.1 x = N.1 x := fun x hx' => (i4 x (by omega) (by omega)).trans (r8 x hx')
  have r9' : N9.2 = N.2 := by rw [i5, ← hN8]; exact r4'
  have d5N : ∀ k v, k ≠ 1 → q_N (q_w (q_d5 s.1 s.2.1 t rt pt) k v) = q_N s.2.1 := fun k v hk => by
    rw [q_N_w hk]
    unfold q_N
    rw [q_d5_out h12 (by omega) (Or.inl (by omega))]
  have d5N0 : q_N (q_d5 s.1 s.2.1 t rt pt) = q_N s.2.1 := by
    unfold q_N
    rw [q_d5_out h12 (by omega) (Or.inl (by omega))]
  have eS : F_Plan_stintBehind o (s_st s.1 s.2.1 t (g_l rt) 0) (s_f s.1 s.2.1 t (g_l rt) 0) (s_o s.1 s.2.1 t (g_l rt) 0) (s_w s.1 s.2.1 t (g_l rt) 0) N4 = some (s_st s.1 s.2.1 t (g_l rt) 1) := by
    rw [c_stint c4]
    show some (if _ < q_py s.2.1 t (s_w s.1 s.2.1 t (g_l rt) 0) pt 9 then _ else _) = _
    rw [rule9]
    rfl
  have eZ : F_Desk_zoneOfStop (o + 5) (Int32.ofNat (g_l rt 0)) (z_wI N4 (o + 5 + 4 + 3 * t) 5 (s_st s.1 s.2.1 t (g_l rt) 1)) = some (Int32.ofNat (q_zo s.2.1 (g_l rt 0))) := by
    obtain ⟨y0, y1, y2, -⟩ := c4.2.1.2.2.2.2.2.2.2.2 (g_l rt 0 / 2) (by
      show _ < q_N (q_py s.2.1 t (s_w s.1 s.2.1 t (g_l rt) 0) pt)
      unfold q_N
      rw [q_py_out (Or.inl (by omega)) (by omega)]
      exact hu)
    obtain ⟨⟨a, ha, ea⟩, ⟨b, hb, eb⟩, -⟩ := (hI.2.1.2.2.1 _ hu).1
    unfold F_Desk_zoneOfStop
    rw [zb_ok (a_rideNumber (by omega) _), zb_ok (a_rideAt (d := o + 5) (by omega)), zb_ok (a_isPickup (by omega) _), w_addr _ (by omega), w_addr _ (by omega), y1, y2]
    unfold q_zo
    by_cases h : g_l rt 0 % 2 = 1
    · rw [if_pos h, if_neg (by decide), if_pos h]
      show some (q_py s.2.1 t (s_w s.1 s.2.1 t (g_l rt) 0) pt (174 + 17 * (g_l rt 0 / 2))) = _
      rw [q_py_out (Or.inr (Or.inr ⟨by omega, fun r => by omega⟩)) (by omega), ea, i_cl (by omega)]
    · rw [if_neg h, if_pos rfl, if_neg h]
      show some (q_py s.2.1 t (s_w s.1 s.2.1 t (g_l rt) 0) pt (175 + 17 * (g_l rt 0 / 2))) = _
      rw [q_py_out (Or.inr (Or.inr ⟨by omega, fun r => by omega⟩)) (by omega), eb, i_cl (by omega)]
  have eHead : F_Traffic_doFirstStop o (o + 5 + 4 + 3 * t) N = (if (if g_l rt 0 % 2 = 1 then (1 : Int32) else 0) = 0 then zb (F_Traffic_endDrop o (o + 5 + 4 + 3 * t) (Int32.ofNat (g_l rt 0 / 2)) N9) fun M16 => some M16 else zb (F_Traffic_endPickup o (o + 5 + 4 + 3 * t) (Int32.ofNat (g_l rt 0 / 2)) N9) fun M17 => some M17) := by
    have est : F_Taxi_stopAt (o + 5 + 4 + 3 * t) 0 N = some (Int32.ofNat (g_l rt 0)) := (a_stopAt (k := 0) h7 h12 h0).trans (congrArg some (hl 0 h0))
    have w0 : ∀ N', (∀ y, o + 45 ≤ y → N'.1 y = N.1 y) → F_Plan_wayTo o 0 N' = some (s_w s.1 s.2.1 t (g_l rt) 0) := fun N' hy => at0 N' (o + 489) _ hy (by omega) t1
    have l0 : ∀ N', (∀ y, o + 45 ≤ y → N'.1 y = N.1 y) → F_Plan_leavingAt o 0 N' = some (s_o s.1 s.2.1 t (g_l rt) 0) := fun N' hy => at0 N' (o + 490) _ hy (by omega) t2
    have d0 : ∀ N', (∀ y, o + 45 ≤ y → N'.1 y = N.1 y) → F_Plan_doneAt o 0 N' = some (s_f s.1 s.2.1 t (g_l rt) 1) := fun N' hy => at0 N' (o + 492) _ hy (by omega) t4
    have f4 : ∀ y, o + 45 ≤ y → N4.1 y = N.1 y := fun y hy => r4 y (Or.inr hy)
    unfold F_Traffic_doFirstStop
    rw [zb_ok est, zb_ok (a_rideNumber (by omega) N), zb_ok (w0 N (fun _ _ => rfl)), zb_ok e4, zb_ok (l0 N4 f4), zb_ok (w0 N4 f4), x5, x2, zb_ok eS]
    simp only [zl]
    rw [zb_ok eZ, zb_ok (d0 _ (fun y hy => (funext fun k => by rw [w_addr _ (by omega), w_addr _ (by omega)]).trans (f4 y hy))), hN8, zb_ok e9, zb_ok (a_isPickup (by omega) N9)]
  rw [eHead]
  unfold q_do
  by_cases ho : g_l rt 0 % 2 = 1
  · rw [if_pos ho, if_neg (by decide), if_pos ho]
    -- a pickup
    have hd := hL.drive
    have hdrop := f_drop h0
    rw [List.drop_zero] at hdrop
    rw [hdrop] at hd
    have hnot : g_l rt 0 / 2 ∉ pt := by
      rcases hd.first with ⟨q, -⟩ | ⟨-, q, -⟩
      · omega
      · exact q
    have c10 := c9'.wr (r := g_l rt 0 / 2) (k := 10) (v := s_f s.1 s.2.1 t (g_l rt) 1) (by show _ < q_N (q_d5 s.1 s.2.1 t rt pt); rw [d5N0]; exact hu) (Or.inl (by omega))
    have y13 : (z_wI N9 (o + 5 + 16 + g_l rt 0 / 2) 10 (s_f s.1 s.2.1 t (g_l rt) 1)).1 (o + 5 + 16 + g_l rt 0 / 2) 13 = s.2.1 (184 + 17 * (g_l rt 0 / 2)) := by
      obtain ⟨-, -, -, -, -, -, -, -, -, -, -, -, -, y, -⟩ := c9'.2.1.2.2.2.2.2.2.2.2 (g_l rt 0 / 2) (by show _ < q_N (q_d5 s.1 s.2.1 t rt pt); rw [d5N0]; exact hu)
      rw [w_slot _ (by decide), y]
      exact q_d5_out h12 (by omega) (Or.inr (Or.inr (Or.inr (Or.inr ⟨by omega, fun r => by omega⟩))))
    have ed : F_Plan_doneAt o 0 N9 = some (s_f s.1 s.2.1 t (g_l rt) 1) := at0 N9 (o + 492) _ (fun y hy => r9 y (Or.inr hy)) (by omega) t4
    -- the state, and what is paid
    have pay : ∀ st v, st ≠ 0 → ∃ N12, (F_Traffic_pay (o + 5 + 4 + 3 * t) (o + 5 + 16 + g_l rt 0 / 2) v (z_wI (z_wI N9 (o + 5 + 16 + g_l rt 0 / 2) 10 (s_f s.1 s.2.1 t (g_l rt) 1)) (o + 5 + 16 + g_l rt 0 / 2) 0 st)) = some N12 ∧ c_all o N12 (q_row s (q_d9 s.1 s.2.1 t rt pt st v)) ∧ (∀ x, (x < o + 5 ∨ o + 45 ≤ x) → N12.1 x = N.1 x) ∧ N12.2 = N.2 := fun st v hst => by
      have c11 := c10.wr (r := g_l rt 0 / 2) (k := 0) (v := st) (by show _ < q_N (q_w (q_d5 s.1 s.2.1 t rt pt) _ _); rw [d5N _ _ (by rw [if_neg (by decide)]; omega)]; exact hu) (Or.inr ⟨rfl, hst⟩)
      have hu2 : g_l rt 0 / 2 < q_N (q_w (q_w (q_d5 s.1 s.2.1 t rt pt) (181 + 17 * (g_l rt 0 / 2)) (s_f s.1 s.2.1 t (g_l rt) 1)) (173 + 17 * (g_l rt 0 / 2)) st) := by
        rw [q_N_w (by omega), d5N _ _ (by omega)]
        exact hu
      have y12 : (z_wI (z_wI N9 (o + 5 + 16 + g_l rt 0 / 2) 10 (s_f s.1 s.2.1 t (g_l rt) 1)) (o + 5 + 16 + g_l rt 0 / 2) 0 st).1 (o + 5 + 16 + g_l rt 0 / 2) 12 = s.2.1 (183 + 17 * (g_l rt 0 / 2)) := by
        obtain ⟨-, -, -, -, -, -, -, -, -, -, -, -, y, -⟩ := c11.2.1.2.2.2.2.2.2.2.2 (g_l rt 0 / 2) hu2
        rw [y]
        show q_w (q_w (q_d5 s.1 s.2.1 t rt pt) (181 + 17 * (g_l rt 0 / 2)) _) (173 + 17 * (g_l rt 0 / 2)) _ (183 + 17 * (g_l rt 0 / 2)) = _
        rw [q_w_ne (by omega), q_w_ne (by omega)]
        unfold q_d5
        rw [q_setL_out (by omega) (by omega), q_w_ne (by omega), q_w_ne (by omega), q_w_ne (by omega), q_w_ne (by omega), q_py_ride (by omega) hnot]
      have c12 := c11.wr (r := g_l rt 0 / 2) (k := 12) (v := s.2.1 (183 + 17 * (g_l rt 0 / 2)) + v) hu2 (Or.inl (by omega))
      have y11 : (z_wI (z_wI (z_wI N9 (o + 5 + 16 + g_l rt 0 / 2) 10 (s_f s.1 s.2.1 t (g_l rt) 1)) (o + 5 + 16 + g_l rt 0 / 2) 0 st) (o + 5 + 16 + g_l rt 0 / 2) 12 (s.2.1 (183 + 17 * (g_l rt 0 / 2)) + v)).1 (o + 5 + 4 + 3 * t) 11 = q_tk s.2.1 t (s_w s.1 s.2.1 t (g_l rt) 0) pt := by
        rw [w_addr _ (by omega), w_addr _ (by omega), w_addr _ (by omega), (c9'.2.1.2.2.2.2.2.2.2.1 t ht).2.2.2.2.2.2.2.2.2.1]
        show q_d5 s.1 s.2.1 t rt pt (18 + 40 * t) = _
        unfold q_d5 q_py q_tk
        rw [q_setL_out (by omega) (by omega), q_w_ne (by omega), q_w_ne (by omega), q_w_ne (by omega), q_w_ne (by omega), q_w_ne (by omega), q_w_ne (by omega), q_w_ne (by omega), q_w_ne (by omega), q_w_same]
      have c13 := c12.wt ht hT4 (k := 11) (idx := 18) (v := q_tk s.2.1 t (s_w s.1 s.2.1 t (g_l rt) 0) pt + v) (by unfold q_tmap; omega)
      refine ⟨_, ?_, c13, fun x hx' => ?_, ?_⟩
      · unfold F_Traffic_pay
        simp only [zl]
        rw [y12, y11]
      · rw [← r9 x hx']
        exact funext fun k => by rw [w_addr _ (by omega), w_addr _ (by omega), w_addr _ (by omega), w_addr _ (by omega)]
      · rw [← r9']
        rfl
    unfold F_Traffic_endPickup
    rw [zb_ok (a_rideAt (M := N9) (d := o + 5) (by omega)), zb_ok ed]
    simp only [zl]
    rw [y13]
    rcases (hI.2.1.2.2.1 _ hu).1.2.2 with ha | ha
    · rw [if_pos ha, if_neg (by rw [ha]; decide)]
      obtain ⟨N12, e12, c12, r12, r12'⟩ := pay 2 (s.1 67) (by decide)
      have eflag : (z_wI (z_wI N9 (o + 5 + 16 + g_l rt 0 / 2) 10 (s_f s.1 s.2.1 t (g_l rt) 1)) (o + 5 + 16 + g_l rt 0 / 2) 0 2).1 (o + 5) 1 = s.1 67 := by
        rw [w_addr _ (by omega), w_addr _ (by omega)]
        exact c9'.2.1.2.2.1
      have lip : q_li (q_d9 s.1 s.2.1 t rt pt 2 (s.1 67)) (37 + 40 * t) (38 + 40 * t) pt := by
        have out : ∀ j, 37 + 40 * t ≤ j → j < 53 + 40 * t → q_d9 s.1 s.2.1 t rt pt 2 (s.1 67) j = s.2.1 j := fun j q1 q2 => by
          unfold q_d9
          rw [q_w_ne (by omega), q_w_ne (by omega), q_w_ne (by omega), q_w_ne (by omega), q_d5_out h12 (by omega) (Or.inr (Or.inr (Or.inr (Or.inl (by omega)))))]
        exact hL.2.1.1.same (out _ (by omega) (by omega)) (fun k hk => out _ (by omega) (by omega))
      have hlen : (pt ++ [g_l rt 0 / 2]).length ≤ 6 := by
        have hk1 : 1 < rt.length := by
          rcases hd.first with ⟨q, -⟩ | ⟨-, -, ⟨q, -⟩ | ⟨-, q⟩⟩
          · omega
          · rw [ha] at q
            exact absurd q (by decide)
          · refine Decidable.byContradiction fun hge => ?_
            rw [List.drop_eq_nil_of_le (by omega)] at q
            cases q
        have hpt : ∀ u ∈ pt, u < q_N s.2.1 := fun u hu' => ((hL.2.1.2.2.2 u).mp hu').1
        have := f_P_six hn hL.drive hL.2.2.2.2 hpt hL.1.2.2.1 (fun u hu' => hI.per6 hu') hk1
        have e : f_P s.2.1 pt (g_l rt) 1 = pt ++ [g_l rt 0 / 2] := by
          show f_next _ _ _ = _
          unfold f_next
          rw [if_pos ho, if_neg (by rw [ha]; decide)]
          rfl
        rw [e] at this
        exact this
      have hl1 : (pt ++ [g_l rt 0 / 2]).length = pt.length + 1 := by rw [List.length_append]; rfl
      obtain ⟨N13, e13, p13, j1, j2, j3⟩ := c_take (u := g_l rt 0 / 2) (show c_pty N12 (o + 5 + 4 + 3 * t) pt from c_party c12 ht lip h6) rfl (by omega)
      have c13 := c12.pt (M' := N13) ht hT4 hlen p13.1 p13.2 j1 j2
      rw [eflag, zb_ok e12, zb_ok e13]
      exact ⟨N13, rfl, c13, fun x hx' => (j2 x (by omega) (by omega)).trans (r12 x hx'), j3.trans r12'⟩
    · rw [if_neg (by rw [ha]; decide), if_pos ha]
      obtain ⟨N12, e12, c12, r12, r12'⟩ := pay 5 (s.2.1 7) (by decide)
      have erule : F_Desk_ruleValue (o + 5) 4 (z_wI (z_wI N9 (o + 5 + 16 + g_l rt 0 / 2) 10 (s_f s.1 s.2.1 t (g_l rt) 1)) (o + 5 + 16 + g_l rt 0 / 2) 0 5) = some (s.2.1 7) := by
        have c11 := c10.wr (r := g_l rt 0 / 2) (k := 0) (v := 5) (by show _ < q_N (q_w (q_d5 s.1 s.2.1 t rt pt) _ _); rw [d5N _ _ (by rw [if_neg (by decide)]; omega)]; exact hu) (Or.inr ⟨rfl, by decide⟩)
        rw [a_ruleV (kl := 4) (k := 4) c11 (by omega) rfl]
        show some (q_w (q_w (q_d5 s.1 s.2.1 t rt pt) (181 + 17 * (g_l rt 0 / 2)) _) (173 + 17 * (g_l rt 0 / 2)) _ 7) = _
        rw [q_w_ne (by omega), q_w_ne (by omega), q_d5_out h12 (by omega) (Or.inl (by omega))]
      rw [zb_ok erule, zb_ok e12]
      exact ⟨N12, rfl, c12, r12, r12'⟩
  · rw [if_neg ho, if_pos rfl, if_neg ho]
    -- a drop
    have c10 := c9'.wr (r := g_l rt 0 / 2) (k := 0) (v := 3) (by show _ < q_N (q_d5 s.1 s.2.1 t rt pt); rw [d5N0]; exact hu) (Or.inr ⟨rfl, by decide⟩)
    have c11 := c10.wr (r := g_l rt 0 / 2) (k := 11) (v := s_a s.1 s.2.1 t (g_l rt) 0) (by show _ < q_N (q_w (q_d5 s.1 s.2.1 t rt pt) (173 + 17 * (g_l rt 0 / 2)) 3); rw [d5N _ _ (by omega)]; exact hu) (Or.inl (by omega))
    have c11' : c_all o (z_wI (z_wI N9 (o + 5 + 16 + g_l rt 0 / 2) 0 3) (o + 5 + 16 + g_l rt 0 / 2) 11 (s_a s.1 s.2.1 t (g_l rt) 0)) (q_row s (q_w (q_w (q_d5 s.1 s.2.1 t rt pt) (173 + 17 * (g_l rt 0 / 2)) 3) (182 + 17 * (g_l rt 0 / 2)) (s_a s.1 s.2.1 t (g_l rt) 0))) := c11
    have lip : q_li (q_w (q_w (q_d5 s.1 s.2.1 t rt pt) (173 + 17 * (g_l rt 0 / 2)) 3) (182 + 17 * (g_l rt 0 / 2)) (s_a s.1 s.2.1 t (g_l rt) 0)) (37 + 40 * t) (38 + 40 * t) pt := by
      have out : ∀ j, 37 + 40 * t ≤ j → j < 53 + 40 * t → q_w (q_w (q_d5 s.1 s.2.1 t rt pt) (173 + 17 * (g_l rt 0 / 2)) 3) (182 + 17 * (g_l rt 0 / 2)) (s_a s.1 s.2.1 t (g_l rt) 0) j = s.2.1 j := fun j q1 q2 => by
        rw [q_w_ne (by omega), q_w_ne (by omega), q_d5_out h12 (by omega) (Or.inr (Or.inr (Or.inr (Or.inl (by omega)))))]
      exact hL.2.1.1.same (out _ (by omega) (by omega)) (fun k hk => out _ (by omega) (by omega))
    have hm48 : ∀ u ∈ pt, u < 48 := fun u hu' => by have := ((hL.2.1.2.2.2 u).mp hu').1; omega
    obtain ⟨h88, hp8⟩ := c_party c11' ht lip h6
    have l2 := g_no_len (s := g_l rt 0 / 2) (L := pt)
    obtain ⟨N12, e12, k1, k2, k3, k4, k5⟩ := c_letOut (s := g_l rt 0 / 2) h6 (by omega) hm48 h88 hp8
    have c12 := c11'.pt (M' := N12) ht hT4 (by omega) k1 k2 k3 k4
    have ea : F_Plan_arrivalAt o 0 (z_wI N9 (o + 5 + 16 + g_l rt 0 / 2) 0 3) = some (s_a s.1 s.2.1 t (g_l rt) 0) := at0 _ (o + 491) _ (fun y hy => (funext fun k => w_addr k (by omega)).trans (r9 y (Or.inr hy))) (by omega) t3
    unfold F_Traffic_endDrop
    rw [zb_ok (a_rideAt (M := N9) (d := o + 5) (by omega))]
    simp only [zl]
    rw [zb_ok ea, zb_ok e12]
    refine ⟨N12, rfl, c12, fun x hx' => ?_, ?_⟩
    · rw [k4 x (by omega) (by omega), ← r9 x hx']
      exact funext fun k => by rw [w_addr _ (by omega), w_addr _ (by omega)]
    · rw [k5, ← r9']
      rfl
