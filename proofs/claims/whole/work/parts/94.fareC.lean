/-! ===== PURE: fare: the class ===== -/
theorem i_min4 {n : Nat} : (7 + Int32.ofNat (if n < 4 then n else 4) : Int32) - 2 = Int32.ofNat (5 + (if n < 4 then n else 4)) := by
  rw [show (7 : Int32) = Int32.ofNat 7 from rfl, i_add, show (2 : Int32) = Int32.ofNat 2 from rfl, i_sub (by omega)]
  congr 1
  omega
theorem c_amt {o n : Nat} {N : z_Mem} {s : q_S} {w : Int32} (hc : c_all o N s) (hn : n ≤ 6) : F_Traffic_amountOfWay o w (Int32.ofNat n) N = some (if n = 0 then 0 else f_amt s.2.1 w n) := by
  have r2 : N.1 (o + 5) 2 = s.2.1 2 := hc.2.1.2.2.2.1
  unfold F_Traffic_amountOfWay F_Traffic_amountOfWay_J43
  by_cases h0 : n = 0
  · rw [if_neg (show ¬ (1 : Int32) ≤ Int32.ofNat n from i_nle (a := 1) (by decide) (by omega) (by omega)), if_pos h0]
  · rw [if_pos (show (1 : Int32) ≤ Int32.ofNat n from (i_le (a := 1) (by decide) (by omega)).mpr (by omega)), if_neg h0, r2]
    simp only [zl]
    unfold f_amt f_disc
    by_cases h1 : n = 1
    · rw [if_pos (show Int32.ofNat n = 1 by rw [h1]; rfl), if_pos (show n < 2 by omega)]
    · rw [if_neg (i_ne1 (by omega) h1), if_neg (show ¬ n < 2 by omega)]
      have e4 : (if (4 : Int32) < Int32.ofNat n then (4 : Int32) else Int32.ofNat n) = Int32.ofNat (if n < 4 then n else 4) := by
        by_cases h4 : n < 4
        · rw [if_pos h4, if_neg (show ¬ (4 : Int32) < Int32.ofNat n from fun q => by
            have := (i_lt (a := 4) (by decide) (by omega)).mp q
            omega)]
        · rw [if_neg h4]
          by_cases h5 : n = 4
          · rw [if_neg (show ¬ (4 : Int32) < Int32.ofNat n from fun q => by
              have := (i_lt (a := 4) (by decide) (by omega)).mp q
              omega), h5]
          · rw [if_pos (show (4 : Int32) < Int32.ofNat n from (i_lt (a := 4) (by decide) (by omega)).mpr (by omega))]
            rfl
      have hm : (if n < 4 then n else 4) ≤ 4 ∧ 2 ≤ (if n < 4 then n else 4) := by split <;> omega
      rw [e4, i_min4, zb_ok (a_ruleV (k := 5 + (if n < 4 then n else 4)) hc (by omega) rfl), show 3 + (5 + (if n < 4 then n else 4)) = 8 + (if n < 4 then n else 4) by omega]
theorem c_part {amt : Int32} {n j : Nat} {N : z_Mem} (h1 : 1 ≤ n) (hn : n < 2 ^ 31) : F_Traffic_shareOf amt (Int32.ofNat n) (Int32.ofNat j) N = some (f_part amt n j) := by
  have h0 : ¬ Int32.ofNat n = 0 := i_ne0 hn (by omega)
  unfold F_Traffic_shareOf F_Traffic_shareOf_J22 f_part
  rw [if_pos (show (1 : Int32) ≤ Int32.ofNat n from (i_le (a := 1) (by decide) hn).mpr h1), if_pos h0, if_pos h0]
  by_cases h : amt - amt / Int32.ofNat n * Int32.ofNat n ≤ Int32.ofNat j
  · rw [if_pos h, if_pos h]
  · rw [if_neg h, if_neg h]
def c_pty (N : z_Mem) (a : Nat) (P : List Nat) : Prop := N.1 a 8 = Int32.ofNat P.length ∧ ∀ j, j < P.length → N.1 (a + 2) j = Int32.ofNat (g_l P j)
theorem c_partyAt {a k n : Nat} {M : z_Mem} (h : M.1 a 8 = Int32.ofNat n) (hn : n ≤ 6) (hk : k < n) : F_Taxi_partyAt a (Int32.ofNat k) M = some (M.1 (a + 2) k) := by
  unfold F_Taxi_partyAt
  rw [h, if_neg (i_nn (by omega)), if_neg (i_nle (by omega) (by omega) hk), if_neg (i_nle6 (by omega)), if_pos ((i_inb (by omega)).mpr (by omega)), i_cl (by omega)]
theorem c_share_L {o r : Nat} {N : z_Mem} {P : List Nat} {amt : Int32} (hP : P.length ≤ 6) (hm : ∀ u ∈ P, u < 24) (hr : r < 24) (hp : c_pty N (o + 496) P) : ∀ (k j f : Nat), j + k = P.length → k < f → F_Traffic_shareOnWay_L16 o f (Int32.ofNat r) amt (Int32.ofNat j) N = some (f_sh amt P.length r (P.drop j) j) := by
  intro k
  induction k with
  | zero =>
    intro j f hj hf
    obtain ⟨f, rfl⟩ : ∃ g, f = g + 1 := ⟨f - 1, by omega⟩
    unfold F_Traffic_shareOnWay_L16 F_Traffic_shareOnWay_B16
    rw [hp.1, if_pos ((i_le (by omega) (by omega)).mpr (by omega)), List.drop_eq_nil_of_le (by omega)]
    rfl
  | succ k ih =>
    intro j f hj hf
    obtain ⟨f, rfl⟩ : ∃ g, f = g + 1 := ⟨f - 1, by omega⟩
    have hjp : j < P.length := by omega
    have hu := hm _ (g_l_mem hjp)
    unfold F_Traffic_shareOnWay_L16 F_Traffic_shareOnWay_B16
    rw [hp.1, if_neg (i_nle (by omega) (by omega) hjp), zb_ok (c_partyAt hp.1 hP hjp), hp.2 j hjp, f_drop hjp]
    show _ = some (if g_l P j = r then f_part amt P.length j else f_sh amt P.length r (P.drop (j + 1)) (j + 1))
    by_cases h : g_l P j = r
    · rw [if_pos (by rw [h]), if_pos h, zb_ok (c_part (by omega) (by omega))]
    · rw [if_neg (fun q => h ((i_eq (by omega) (by omega)).mp q)), if_neg h, i_succ]
      exact ih (j + 1) f (by omega) (by omega)
theorem c_share {o r : Nat} {N : z_Mem} {s : q_S} {P : List Nat} {w : Int32} (hc : c_all o N s) (hP : P.length ≤ 6) (hm : ∀ u ∈ P, u < 24) (hr : r < 24) (hp : c_pty N (o + 496) P) : F_Traffic_shareOnWay o w (Int32.ofNat r) N = some (f_share s.2.1 P w r) := by
  unfold F_Traffic_shareOnWay
  rw [hp.1, zb_ok (c_amt hc hP), i_0, c_share_L hP hm hr hp P.length 0 10000 (by omega) (by omega), List.drop_zero]
  unfold f_share
  by_cases h0 : P.length = 0
  · rw [List.length_eq_zero_iff.mp h0]
    rfl
  · rw [if_neg h0]
theorem c_take {a u n : Nat} {N : z_Mem} {P : List Nat} (hp : c_pty N a P) (hn : P.length = n) (hn6 : n < 6) : ∃ N', F_Taxi_takeAboard a (Int32.ofNat u) N = some N' ∧ c_pty N' a (P ++ [u]) ∧ (∀ j, j ≠ 8 → N'.1 a j = N.1 a j) ∧ (∀ x, x ≠ a → x ≠ a + 2 → N'.1 x = N.1 x) ∧ N'.2 = N.2 := by
  have hl : (P ++ [u]).length = P.length + 1 := by rw [List.length_append]; rfl
  unfold F_Taxi_takeAboard
  rw [hp.1, hn, if_neg (i_nn (by omega)), if_neg (i_nle6 hn6), if_pos ((i_inb (by omega)).mpr hn6), i_cl (by omega)]
  simp only [zl]
  refine ⟨_, rfl, ⟨?_, fun j hj => ?_⟩, fun j hj => (w_slot _ hj).trans (w_addr _ (by omega)), fun x h1 h2 => funext fun k => (w_addr k h1).trans (w_addr k h2), rfl⟩
  · rw [w_same, w_addr _ (by omega), hp.1, i_succ, hl]
  · rw [w_addr _ (by omega)]
    by_cases hjn : j = n
    · rw [hjn, w_same, ← hn, g_l_app2]
    · rw [w_slot _ hjn, g_l_app1 (by omega)]
      exact hp.2 j (by omega)
theorem c_fancy {o s' : Nat} {N : z_Mem} {s : q_S} {P : List Nat} (hI : q_In s) (hc : c_all o N s) (hs : s' < 2 * q_N s.2.1) (hP : P.length ≤ 6) (hm : ∀ u ∈ P, u < 24) (hp : c_pty N (o + 496) P) (h6 : s' % 2 = 1 → s.2.1 (184 + 17 * (s' / 2)) ≠ 1 → P.length < 6) : ∃ N', F_Traffic_fancyStop o (Int32.ofNat s') N = some N' ∧ c_pty N' (o + 496) (f_next s.2.1 P s') ∧ (∀ j, j ≠ 8 → N'.1 (o + 496) j = N.1 (o + 496) j) ∧ (∀ x, x ≠ o + 496 → x ≠ o + 496 + 2 → N'.1 x = N.1 x) ∧ N'.2 = N.2 := by
  have hN := hI.I.rides24
  have hr : s' / 2 < q_N s.2.1 := by omega
  have x13 := (hc.2.1.2.2.2.2.2.2.2.2 _ hr).2.2.2.2.2.2.2.2.2.2.2.2.2.1
  have hab := (hI.2.1.2.2.1 _ hr).1.2.2
  unfold F_Traffic_fancyStop f_next
  rw [zb_ok (a_rideNumber (by omega) N), zb_ok (a_isPickup (by omega) N)]
  by_cases ho : s' % 2 = 1
  · rw [if_pos ho, if_neg (by decide), zb_ok (a_rideAt (M := N) (d := o + 5) (by omega)), x13, if_pos ho]
    rcases hab with h0 | h1
    · obtain ⟨N', e, g1, g2, g3, g4⟩ := c_take (u := s' / 2) hp rfl (h6 ho (by rw [h0]; decide))
      rw [if_pos h0, zb_ok e, if_neg (by rw [h0]; decide)]
      exact ⟨N', rfl, g1, g2, g3, g4⟩
    · rw [if_neg (by rw [h1]; decide), if_pos h1]
      exact ⟨N, rfl, hp, fun _ _ => rfl, fun _ _ _ => rfl, rfl⟩
  · rw [if_neg ho, if_pos rfl, if_neg ho]
    obtain ⟨N', e, g1, g2, g3, g4, g5⟩ := c_letOut (a := o + 496) (s := s' / 2) hP (by omega) (fun x hx => by have := hm x hx; omega) hp.1 hp.2
    rw [zb_ok e]
    exact ⟨N', rfl, ⟨g1, g2⟩, g3, g4, g5⟩
/-- what the fancied drive writes -/
def c_fr (o : Nat) (M M' : z_Mem) : Prop := (∀ x, (x < o + 496 ∨ o + 499 ≤ x) → M'.1 x = M.1 x) ∧ M'.2 = M.2
theorem c_fr.all {o : Nat} {M M' : z_Mem} {s : q_S} (h : c_fr o M M') (hc : c_all o M s) : c_all o M' s := hc.scr (fun x hx => h.1 x (by omega))
theorem c_fr.tr {o : Nat} {M M' M'' : z_Mem} (h : c_fr o M M') (h' : c_fr o M' M'') : c_fr o M M'' := ⟨fun x hx => (h'.1 x hx).trans (h.1 x hx), h'.2.trans h.2⟩
theorem c_fr.C {o : Nat} {M M' : z_Mem} (h : c_fr o M M') : q_C o M M' := fun a ha => ⟨h.1 a (by unfold q_inM at ha; omega), by rw [h.2]⟩
theorem c_drop_L {o t r : Nat} {s : q_S} {n : Nat} {rt pt : List Nat} {acc : Int32} (hI : q_In s) (ht : t < q_T s.1) (hL : q_taxiL s.1 s.2.1 t n rt pt) (hn : n ≤ 6) (hr : r < 24) : ∀ (j k f : Nat) (N : z_Mem), k + j = rt.length → j < f → c_all o N s → N.1 (o + 496) 1 = Int32.ofNat (s_z s.2.1 t (g_l rt) k) → c_pty N (o + 496) (f_P s.2.1 pt (g_l rt) k) →
    ∃ N', F_Traffic_fareAtDrop_L46 o f (o + 5 + 4 + 3 * t) (Int32.ofNat r) (acc + f_S s.1 s.2.1 t pt (g_l rt) r k) (Int32.ofNat k) N = some (acc + f_S s.1 s.2.1 t pt (g_l rt) r rt.length, N') ∧ c_fr o N N' := by
  have hN := hI.I.rides24
  have h12 := hL.1.2.1
  have hdr := hL.drive
  have hpr := hL.2.2.2.2
  have hpt : ∀ u ∈ pt, u < q_N s.2.1 := fun u hu => ((hL.2.1.2.2.2 u).mp hu).1
  intro j
  induction j with
  | zero =>
    intro k f N hk hf hc hz hp
    obtain ⟨f, rfl⟩ : ∃ g, f = g + 1 := ⟨f - 1, by omega⟩
    obtain ⟨h7, hl⟩ := c_route hc ht hL.1.1 h12
    unfold F_Traffic_fareAtDrop_L46 F_Traffic_fareAtDrop_B46
    rw [h7, if_pos ((i_le (by omega) (by omega)).mpr (by omega))]
    have hkn : k = rt.length := by omega
    rw [hkn]
    exact ⟨N, rfl, fun _ _ => rfl, rfl⟩
  | succ j ih =>
    intro k f N hk hf hc hz hp
    obtain ⟨f, rfl⟩ : ∃ g, f = g + 1 := ⟨f - 1, by omega⟩
    have hkn : k < rt.length := by omega
    obtain ⟨h7, hl⟩ := c_route hc ht hL.1.1 h12
    have hs := hL.val k hkn
    obtain ⟨ez, hz8⟩ := a_zoneStop hI hc hs
    have h6 := f_P_six hn hdr hpr hpt hL.1.2.2.1 (fun u hu => hI.per6 hu) hkn
    have hm := f_P_mem (A := s.2.1) hpt hL.1.2.2.1 k (by omega)
    have hm24 : ∀ u ∈ f_P s.2.1 pt (g_l rt) k, u < 24 := fun u hu => by have := hm u hu; omega
    have hcon := hL.con k hkn
    have ew := (s_m_w hI.1.2 (s_z_lt8 hI ht hL.val (show k ≤ rt.length by omega)) hz8 hcon).1
    have em : s.1 (8 * s_z s.2.1 t (g_l rt) k + q_zo s.2.1 (g_l rt k)) = s_m s.1 s.2.1 t (g_l rt) k := rfl
    unfold F_Traffic_fareAtDrop_L46 F_Traffic_fareAtDrop_B46
    rw [h7, if_neg (i_nle (by omega) (by omega) hkn), zb_ok ((a_stopAt h7 h12 hkn).trans (congrArg some (hl k hkn))), zb_ok ez, hz, zb_ok (a_way_c hc (s_z_lt8 hI ht hL.val (show k ≤ rt.length by omega)) hz8), em, ew, zb_ok (c_share hc h6 hm24 hr hp)]
    simp only [zl]
    rw [zb_ok (a_dropOf N), Int32.add_assoc]
    have eS : f_S s.1 s.2.1 t pt (g_l rt) r k + f_share s.2.1 (f_P s.2.1 pt (g_l rt) k) (s_w s.1 s.2.1 t (g_l rt) k) r = f_S s.1 s.2.1 t pt (g_l rt) r (k + 1) := rfl
    rw [eS]
    by_cases hd : g_l rt k = 2 * r
    · rw [if_pos (by rw [hd]), f_S_done hdr hpr hkn hd]
      exact ⟨N, rfl, fun _ _ => rfl, rfl⟩
    · rw [if_neg (fun q => hd ((i_eq (by omega) (by omega)).mp q))]
      have f1 : c_fr o N (z_wI N (o + 496) 1 (Int32.ofNat (q_zo s.2.1 (g_l rt k)))) := ⟨fun x hx => funext fun i => w_addr i (by omega), rfl⟩
      have hp1 : c_pty (z_wI N (o + 496) 1 (Int32.ofNat (q_zo s.2.1 (g_l rt k)))) (o + 496) (f_P s.2.1 pt (g_l rt) k) := ⟨(w_slot _ (by decide)).trans hp.1, fun i hi => (w_addr _ (by omega)).trans (hp.2 i hi)⟩
      obtain ⟨N2, e2, p2, g2, g3, g4⟩ := c_fancy hI (f1.all hc) hs h6 hm24 hp1 (fun ho ha => by
        have i1 := (f_P_inv hdr hpr k (by omega)).1
        rw [f_drop hkn] at i1
        have hk1 : k + 1 < rt.length := by
          rcases i1.first with ⟨q, -⟩ | ⟨-, -, ⟨q, -⟩ | ⟨-, q⟩⟩
          · omega
          · exact absurd q ha
          · refine Decidable.byContradiction fun hge => ?_
            rw [List.drop_eq_nil_of_le (by omega)] at q
            cases q
        have := f_P_six hn hdr hpr hpt hL.1.2.2.1 (fun u hu => hI.per6 hu) hk1
        have e : f_P s.2.1 pt (g_l rt) (k + 1) = f_P s.2.1 pt (g_l rt) k ++ [g_l rt k / 2] := by
          show f_next _ _ _ = _
          unfold f_next
          rw [if_pos ho, if_neg ha]
        rw [e, List.length_append] at this
        have e1 : [g_l rt k / 2].length = 1 := rfl
        omega)
      have f2 : c_fr o (z_wI N (o + 496) 1 (Int32.ofNat (q_zo s.2.1 (g_l rt k)))) N2 := ⟨fun x hx => g3 x (by omega) (by omega), g4⟩
      rw [zb_ok e2, i_succ]
      obtain ⟨N', e, f3⟩ := ih (k + 1) f N2 (by omega) (by omega) ((f1.tr f2).all hc) (by rw [g2 1 (by decide), w_same]; rfl) p2
      exact ⟨N', e, (f1.tr f2).tr f3⟩
theorem c_fareAtDrop {o t r : Nat} {s : q_S} {n : Nat} {rt pt : List Nat} {N : z_Mem} (hI : q_In s) (ht : t < q_T s.1) (hL : q_taxiL s.1 s.2.1 t n rt pt) (hn : n ≤ 6) (hr : r < q_N s.2.1) (hc : c_all o N s) : ∃ N', F_Traffic_fareAtDrop o (o + 5 + 4 + 3 * t) (Int32.ofNat r) N = some (s.2.1 (183 + 17 * r) + (if s.2.1 (173 + 17 * r) = 1 then s.1 67 else 0) + f_S s.1 s.2.1 t pt (g_l rt) r rt.length, N') ∧ c_fr o N N' := by
  have hN := hI.I.rides24
  have hT4 := hI.I.taxis4
  obtain ⟨x0, -, -, -, -, -, -, -, -, -, -, -, x12, -⟩ := hc.2.1.2.2.2.2.2.2.2.2 r hr
  have tx := hc.2.1.2.2.2.2.2.2.2.1 t ht
  obtain ⟨N1, e1, hq⟩ := p_taxi_copy (a := o + 496) (b := o + 5 + 4 + 3 * t) (by omega) N
  have f1 : c_fr o N N1 := ⟨fun x hx => hq.2.1 x (by omega), hq.2.2⟩
  obtain ⟨h8, hp⟩ := c_party hc ht hL.2.1.1 hL.2.1.2.1
  obtain ⟨⟨z, hz, ez⟩, -⟩ := hI.2.1.2.2.2 t ht
  have z1 : N1.1 (o + 496) 1 = Int32.ofNat (s_z s.2.1 t (g_l rt) 0) := by
    have := hq.1 0 1 (Or.inl (Or.inl (Or.inl ⟨rfl, by omega⟩)))
    refine this.trans (tx.2.1.trans ?_)
    show s.2.1 (13 + 40 * t) = Int32.ofNat ((s.2.1 (13 + 40 * t)).toNatClampNeg)
    rw [ez, i_cl (by omega)]
  have p1 : c_pty N1 (o + 496) pt := ⟨(hq.1 0 8 (Or.inl (Or.inl (Or.inl ⟨rfl, by omega⟩)))).trans h8, fun j hj => (hq.1 2 j (Or.inl (Or.inr ⟨rfl, by have := hL.2.1.2.1; omega⟩))).trans (hp j hj)⟩
  have go : ∀ v, ∃ N', F_Traffic_fareAtDrop_J32 o (o + 5 + 4 + 3 * t) (Int32.ofNat r) v (s.2.1 (183 + 17 * r)) N = some (s.2.1 (183 + 17 * r) + v + f_S s.1 s.2.1 t pt (g_l rt) r rt.length, N') ∧ c_fr o N N' := fun v => by
    obtain ⟨N', e, f2⟩ := c_drop_L (o := o) (r := r) (acc := s.2.1 (183 + 17 * r) + v) hI ht hL hn (by omega) rt.length 0 10000 N1 (by omega) (by have := hL.1.2.1; omega) (f1.all hc) z1 p1
    refine ⟨N', ?_, f1.tr f2⟩
    unfold F_Traffic_fareAtDrop_J32
    simp only [zl]
    rw [zb_ok e1, i_0]
    have e0 : f_S s.1 s.2.1 t pt (g_l rt) r 0 = 0 := rfl
    rw [e0, Int32.add_zero] at e
    exact e
  unfold F_Traffic_fareAtDrop
  rw [zb_ok (a_rideAt (M := N) (d := o + 5) (by omega)), x0, x12, show N.1 (o + 5) 1 = s.1 67 from hc.2.1.2.2.1]
  by_cases h1 : s.2.1 (173 + 17 * r) = 1
  · rw [if_pos h1, if_pos h1]
    exact go _
  · rw [if_neg h1, if_neg h1]
    exact go _
