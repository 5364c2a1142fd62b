/-! ===== the class's side (out of whole, by program) ===== -/
theorem c_all.scr {o : Nat} {M M' : z_Mem} {s : q_S} (h : c_all o M s) (hk : ∀ x, x < o + 487 → M'.1 x = M.1 x) : c_all o M' s := by
  have h1 := h.upd (M' := M') (A' := s.2.1) (h' := s.2.2.1) (fun k _ => by rw [hk o (by omega)]) (fun x hx => hk x (by omega)) (h.2.1.keep (fun a q1 q2 => hk a (by omega))) (h.2.2.1.keep (fun a q1 q2 => hk a (by omega)))
  exact h1
/-- only the plan is written -/
def c_pl (o : Nat) (M M' : z_Mem) : Prop := (∀ x, (x < o + 487 ∨ o + 494 ≤ x) → M'.1 x = M.1 x) ∧ M'.2 = M.2
theorem c_pl.rfl' {o : Nat} {M : z_Mem} : c_pl o M M := ⟨fun _ _ => rfl, rfl⟩
theorem c_pl.tr {o : Nat} {M M' M'' : z_Mem} (h : c_pl o M M') (h' : c_pl o M' M'') : c_pl o M M'' := ⟨fun x hx => (h'.1 x hx).trans (h.1 x hx), h'.2.trans h.2⟩
theorem c_pl.w {o a k : Nat} {M M' : z_Mem} {v : Int32} (h : c_pl o M M') (h1 : o + 487 ≤ a) (h2 : a < o + 494) : c_pl o M (z_wI M' a k v) := ⟨fun x hx => (funext fun j => w_addr j (by omega)).trans (h.1 x hx), h.2⟩
theorem c_pl.all {o : Nat} {M M' : z_Mem} {s : q_S} (h : c_pl o M M') (hc : c_all o M s) : c_all o M' s := hc.scr (fun x hx => h.1 x (Or.inl hx))
def c_list (N : z_Mem) (o : Nat) (l : Nat → Nat) (n : Nat) : Prop := N.1 (o + 487) 3 = Int32.ofNat n ∧ ∀ k, k < n → N.1 (o + 488) k = Int32.ofNat (l k)
theorem a_append {o n : Nat} {N : z_Mem} {l : Nat → Nat} (hn : n < 12) (h : c_list N o l n) : ∃ N', F_Plan_append o (Int32.ofNat (l n)) N = some N' ∧ c_list N' o l (n + 1) ∧ c_pl o N N' := by
  unfold F_Plan_append
  rw [h.1, if_neg (i_nn (by omega)), if_neg (i_nle12 hn), if_pos ((i_inb (by omega)).mpr hn), i_cl (by omega)]
  simp only [zl]
  refine ⟨_, rfl, ⟨?_, fun k hk => ?_⟩, (c_pl.rfl'.w (by omega) (by omega)).w (by omega) (by omega)⟩
  · rw [w_same, w_addr _ (by omega), h.1, i_succ]
  · rw [w_addr _ (by omega)]
    by_cases hkn : k = n
    · rw [hkn, w_same]
    · rw [w_slot _ hkn]
      exact h.2 k (by omega)
theorem a_stopAt {a n k : Nat} {M : z_Mem} (h : M.1 a 7 = Int32.ofNat n) (hn : n ≤ 12) (hk : k < n) : F_Taxi_stopAt a (Int32.ofNat k) M = some (M.1 (a + 1) k) := by
  unfold F_Taxi_stopAt
  rw [h, if_neg (i_nn (by omega)), if_neg (i_nle (by omega) (by omega) hk), if_neg (i_nle12 (by omega)), if_pos ((i_inb (by omega)).mpr (by omega)), i_cl (by omega)]
theorem a_isPickup {s : Nat} (hs : s < 48) (M : z_Mem) : F_Desk_isPickup (Int32.ofNat s) M = some (if s % 2 = 1 then 1 else 0) := by
  unfold F_Desk_isPickup
  rw [i_odd s hs]
  by_cases h : s % 2 = 1
  · rw [if_pos (by rw [h]; rfl), if_pos h]
  · rw [if_neg (i_ne1 (by omega) h), if_neg h]
theorem a_rideNumber {s : Nat} (hs : s < 48) (M : z_Mem) : F_Desk_rideNumber (Int32.ofNat s) M = some (Int32.ofNat (s / 2)) := by
  unfold F_Desk_rideNumber
  rw [i_shr s hs]
theorem a_zoneStop {o s' : Nat} {N : z_Mem} {s : q_S} (hI : q_In s) (hc : c_all o N s) (hs : s' < 2 * q_N s.2.1) : F_Desk_zoneOfStop (o + 5) (Int32.ofNat s') N = some (Int32.ofNat (q_zo s.2.1 s')) ∧ q_zo s.2.1 s' < 8 := by
  have hN := hI.I.rides24
  have hr : s' / 2 < q_N s.2.1 := by omega
  obtain ⟨⟨a, ha, ea⟩, ⟨b, hb, eb⟩, -⟩ := (hI.2.1.2.2.1 _ hr).1
  obtain ⟨x0, x1, x2, -⟩ := hc.2.1.2.2.2.2.2.2.2.2 _ hr
  unfold F_Desk_zoneOfStop
  rw [zb_ok (a_rideNumber (by omega) N), zb_ok (a_rideAt (M := N) (d := o + 5) (by omega)), zb_ok (a_isPickup (by omega) N)]
  unfold q_zo
  by_cases h : s' % 2 = 1
  · rw [if_pos h, if_neg (by decide), if_pos h, x1, ea, i_cl (by omega)]
    exact ⟨rfl, ha⟩
  · rw [if_neg h, if_pos rfl, if_neg h, x2, eb, i_cl (by omega)]
    exact ⟨rfl, hb⟩
theorem a_ruleV {o k : Nat} {N : z_Mem} {s : q_S} (hc : c_all o N s) (hk : k < 10) {kl : Int32} (hl : kl = Int32.ofNat k) : F_Desk_ruleValue (o + 5) kl N = some (s.2.1 (3 + k)) := by
  subst hl
  unfold F_Desk_ruleValue
  rw [if_neg (i_nn (by omega)), if_neg (i_nle10 hk), if_pos ((i_inb (by omega)).mpr hk), i_cl (by omega), hc.2.1.2.2.2.2.2.2.1 k hk]
theorem a_stay_c {o s' : Nat} {N : z_Mem} {s : q_S} (hI : q_In s) (hc : c_all o N s) (hs : s' < 2 * q_N s.2.1) : F_Plan_stayAt o (Int32.ofNat s') N = some (s_stay s.2.1 s') := by
  have hN := hI.I.rides24
  have hr : s' / 2 < q_N s.2.1 := by omega
  have x13 := (hc.2.1.2.2.2.2.2.2.2.2 _ hr).2.2.2.2.2.2.2.2.2.2.2.2.2.1
  have hab := (hI.2.1.2.2.1 _ hr).1.2.2
  unfold F_Plan_stayAt F_Plan_stayAt_J28 F_Plan_stayAt_J29 F_Plan_stayAt_J43 s_stay
  rw [zb_ok (a_isPickup (by omega) N)]
  by_cases h : s' % 2 = 1
  · rw [if_pos h, if_neg (by decide), zb_ok (a_rideNumber (by omega) N), zb_ok (a_rideAt (M := N) (d := o + 5) (by omega)), x13]
    rcases hab with h0 | h1
    · rw [if_pos h0, if_pos rfl, zb_ok (a_ruleV (kl := 1) (k := 1) hc (by omega) rfl), if_neg (by rw [h0]; exact fun q => absurd q.2 (by decide))]
    · rw [if_neg (by rw [h1]; decide), if_neg (by decide), zb_ok (a_ruleV (kl := 3) (k := 3) hc (by omega) rfl), if_pos ⟨h, h1⟩]
  · rw [if_neg h, if_pos rfl, if_pos rfl, zb_ok (a_ruleV (kl := 1) (k := 1) hc (by omega) rfl), if_neg (fun q => h q.1)]
theorem a_hasPlace {o n k : Nat} {N : z_Mem} (h : N.1 (o + 487) 3 = Int32.ofNat n) (hn : n ≤ 12) (hk : k < n) : F_Plan_hasPlace o (Int32.ofNat k) N = some 1 := by
  unfold F_Plan_hasPlace
  rw [h, if_neg (i_nn (by omega)), if_neg (i_nle (by omega) (by omega) hk), if_neg (i_nle12 (by omega))]
theorem a_leaving_c {o t n k : Nat} {N : z_Mem} {s : q_S} {l : Nat → Nat} {w f : Int32} (hI : q_In s) (hc : c_all o N s) (ht : t < q_T s.1) (hl : c_list N o l n) (hn : n ≤ 12) (hk : k < n) (hv : l k < 2 * q_N s.2.1) (hw : N.1 (o + 489) k = w) : F_Plan_leavingTime o (o + 5 + 4 + 3 * t) (Int32.ofNat k) f N = some (s_lv s.2.1 t k (l k) w f) := by
  have hN := hI.I.rides24
  have hr : l k / 2 < q_N s.2.1 := by omega
  have x4 := (hc.2.1.2.2.2.2.2.2.2.2 _ hr).2.2.2.2.1
  have x6 := (hc.2.1.2.2.2.2.2.2.2.1 t ht).2.2.2.2.2.2.1
  have h44 : ∀ y, F_Plan_leavingTime_J44 o (Int32.ofNat k) y N = some (if l k % 2 = 1 then i_mx y (s.2.1 (177 + 17 * (l k / 2)) - w) else y) := fun y => by
    unfold F_Plan_leavingTime_J44
    have hz : z_inb (Int32.ofNat k) 12 := (i_inb (by omega)).mpr (by omega)
    have ck : (Int32.ofNat k).toNatClampNeg = k := i_cl (by omega)
    simp only [ck]
    rw [if_pos hz, hl.2 k hk, zb_ok (a_isPickup (by omega) N)]
    by_cases h : l k % 2 = 1
    · rw [if_pos h, if_neg (by decide), if_pos hz, zb_ok (a_rideNumber (by omega) N), zb_ok (a_rideAt (M := N) (d := o + 5) (by omega)), if_pos hz, x4, hw, if_pos h]
      rfl
    · rw [if_neg h, if_pos rfl, if_neg h]
  unfold F_Plan_leavingTime F_Plan_leavingTime_J20 F_Plan_leavingTime_J25
  rw [zb_ok (a_hasPlace hl.1 hn hk), if_neg (by decide), x6]
  unfold s_lv
  by_cases h0 : k = 0
  · subst h0
    have e0 : Int32.ofNat 0 = 0 := rfl
    by_cases hL : s.2.1 (16 + 40 * t) = -1
    · rw [if_pos e0, if_pos hL, if_pos e0, hc.2.1.2.1, if_neg (show ¬ ((0 : Nat) = 0 ∧ s.2.1 (16 + 40 * t) ≠ -1) from fun q => q.2 hL), if_pos (rfl : (0 : Nat) = 0)]
      exact h44 (i_mx f (s.2.1 0))
    · rw [if_pos e0, if_neg hL, if_pos ⟨rfl, hL⟩]
  · have e0 : ¬ Int32.ofNat k = 0 := fun q => h0 ((i_eq (b := 0) (by omega) (by decide)).mp q)
    rw [if_neg e0, if_neg e0, if_neg (fun q => h0 q.1), if_neg h0]
    exact h44 f
