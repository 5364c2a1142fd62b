/-! ===== PURE: the law's text is loaded ===== -/
theorem v_load {o n N Z T f r d2 d3 wt dw pt fe ofr : Nat} {m g h k : Nat → Nat} {M : z_Mem} {s : q_S} (hZ : 3 ≤ Z) (hZ8 : Z ≤ 8) (hT : T ≤ 4) (hm : ∀ z, 1 ≤ m z ∧ m z ≤ 99) (hg : ∀ t, 1 ≤ g t ∧ g t ≤ 6) (hh : ∀ t, h t < Z) (hk : ∀ t, k t ≤ 15) (hf : f < 1000) (hr : r < 1000) (h2 : d2 ≤ 90) (h3 : d3 ≤ 90) (hwt : wt ≤ 60) (hdw : dw ≤ 9) (hpt : pt ≤ 30) (hfe : fe < 1000) (hof : ofr ≤ 60)
    (hc : c_all o M s) (hN : M.1 o 1 = Int32.ofNat N) (hN8 : N ≤ 800) (hn : n ≤ N) (hl : (v_text Z T m g h k f r d2 d3 wt dw pt fe ofr).length = n) (hb : ∀ i x, (v_text Z T m g h k f r d2 d3 wt dw pt fe ofr)[i]? = some x → M.1 (o + 1) i &&& 255 = Int32.ofNat x ∧ x < 256) :
    ∃ M' s', F_Sys_load o (Int32.ofNat n) M = some (Int32.ofNat T, M') ∧ c_all o M' s' ∧ q_Inv s' ∧ i_X 0 0 s' ∧ s'.1 64 = Int32.ofNat Z ∧ s'.1 65 = Int32.ofNat Z ∧ q_T s'.1 = T ∧ s'.1 67 = Int32.ofNat f ∧ s'.2.1 7 = Int32.ofNat fe ∧ s'.2.2.2.2.2.1 = -1 ∧ q_N s'.2.1 = 0 ∧ i_lo o M M' := by
  obtain ⟨X, eX⟩ : ∃ X, X = v_text Z T m g h k f r d2 d3 wt dw pt fe ofr := ⟨_, rfl⟩
  rw [← eX] at hl hb
  have hT256 : ∀ i, X.getD i 0 < 256 := fun i => by
    rw [List.getD_eq_getElem?_getD]
    cases q : X[i]? with
    | none => exact (by decide : (0 : Nat) < 256)
    | some x => exact (hb i x q).2
  have hat : v_at (fun i => X.getD i 0) n 0 X := ⟨by omega, fun i x hx => by
    rw [Nat.zero_add]
    show X.getD i 0 = x
    rw [List.getD_eq_getElem?_getD, hx]
    rfl⟩
  have hhd : v_hd X := by
    rw [eX]
    exact v_wd_hd (by omega) _
  unfold F_Sys_load
  rw [if_neg (i_nn (by omega)), hN, if_pos ((i_le (by omega) (by omega)).mpr hn), zl_eq]
  obtain ⟨M2, e2, a2, a0, a1, ax, al⟩ := c_begin (o := o) (n := n) (T := fun i => X.getD i 0) (M := z_wI M o 1 0) hT256 (by omega) (fun i hi => by
    rw [w_addr _ (by omega)]
    have hi' : X[i]? = some (X[i]'(by omega)) := List.getElem?_eq_getElem (by omega)
    rw [(hb i _ hi').1]
    show _ = Int32.ofNat (X.getD i 0)
    rw [List.getD_eq_getElem?_getD, hi']
    rfl)
  rw [v_sk0 hat hhd] at a2
  have hK : v_K o M2 X := ⟨_, n, 0, hT256, by omega, a2, hat⟩
  rw [eX] at hK
  obtain ⟨M4, c, A, W, e4, ⟨C1, C2, C3, C4⟩, hrI, hJ, hTc, h67, h7, c4⟩ := v_readText hZ hZ8 hT hm hg hh hk hf hr h2 h3 hwt hdw hpt hfe hof a0 hK
  rw [zb_ok e2, e4]
  -- what has been kept
  have ko : ∀ k, k ≠ 1 → M4.1 o k = M.1 o k := fun k hk => by
    rw [c4.1 o (by omega) (by omega), ax o (by omega)]
    exact w_slot _ hk
  have ko1 : M4.1 o 1 = 0 := by
    rw [c4.1 o (by omega) (by omega), ax o (by omega)]
    exact w_same _ _ _ _
  have kx : ∀ x, x ≠ o → (x < o + 499 ∨ o + 547 ≤ x) → M4.1 x = M.1 x := fun x h1 h2 => by
    rw [c4.1 x (by omega) (by omega), ax x (by omega)]
    exact funext fun k => w_addr _ h1
  have g0 : M4.1 (o + 499) 0 = 0 := c4.e0.trans a0
  have g1 : M4.1 (o + 499) 1 = -1 := (c4.2.1 1 (by decide) (by decide) (by decide)).trans a1
  unfold F_TextReader_readText_J72
  obtain ⟨M5, e5, w5, k5, l5⟩ := c_findWays (a := o + 505) hrI.1.2 hrI.2.1 (by omega) C3
  rw [zb_ok e5, zb_ok rfl, zl_eq]
  have h499 : ∀ k, (z_wI M5 o 2 (M5.1 (o + 499) 1)).1 (o + 499) k = M4.1 (o + 499) k := fun k => (w_addr _ (by omega)).trans (by rw [k5 _ (by omega)])
  rw [if_pos (by rw [h499]; exact g0)]
  obtain ⟨M6, eM6⟩ : ∃ M6, M6 = z_wI M5 o 2 (M5.1 (o + 499) 1) := ⟨_, rfl⟩
  rw [← eM6]
  have k6 : ∀ x, x ≠ o → x ≠ o + 506 → M6.1 x = M4.1 x := fun x h1 h2 => by
    rw [eM6]
    exact (funext fun k => w_addr _ h1).trans (k5 x (by omega))
  have k62 : M6.1 o 2 = -1 := by
    rw [eM6, w_same, k5 _ (by omega)]
    exact g1
  have k6o : ∀ k, k ≠ 2 → M6.1 o k = M4.1 o k := fun k hk => by
    rw [eM6, w_slot _ hk, k5 _ (by omega)]
  have k6w : ∀ k, M6.1 (o + 506) k = M5.1 (o + 506) k := fun k => by
    rw [eM6, w_addr _ (by omega)]
  obtain ⟨sc, esc⟩ : ∃ sc, sc = r_con Z (Int32.ofNat Z) c W (fun t => c (70 + t)) (fun t => c (80 + t)) := ⟨_, rfl⟩
  have e66 : sc 66 = c 66 := by
    rw [esc]
    unfold r_con
    rw [if_neg (by omega), if_neg (by omega), if_neg (by omega), if_neg (by omega), if_neg (by omega)]
  have e67 : sc 67 = c 67 := by
    rw [esc]
    unfold r_con
    rw [if_neg (by omega), if_neg (by omega), if_neg (by omega), if_neg (by omega), if_neg (by omega)]
  have e64 : sc 64 = Int32.ofNat Z := by
    rw [esc]
    unfold r_con
    rw [if_neg (by omega), if_pos rfl]
  have e65 : sc 65 = Int32.ofNat Z := by
    rw [esc]
    unfold r_con
    rw [if_neg (by omega), if_neg (by omega), if_pos rfl]
  have ew : ∀ k, k < 64 → sc k = q_oi (f_sts W 8 (k / 8) (k % 8)) := fun k hk => by
    have := r_con_w (Z := Z) (R := Int32.ofNat Z) (c := c) (W := W) (s := fun t => c (70 + t)) (b := fun t => c (80 + t)) (k / 8) (k % 8) (by omega) (by omega)
    rw [show 8 * (k / 8) + k % 8 = k by omega] at this
    rw [esc]
    exact this
  have e70 : ∀ t, t < 4 → sc (70 + t) = c (70 + t) ∧ sc (80 + t) = c (80 + t) := fun t ht => by
    rw [esc]
    exact r_con_70 t ht
  have hI' : q_Inv (sc, A, [], none, (s.2.2.2.2.1.1, 0), -1, s.2.2.2.2.2.2) := by
    rw [esc]
    exact r_Inv hrI (fun t _ => rfl)
  have eN := r_N0 hrI.2.2.2.1
  have eTT : q_T sc = q_T c := q_T_eq e66
  have hCd : c_desk M6 (o + 507) sc A := (C4.con hrI.2.2.2.1 e66 e67 (fun t ht => e70 t (by omega))).keep (fun x h1 h2 => k6 x (by omega) (by omega))
  obtain ⟨M7, e7, t0, t1, tw, tk, tl⟩ := c_townCopy (a := o + 3) (b := o + 505) (by omega) M6
  obtain ⟨M8, e8, d8, k8, l8⟩ := a_copy (M := M7) (a := o + 5) (b := o + 507) (by omega) (hCd.keep (fun x h1 h2 => tk x (by omega) (by omega))) (by rw [eTT, e66]; exact hrI.2.2.1.1) (by rw [eN]; exact hrI.2.2.2.1) (fun r hr => by omega)
  unfold F_History_clear
  rw [zb_ok e7, zb_ok e8, zl_eq, zl_eq, zb_ok rfl, zl_eq]
  obtain ⟨M9, eM9⟩ : ∃ M9, M9 = z_wI (z_wI (z_wI M8 (o + 45) 0 0) (o + 45) 1 0) o 9 0 := ⟨_, rfl⟩
  rw [← eM9]
  have k9 : ∀ x, x ≠ o → x ≠ o + 45 → M9.1 x = M8.1 x := fun x h1 h2 => funext fun k => by
    rw [eM9, w_addr _ h1, w_addr _ h2, w_addr _ h2]
  have k9o : ∀ k, k ≠ 9 → M9.1 o k = M8.1 o k := fun k hk => by
    rw [eM9, w_slot _ hk, w_addr _ (by omega), w_addr _ (by omega)]
  have k9z : M9.1 o 9 = 0 := by rw [eM9, w_same]
  have h450 : M9.1 (o + 45) 0 = 0 := by rw [eM9, w_addr _ (by omega), w_slot _ (by decide), w_same]
  have h451 : M9.1 (o + 45) 1 = 0 := by rw [eM9, w_addr _ (by omega), w_same]
  have h53 : M9.1 (o + 5) 3 = Int32.ofNat T := by
    rw [k9 _ (by omega) (by omega), ← hTc]
    exact (d8.2.2.2.2.1.trans e66).trans hrI.2.2.1.1
  rw [h53]
  have o8 : ∀ k, M8.1 o k = M6.1 o k := fun k => by rw [k8 o (by omega), tk o (by omega) (by omega)]
  refine ⟨M9, (sc, A, [], none, (s.2.2.2.2.1.1, 0), -1, s.2.2.2.2.2.2), rfl, ⟨⟨?_, ?_, fun k hk => ?_⟩, d8.keep (fun x h1 h2 => k9 x (by omega) (by omega)), ⟨Nat.zero_le _, h450, 0, by decide, h451, fun j B hB => by cases hB⟩, k9z, ⟨by show 0 ≤ 800; omega, ?_, fun k hk => absurd hk (Nat.not_lt_zero k)⟩, ?_, ⟨hc.2.2.2.2.2.2.1, ?_, fun k hk => ?_⟩⟩, hI', ?_, e64, e65, eTT.trans hTc, e67.trans h67, h7, rfl, eN, fun x hx => ?_⟩
  · show M9.1 (o + 3) 0 = sc 64
    rw [k9 _ (by omega) (by omega), k8 _ (by omega), t0, k6 _ (by omega) (by omega), e64]
    exact C1
  · show M9.1 (o + 3) 1 = sc 65
    rw [k9 _ (by omega) (by omega), k8 _ (by omega), t1, k6 _ (by omega) (by omega), e65]
    exact C2
  · show M9.1 (o + 4) k = sc k
    rw [k9 _ (by omega) (by omega), k8 _ (by omega), ew k hk]
    refine (tw k hk).trans ?_
    have := w5 (k / 8) (k % 8) (by omega) (by omega)
    rw [show 8 * (k / 8) + k % 8 = k by omega] at this
    exact (k6w k).trans this
  · show M9.1 o 1 = 0
    rw [k9o 1 (by decide), o8, k6o 1 (by decide)]
    exact ko1
  · show M9.1 o 2 = -1
    rw [k9o 2 (by decide), o8]
    exact k62
  · show M9.1 o 4 = _
    rw [k9o 4 (by decide), o8, k6o 4 (by decide), ko 4 (by decide)]
    exact hc.2.2.2.2.2.2.2.1
  · show M9.1 (o + 2) k &&& 255 = _
    rw [k9 _ (by omega) (by omega), k8 _ (by omega), tk _ (by omega) (by omega), k6 _ (by omega) (by omega), kx _ (by omega) (by omega)]
    exact hc.2.2.2.2.2.2.2.2 k hk
  · obtain ⟨j0, j4, j6, jt⟩ := hJ
    refine ⟨⟨0, Nat.le_refl _, j0⟩, j4, j6, fun r hr => ?_, fun t ht => ?_⟩
    · have hr : r < q_N A := hr
      omega
    · have ht : t < q_T c := by
        rw [← eTT]
        exact ht
      obtain ⟨⟨b, hb, eb⟩, jz⟩ := jt t ht
      have h16 := (hrI.2.2.2.2.2.1 t ht).2.2.1
      refine ⟨⟨?_, ?_⟩, ⟨0, 0, 0, by omega, by omega, by omega, jz 20 (by omega) (by omega), jz 21 (by omega) (by omega), jz 22 (by omega) (by omega)⟩, ⟨b, by omega, eb, Or.inl h16⟩⟩
      · show k_sum _ (q_N A) + A (19 + 40 * t) = A (18 + 40 * t)
        rw [eN, jz 18 (by omega) (by omega), jz 19 (by omega) (by omega)]
        rfl
      · show k_sum _ (q_N A) = k_sum _ (q_N A) + k_sum _ (q_N A) + A (23 + 40 * t)
        rw [eN, jz 23 (by omega) (by omega)]
        rfl
  · rw [k9 x (by omega) (by omega), k8 x (by omega), tk x (by omega) (by omega), k6 x (by omega) (by omega), kx x (by omega) (by omega)]
