/-! ===== PURE: the law's text as a whole, read ===== -/
def v_roads (Z : Nat) (g : Nat → Nat) : Nat → Nat → List Nat → List Nat
  | _, 0, B => B
  | z, d + 1, B => v_road z ((z + 1) % Z) (g z) (v_roads Z g (z + 1) d B)
def v_taxis (g h k : Nat → Nat) : Nat → Nat → List Nat → List Nat
  | _, 0, B => B
  | t, d + 1, B => v_taxi (g t) (h t) (k t) (600 + t) (v_taxis g h k (t + 1) d B)
def v_tail (f r d2 d3 wt dw pt fe ofr : Nat) (B : List Nat) : List Nat := v_tarf f r (v_disc 2 d2 (v_disc 3 d3 (v_rule 0 wt (v_rule 1 dw (v_rule 3 pt (v_rule 4 fe (v_rule 2 ofr B)))))))
theorem v_roads_hd {Z : Nat} {g : Nat → Nat} {B : List Nat} (hB : v_hd B) : ∀ d z, v_hd (v_roads Z g z d B)
  | 0, _ => hB
  | _ + 1, _ => v_wd_hd (by omega) _
theorem v_taxis_hd {g h k : Nat → Nat} {B : List Nat} (hB : v_hd B) : ∀ d t, v_hd (v_taxis g h k t d B)
  | 0, _ => hB
  | _ + 1, _ => v_wd_hd (by omega) _
theorem v_step {o j f v : Nat} {M M2 : z_Mem} {Y : List Nat} (h : v_K o M (v_wd j ++ 32 :: Y)) (hj : j < 26) (hY : v_hd Y) (h0 : M.1 (o + 499) 0 = 0) (hv : v < 800) (e : F_TextReader_readClause o M = some M2) : F_TextReader_readText_L45 o (f + 1) (Int32.ofNat v) M = F_TextReader_readText_L45 o f (Int32.ofNat (v + 1)) M2 := by
  have eU : F_TextReader_readText_L45 o (f + 1) (Int32.ofNat v) M = F_TextReader_readText_B45 o (F_TextReader_readText_L45 o f) (Int32.ofNat v) M := rfl
  rw [eU]
  unfold F_TextReader_readText_B45 F_Tokens_hasMore
  rw [if_neg (show ¬ (800 : Int32) ≤ Int32.ofNat v from i_nle (a := 800) (by decide) (by omega) hv), if_pos h0, (h.word hj hY).1, if_neg (by decide), zb_ok rfl, if_neg ne10, zb_ok e, zl_eq, i_succ]
theorem v_kp.e0 {o : Nat} {M M' : z_Mem} (h : v_kp o M M') : M'.1 (o + 499) 0 = M.1 (o + 499) 0 := h.2.1 0 (by decide) (by decide) (by decide)
theorem v_roadsL {o Z : Nat} {g : Nat → Nat} (hZ : 3 ≤ Z) (hg : ∀ z, 1 ≤ g z ∧ g z ≤ 99) {B : List Nat} (hB : v_hd B) {c A : q_R} : ∀ (d z f v : Nat) (M : z_Mem) (W : q_W), z + d = Z → (∀ a b, a ≠ b → W a b ≠ none → (b = a + 1 ∧ a < z) ∨ (a = b + 1 ∧ b < z)) → v + d < 800 → M.1 (o + 499) 0 = 0 → v_D o M (v_roads Z g z d B) Z (Int32.ofNat z) c A W → ∃ M' W', F_TextReader_readText_L45 o (f + d) (Int32.ofNat v) M = F_TextReader_readText_L45 o f (Int32.ofNat (v + d)) M' ∧ v_D o M' B Z (Int32.ofNat Z) c A W' ∧ v_kp o M M' := by
  intro d
  induction d with
  | zero =>
    intro z f v M W hz hW hv h0 h
    have hz : z = Z := hz
    rw [hz] at h
    exact ⟨M, W, rfl, h, v_kp.rfl'⟩
  | succ d ih =>
    intro z f v M W hz hW hv h0 h
    have h : v_D o M (v_road z ((z + 1) % Z) (g z) (v_roads Z g (z + 1) d B)) Z (Int32.ofNat z) c A W := h
    have hZ8 := h.2.2.1.1
    have hm : (z + 1) % Z < Z := Nat.mod_lt _ (by omega)
    have hmz : (z + 1 < Z ∧ (z + 1) % Z = z + 1) ∨ (z + 1 = Z ∧ (z + 1) % Z = 0) := by
      by_cases k : z + 1 < Z
      · exact Or.inl ⟨k, Nat.mod_eq_of_lt k⟩
      · have k : z + 1 = Z := by omega
        exact Or.inr ⟨k, by rw [k, Nat.mod_self]⟩
    have hW0 : W z ((z + 1) % Z) = none := by
      cases hw : W z ((z + 1) % Z) with
      | none => rfl
      | some u =>
        have := hW z ((z + 1) % Z) (by omega) (by rw [hw]; exact fun q => by cases q)
        omega
    obtain ⟨M1, e1, D1, k1⟩ := v_readRoad h (v_roads_hd hB _ _) (by omega) hm (by omega) hW0 (hg z).1 (hg z).2
    rw [i_succ] at D1
    cases d with
    | zero =>
      have hzZ : z + 1 = Z := hz
      rw [hzZ] at D1
      refine ⟨M1, _, ?_, D1, k1⟩
      exact v_step h.1 (by omega) (v_n3_hd (by omega) _) h0 (by omega) e1
    | succ d =>
      obtain ⟨M', W', e', D', k'⟩ := ih (z + 1) f (v + 1) M1 (r_W W z ((z + 1) % Z) (g z)) (by omega) (fun a b hab hw => by
        by_cases q : (a = z ∧ b = (z + 1) % Z) ∨ (a = (z + 1) % Z ∧ b = z)
        · omega
        · have : r_W W z ((z + 1) % Z) (g z) a b = W a b := if_neg q
          rw [this] at hw
          have := hW a b hab hw
          omega) (by omega) (k1.e0.trans h0) D1
      refine ⟨M', W', ?_, D', k1.tr k'⟩
      rw [show v + (d + 1 + 1) = v + 1 + (d + 1) by omega]
      exact (v_step h.1 (by omega) (v_n3_hd (by omega) _) h0 (by omega) e1).trans e'
theorem v_taxisL {o Z T : Nat} {g h k : Nat → Nat} (hT : T ≤ 4) (hg : ∀ t, 1 ≤ g t ∧ g t ≤ 6) (hh : ∀ t, h t < Z) (hk : ∀ t, k t ≤ 15) {B : List Nat} (hB : v_hd B) {R : Int32} {W : q_W} : ∀ (d t f v : Nat) (M : z_Mem) (c A : q_R), t + d = T → q_T c = t → v + d < 800 → M.1 (o + 499) 0 = 0 → v_D o M (v_taxis g h k t d B) Z R c A W → ∃ M' c' A', F_TextReader_readText_L45 o (f + d) (Int32.ofNat v) M = F_TextReader_readText_L45 o f (Int32.ofNat (v + d)) M' ∧ v_D o M' B Z R c' A' W ∧ q_T c' = T ∧ v_kp o M M' := by
  intro d
  induction d with
  | zero =>
    intro t f v M c A ht hc hv h0 D
    exact ⟨M, c, A, rfl, D, hc.trans ht, v_kp.rfl'⟩
  | succ d ih =>
    intro t f v M c A ht hc hv h0 D
    have D : v_D o M (v_taxi (g t) (h t) (k t) (600 + t) (v_taxis g h k (t + 1) d B)) Z R c A W := D
    have hg1 := hg t
    have hk1 := hk t
    obtain ⟨M1, e1, D1, k1⟩ := v_readTaxi D (v_taxis_hd hB _ _) (by omega) hg1.1 hg1.2 (hh t) (by omega) (by omega)
    obtain ⟨M', c', A', e', D', hT', k'⟩ := ih (t + 1) f (v + 1) M1 _ _ (by omega) (by
      rw [(r_tc_66 c (q_T c) _ _ (by omega)).2]
      omega) (by omega) (k1.e0.trans h0) D1
    refine ⟨M', c', A', ?_, D', hT', k1.tr k'⟩
    rw [show v + (d + 1) = v + 1 + d by omega]
    exact (v_step D.1 (by omega) (v_n3_hd (by omega) _) h0 (by omega) e1).trans e'
theorem v_nil_hd : v_hd [] := fun x hx => by cases hx
theorem v_tailL {o Z f r d2 d3 wt dw pt fe ofr : Nat} {v n : Nat} {M : z_Mem} {R : Int32} {c A : q_R} {W : q_W} (hv : v < 700) (h0 : M.1 (o + 499) 0 = 0) (D : v_D o M (v_tail f r d2 d3 wt dw pt fe ofr []) Z R c A W) (hf : f < 1000) (hr : r < 1000) (h2 : d2 ≤ 90) (h3 : d3 ≤ 90) (hwt : wt ≤ 60) (hdw : dw ≤ 9) (hpt : pt ≤ 30) (hfe : fe < 1000) (hof : ofr ≤ 60) : ∃ M' c' A', F_TextReader_readText_L45 o (n + 8) (Int32.ofNat v) M = F_TextReader_readText_L45 o n (Int32.ofNat (v + 8)) M' ∧ v_D o M' [] Z R c' A' W ∧ q_T c' = q_T c ∧ c' 67 = Int32.ofNat f ∧ A' 7 = Int32.ofNat fe ∧ v_kp o M M' := by
  obtain ⟨M1, e1, D1, k1⟩ := v_readTarf D (v_wd_hd (by omega) _) hf hr
  obtain ⟨M2, e2, D2, k2⟩ := v_readDisc D1 (v_wd_hd (by omega) _) (by omega) (by omega) h2
  obtain ⟨M3, e3, D3, k3⟩ := v_readDisc D2 (v_wd_hd (by omega) _) (by omega) (by omega) h3
  obtain ⟨M4, e4, D4, k4⟩ := v_readRule (a := 0) (b := 60) D3 (v_wd_hd (by omega) _) (by omega) (by omega) rfl rfl (by omega) hwt (by omega) (fun q => by omega) (fun q => by omega)
  obtain ⟨M5, e5, D5, k5⟩ := v_readRule (a := 0) (b := 9) D4 (v_wd_hd (by omega) _) (by omega) (by omega) rfl rfl (by omega) hdw (by omega) (fun _ => hdw) (fun q => by omega)
  obtain ⟨M6, e6, D6, k6⟩ := v_readRule (a := 0) (b := 30) D5 (v_wd_hd (by omega) _) (by omega) (by omega) rfl rfl (by omega) hpt (by omega) (fun q => by omega) (fun _ => hpt)
  obtain ⟨M7, e7, D7, k7⟩ := v_readRule (a := 0) (b := 9999) D6 (v_wd_hd (by omega) _) (by omega) hfe rfl rfl (by omega) (by omega) (by omega) (fun q => by omega) (fun q => by omega)
  obtain ⟨M8, e8, D8, k8⟩ := v_readRule (a := 0) (b := 60) D7 v_nil_hd (by omega) (by omega) rfl rfl (by omega) hof (by omega) (fun q => by omega) (fun q => by omega)
  have z1 := k1.e0.trans h0
  have z2 := k2.e0.trans z1
  have z3 := k3.e0.trans z2
  have z4 := k4.e0.trans z3
  have z5 := k5.e0.trans z4
  have z6 := k6.e0.trans z5
  have z7 := k7.e0.trans z6
  have n3 : ∀ {a : Nat} {B : List Nat}, a < 1000 → v_hd (v_n3 a B) := fun h => v_n3_hd h _
  have w : ∀ {j : Nat} {B : List Nat}, j < 26 → v_hd (v_wd j ++ B) := fun h => v_wd_hd h _
  have s1 := v_step (f := n + 7) D.1 (by omega) (n3 hf) h0 (show v < 800 by omega) e1
  have s2 := v_step (f := n + 6) D1.1 (by omega) (n3 (by omega)) z1 (show v + 1 < 800 by omega) e2
  have s3 := v_step (f := n + 5) D2.1 (by omega) (n3 (by omega)) z2 (show v + 1 + 1 < 800 by omega) e3
  have s4 := v_step (f := n + 4) D3.1 (by omega) (w (by omega)) z3 (show v + 1 + 1 + 1 < 800 by omega) e4
  have s5 := v_step (f := n + 3) D4.1 (by omega) (w (by omega)) z4 (show v + 1 + 1 + 1 + 1 < 800 by omega) e5
  have s6 := v_step (f := n + 2) D5.1 (by omega) (w (by omega)) z5 (show v + 1 + 1 + 1 + 1 + 1 < 800 by omega) e6
  have s7 := v_step (f := n + 1) D6.1 (by omega) (w (by omega)) z6 (show v + 1 + 1 + 1 + 1 + 1 + 1 < 800 by omega) e7
  have s8 := v_step (f := n) D7.1 (by omega) (w (by omega)) z7 (show v + 1 + 1 + 1 + 1 + 1 + 1 + 1 < 800 by omega) e8
  refine ⟨M8, _, _, s1.trans (s2.trans (s3.trans (s4.trans (s5.trans (s6.trans (s7.trans s8)))))), D8, q_T_eq (q_w_ne (by decide)), q_w_same _ _ _, ?_, k1.tr (k2.tr (k3.tr (k4.tr (k5.tr (k6.tr (k7.tr k8))))))⟩
  rw [q_w_ne (by decide), q_w_same]
def v_text (Z T : Nat) (m g h k : Nat → Nat) (f r d2 d3 wt dw pt fe ofr : Nat) : List Nat := v_wd 0 ++ 32 :: v_n9 Z (v_roads Z m 0 Z (v_taxis g h k 0 T (v_tail f r d2 d3 wt dw pt fe ofr [])))
theorem v_readText {o Z T f r d2 d3 wt dw pt fe ofr : Nat} {m g h k : Nat → Nat} {M : z_Mem} (hZ : 3 ≤ Z) (hZ8 : Z ≤ 8) (hT : T ≤ 4) (hm : ∀ z, 1 ≤ m z ∧ m z ≤ 99) (hg : ∀ t, 1 ≤ g t ∧ g t ≤ 6) (hh : ∀ t, h t < Z) (hk : ∀ t, k t ≤ 15) (hf : f < 1000) (hr : r < 1000) (h2 : d2 ≤ 90) (h3 : d3 ≤ 90) (hwt : wt ≤ 60) (hdw : dw ≤ 9) (hpt : pt ≤ 30) (hfe : fe < 1000) (hof : ofr ≤ 60) (h0 : M.1 (o + 499) 0 = 0) (hK : v_K o M (v_text Z T m g h k f r d2 d3 wt dw pt fe ofr)) : ∃ M' c A W, F_TextReader_readText o M = F_TextReader_readText_J72 o M' ∧ r_C o M' Z (Int32.ofNat Z) c A W ∧ r_I Z c A W ∧ v_J c A ∧ q_T c = T ∧ c 67 = Int32.ofNat f ∧ A 7 = Int32.ofNat fe ∧ v_kp o M M' := by
  obtain ⟨Md, ed, d0, -, dr, dk, dl⟩ := c_deskClear (a := o + 507) M
  have kpd : v_kp o M Md := v_kp.in (fun x hx => dk x (by omega) (by omega)) dl
  have hKd := hK.keep (M' := Md) (fun x a b => dk x (by omega) (by omega))
  unfold F_TextReader_readText
  obtain ⟨M2, e2, K2, x2⟩ := v_takeWord (lo := 0) (hi := 0) hKd (by omega) (v_n9_hd (by omega) _) (by decide) (by decide)
  obtain ⟨M4, e4, K4, x4⟩ := v_takeNumber (a := 2) (b := 8) (R := 59 :: v_roads Z m 0 Z (v_taxis g h k 0 T (v_tail f r d2 d3 wt dw pt fe ofr []))) K2 (by omega) ⟨v_59_hd _, Or.inr ⟨rfl, _, rfl⟩⟩ (by omega) hZ8 (by omega)
  obtain ⟨M6, e6, t0, t1, tm, ts, k6, l6⟩ := c_townClear (a := o + 505) (Int32.ofNat Z) M4
  have K6 := K4.keep (M' := M6) (fun x a b => k6 x (by omega) (by omega))
  have kp6 : v_kp o M4 M6 := v_kp.in (fun y hy => k6 y (by omega) (by omega)) l6
  have kd : ∀ x, x = o + 507 ∨ x = o + 508 → M6.1 x = Md.1 x := fun x hx => (k6 x (by omega) (by omega)).trans ((x4.1 x (by omega)).trans (x2.1 x (by omega)))
  have hT1 : v_hd (v_taxis g h k 0 T (v_tail f r d2 d3 wt dw pt fe ofr [])) := v_taxis_hd (v_wd_hd (by omega) _) _ _
  obtain ⟨M7, e7, K7, x7⟩ := v_takeSign K6 (v_roads_hd hT1 _ _)
  rw [zb_ok ed, zb2_ok (show F_Tokens_takeWord o 0 0 Md = some (Int32.ofNat 0, M2) from e2), zb2_ok (show F_Tokens_takeNumber o 2 8 M2 = some (Int32.ofNat Z, M4) from e4), zb_ok e6, zb_ok e7]
  have C6 : r_C o M6 Z (Int32.ofNat 0) (fun _ => 0) q_A0 q_W0 := by
    refine ⟨t0, t1, tm, ⟨by show 0 ≤ 4; omega, by show 0 ≤ 24; omega⟩, ?_, ?_, ?_, ?_, ?_, fun k hk => ?_, fun t ht => absurd ht (Nat.not_lt_zero t), fun r hr => absurd hr (Nat.not_lt_zero r)⟩
    · rw [kd _ (Or.inl rfl)]; exact d0 0 (by omega)
    · rw [kd _ (Or.inl rfl)]; exact d0 1 (by omega)
    · rw [kd _ (Or.inl rfl)]; exact d0 2 (by omega)
    · rw [kd _ (Or.inl rfl)]; exact d0 3 (by omega)
    · rw [kd _ (Or.inl rfl)]; exact d0 4 (by omega)
    · rw [kd _ (Or.inr rfl)]; exact dr k hk
  have D7 : v_D o M7 (v_roads Z m 0 Z (v_taxis g h k 0 T (v_tail f r d2 d3 wt dw pt fe ofr []))) Z (Int32.ofNat 0) (fun _ => 0) q_A0 q_W0 := ⟨K7, C6.nx x7, r_I0 (by omega) hZ8, rfl, ⟨1, by omega, rfl⟩, ⟨3, by omega, rfl⟩, fun t ht => absurd ht (Nat.not_lt_zero t)⟩
  have k7 : v_kp o M M7 := kpd.tr (x2.kp.tr (x4.kp.tr (kp6.tr x7.kp)))
  obtain ⟨M8, W, e8, D8, k8⟩ := v_roadsL hZ hm hT1 Z 0 (10000 - Z) 0 M7 q_W0 (by omega) (fun a b hab hw => absurd (show q_W0 a b = none from if_neg hab) hw) (by omega) (k7.e0.trans h0) D7
  obtain ⟨M9, c9, A9, e9, D9, hT9, k9⟩ := v_taxisL hT hg hh hk (v_wd_hd (show 2 < 26 by omega) _) T 0 (10000 - Z - T) (0 + Z) M8 _ _ (by omega) rfl (by omega) (k8.e0.trans (k7.e0.trans h0)) D8
  obtain ⟨MX, cX, AX, eX, DX, hTX, h67, h7, kX⟩ := v_tailL (n := 10000 - Z - T - 8) (v := 0 + Z + T) (by omega) (k9.e0.trans (k8.e0.trans (k7.e0.trans h0))) D9 hf hr h2 h3 hwt hdw hpt hfe hof
  refine ⟨MX, cX, AX, W, ?_, DX.2.1, DX.2.2.1, DX.2.2.2, hTX.trans hT9, h67, h7, k7.tr (k8.tr (k9.tr kX))⟩
  rw [show (10000 : Nat) = 10000 - Z + Z by omega]
  refine e8.trans ?_
  rw [show 10000 - Z = 10000 - Z - T + T by omega]
  refine e9.trans ?_
  rw [show 10000 - Z - T = 10000 - Z - T - 8 + 8 by omega]
  refine eX.trans ?_
  obtain ⟨u, eu⟩ : ∃ u, 10000 - Z - T - 8 = u + 1 := ⟨10000 - Z - T - 8 - 1, by omega⟩
  rw [eu]
  unfold F_TextReader_readText_L45 F_TextReader_readText_B45 F_Tokens_hasMore
  rw [if_neg (show ¬ (800 : Int32) ≤ Int32.ofNat (0 + Z + T + 8) from i_nle (a := 800) (by decide) (by omega) (by omega)), if_pos ((kX.e0.trans (k9.e0.trans (k8.e0.trans (k7.e0.trans h0))))), DX.1.end, if_pos rfl, zb_ok rfl, if_pos rfl]
