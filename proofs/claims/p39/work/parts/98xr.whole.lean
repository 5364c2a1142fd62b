/-! ===== PURE: tells; the whole law ===== -/
theorem v_text_app {Z T f r d2 d3 wt dw pt fe ofr : Nat} {m g h k : Nat → Nat} : ([] ++ v_ch 4 ++ v_dg Z ++ [59]) ++ v_roads Z m 0 Z [] ++ v_taxis g h k 0 T [] ++ v_tarf f r [] ++ v_disc 2 d2 [] ++ v_disc 3 d3 [] ++ v_rule 0 wt [] ++ v_rule 1 dw [] ++ v_rule 3 pt [] ++ v_rule 4 fe [] ++ v_rule 2 ofr [] = v_text Z T m g h k f r d2 d3 wt dw pt fe ofr := by
  unfold v_text v_tail v_n9
  rw [v_ch4, v_roads_app Z 0 (B := v_taxis _ _ _ _ _ _), v_taxis_app T 0 (B := v_tarf _ _ _), v_tarf_app f r (v_disc _ _ _), v_disc_app 2 d2 (v_disc _ _ _), v_disc_app 3 d3 (v_rule _ _ _), v_rule_app 0 wt (v_rule _ _ _), v_rule_app 1 dw (v_rule _ _ _), v_rule_app 3 pt (v_rule _ _ _), v_rule_app 4 fe (v_rule _ _ _)]
  simp only [List.append_assoc, List.cons_append, List.nil_append]
theorem v_roads_len {Z : Nat} {g : Nat → Nat} : ∀ d z, (v_roads Z g z d []).length ≤ 24 * d
  | 0, _ => Nat.le_refl _
  | d + 1, z => by
    show (v_road z ((z + 1) % Z) (g z) (v_roads Z g (z + 1) d [])).length ≤ _
    have h := v_roads_len (Z := Z) (g := g) d (z + 1)
    have h' := v_road_len z ((z + 1) % Z) (g z)
    rw [v_road_app, List.length_append]
    omega
theorem v_taxis_len {g h k : Nat → Nat} : ∀ d t, (v_taxis g h k t d []).length ≤ 28 * d
  | 0, _ => Nat.le_refl _
  | d + 1, t => by
    show (v_taxi (g t) (h t) (k t) (600 + t) (v_taxis g h k (t + 1) d [])).length ≤ _
    have h1 := v_taxis_len (g := g) (h := h) (k := k) d (t + 1)
    have h2 := v_taxi_len (g t) (h t) (k t) (600 + t)
    rw [v_taxi_app, List.length_append]
    omega
theorem l_tells {o a L : Nat} {S : Nat → Int32} {M : z_Mem} {s : q_S} (hao : a + 2 ≤ o) (hL : L ≤ 260) (hc0 : c_all o M s) (h1 : M.1 a 1 = 0) (h6 : M.1 a 6 = 0) (ho1 : M.1 o 1 = 0) : ∃ Z M' s', F_Law_tells L S o a M = some (1, M') ∧ l_st o a Z 0 0 M' s' := by
  obtain ⟨c, hc, ec⟩ := l_cell (S := S) (v := 0) M hL (by omega)
  obtain ⟨d, hd, ed⟩ := l_cell (S := S) (v := 1) M hL (by omega)
  have r6 : Int32.ofNat c - Int32.ofNat c / 6 * 6 = Int32.ofNat (c % 6) := i_rem (b := 6) (by omega) (by decide)
  have d6 : Int32.ofNat c / 6 = Int32.ofNat (c / 6) := i_div (b := 6) (by omega) (by decide)
  have r4 : Int32.ofNat (c / 6) - Int32.ofNat (c / 6) / 4 * 4 = Int32.ofNat (c / 6 % 4) := i_rem (b := 4) (by omega) (by decide)
  have d24 : Int32.ofNat c / 24 = Int32.ofNat (c / 24) := i_div (b := 24) (by omega) (by decide)
  have r500 : Int32.ofNat (c / 24) - Int32.ofNat (c / 24) / 500 * 500 = Int32.ofNat (c / 24 % 500) := i_rem (b := 500) (by omega) (by decide)
  have r700 : Int32.ofNat d - Int32.ofNat d / 700 * 700 = Int32.ofNat (d % 700) := i_rem (b := 700) (by omega) (by decide)
  have a3 : (3 : Int32) + Int32.ofNat (c % 6) = Int32.ofNat (3 + c % 6) := i_add 3 _
  have a1 : (1 : Int32) + Int32.ofNat (c / 6 % 4) = Int32.ofNat (1 + c / 6 % 4) := i_add 1 _
  obtain ⟨Z, eZ⟩ : ∃ Z, Z = 3 + c % 6 := ⟨_, rfl⟩
  obtain ⟨T, eT⟩ : ∃ T, T = 1 + c / 6 % 4 := ⟨_, rfl⟩
  obtain ⟨fl, efl⟩ : ∃ fl, fl = c / 24 % 500 := ⟨_, rfl⟩
  obtain ⟨fe, efe⟩ : ∃ fe, fe = d % 700 := ⟨_, rfl⟩
  have hZ : 3 ≤ Z := by omega
  have hZ8 : Z ≤ 8 := by omega
  have hT1 : 1 ≤ T := by omega
  have hT4 : T ≤ 4 := by omega
  have hfl : fl < 500 := by omega
  have hfe : fe < 700 := by omega
  unfold F_Law_tells
  rw [zb_ok (show F_Law_cell L S 0 M = some (Int32.ofNat c) from ec), zb_ok (show F_Law_cell L S 1 M = some (Int32.ofNat d) from ed), zl_eq, zl_eq, zl_eq, zl_eq, r6, d6, r4, d24, r500, r700, a3, a1, ← eZ, ← eT, ← efl, ← efe]
  obtain ⟨M6, eM6⟩ : ∃ M6, M6 = z_wI (z_wI (z_wI (z_wI M a 2 (Int32.ofNat Z)) a 3 (Int32.ofNat T)) a 4 (Int32.ofNat fl)) a 5 (Int32.ofNat fe) := ⟨_, rfl⟩
  rw [← eM6]
  have x6 : ∀ x, x ≠ a → M6.1 x = M.1 x := fun x hx => funext fun k => by
    rw [eM6, w_addr _ hx, w_addr _ hx, w_addr _ hx, w_addr _ hx]
  have m2 : M6.1 a 2 = Int32.ofNat Z := by rw [eM6, w_slot _ (by decide), w_slot _ (by decide), w_slot _ (by decide), w_same]
  have m3 : M6.1 a 3 = Int32.ofNat T := by rw [eM6, w_slot _ (by decide), w_slot _ (by decide), w_same]
  have m4 : M6.1 a 4 = Int32.ofNat fl := by rw [eM6, w_slot _ (by decide), w_same]
  have m5 : M6.1 a 5 = Int32.ofNat fe := by rw [eM6, w_same]
  have m1 : M6.1 a 1 = 0 := by rw [eM6, w_slot _ (by decide), w_slot _ (by decide), w_slot _ (by decide), w_slot _ (by decide)]; exact h1
  have m6 : M6.1 a 6 = 0 := by rw [eM6, w_slot _ (by decide), w_slot _ (by decide), w_slot _ (by decide), w_slot _ (by decide)]; exact h6
  have t6 : v_tx a [] M6 := ⟨m1, fun i x hx => by cases hx⟩
  -- zones
  have l4 := v_ch_len (w := 4) (by omega) (by omega)
  obtain ⟨M7, e7, t7, f7⟩ := v_writes (w := 4) (by omega) (by omega) (by show 0 + 8 ≤ 800; omega) t6
  obtain ⟨M8, e8, t8, f8⟩ := v_numb (n := Z) (by omega) (by rw [List.nil_append]; omega) t7
  have lz := (v_dg_len Z).2
  obtain ⟨M9, e9, t9, f9⟩ := v_sem (by rw [List.nil_append, List.length_append]; omega) t8
  have f69 := f7.tr (f8.tr f9)
  rw [zb_ok e7, (f7.2 2 (by decide)).trans m2, zb_ok e8, zb_ok e9]
  have L9 : ([] ++ v_ch 4 ++ v_dg Z ++ [59]).length ≤ 12 := by
    rw [List.length_append, List.length_append, List.length_append, List.length_singleton, List.length_nil]
    omega
  -- roads
  obtain ⟨MA, eA, tA, fA⟩ := v_wRoads (o := o) (L := L) (d := d) (S := S) hc hZ hZ8 Z 0 10000 M9 _ (by omega) (by omega) (by omega) ((f69.2 2 (by decide)).trans m2) t9
  rw [show F_Law_tells_L80 L S o a 10000 (Int32.ofNat c) (Int32.ofNat d) 0 M9 = F_Law_tells_L125 L S o a 10000 (Int32.ofNat c) (Int32.ofNat d) 0 MA from eA]
  have f6A := f69.tr fA
  have LA := v_roads_len (Z := Z) (g := fun z => 1 + c / 2 ^ z % 2 ^ 3) Z 0
  -- taxis
  obtain ⟨MB, f', eB, tB, fB⟩ := v_wTaxis (o := o) (L := L) (S := S) hc hd hZ hZ8 hT4 T 0 10000 MA _ (by omega) (by omega) (by rw [List.length_append]; omega) ((f6A.2 2 (by decide)).trans m2) ((f6A.2 3 (by decide)).trans m3) tA
  rw [show F_Law_tells_L125 L S o a 10000 (Int32.ofNat c) (Int32.ofNat d) 0 MA = F_Law_tells_L125 L S o a (f' + 1) (Int32.ofNat c) (Int32.ofNat d) (Int32.ofNat T) MB from eB]
  have f6B := f6A.tr fB
  have LB := v_taxis_len (g := fun t => 2 + d / 2 ^ t % 5) (h := fun t => c / 2 ^ t % Z) (k := fun t => d / 2 ^ (3 * t) % 2 ^ 4) T 0
  -- the tail
  have d700 : Int32.ofNat d / 700 = Int32.ofNat (d / 700) := i_div (b := 700) (by omega) (by decide)
  have r100 : Int32.ofNat (d / 700) - Int32.ofNat (d / 700) / 100 * 100 = Int32.ofNat (d / 700 % 100) := i_rem (b := 100) (by omega) (by decide)
  have d12 : Int32.ofNat c / 12000 = Int32.ofNat (c / 12000) := i_div (b := 12000) (by omega) (by decide)
  have r60 : Int32.ofNat (c / 12000) - Int32.ofNat (c / 12000) / 60 * 60 = Int32.ofNat (c / 12000 % 60) := i_rem (b := 60) (by omega) (by decide)
  have d70 : Int32.ofNat d / 70000 = Int32.ofNat (d / 70000) := i_div (b := 70000) (by omega) (by decide)
  have r60' : Int32.ofNat (d / 70000) - Int32.ofNat (d / 70000) / 60 * 60 = Int32.ofNat (d / 70000 % 60) := i_rem (b := 60) (by omega) (by decide)
  have r40 : Int32.ofNat c - Int32.ofNat c / 40 * 40 = Int32.ofNat (c % 40) := i_rem (b := 40) (by omega) (by decide)
  have r4' : Int32.ofNat c - Int32.ofNat c / 4 * 4 = Int32.ofNat (c % 4) := i_rem (b := 4) (by omega) (by decide)
  have r6' : Int32.ofNat d - Int32.ofNat d / 6 * 6 = Int32.ofNat (d % 6) := i_rem (b := 6) (by omega) (by decide)
  have r30 : Int32.ofNat d - Int32.ofNat d / 30 * 30 = Int32.ofNat (d % 30) := i_rem (b := 30) (by omega) (by decide)
  have a10 : (10 : Int32) + Int32.ofNat (c % 40) = Int32.ofNat (10 + c % 40) := i_add 10 _
  have a5 : (5 : Int32) + Int32.ofNat (d % 30) = Int32.ofNat (5 + d % 30) := i_add 5 _
  obtain ⟨XB, eXB⟩ : ∃ XB, XB = ([] ++ v_ch 4 ++ v_dg Z ++ [59]) ++ v_roads Z (fun z => 1 + c / 2 ^ z % 2 ^ 3) 0 Z [] ++ v_taxis (fun t => 2 + d / 2 ^ t % 5) (fun t => c / 2 ^ t % Z) (fun t => d / 2 ^ (3 * t) % 2 ^ 4) 0 T [] := ⟨_, rfl⟩
  have lB : XB.length ≤ 320 := by
    rw [eXB, List.length_append, List.length_append]
    omega
  rw [← eXB] at tB
  have ap : ∀ {X Y : List Nat} {b : Nat}, X.length ≤ b → Y.length ≤ 24 → (X ++ Y).length ≤ b + 24 := fun h h' => by
    rw [List.length_append]
    omega
  obtain ⟨C1, g1, t1, f1⟩ := v_wTarf (f := fl) (r := d / 700 % 100) (by omega) (by omega) (by omega) tB
  have l1 := ap lB (v_tarf_len fl (d / 700 % 100))
  obtain ⟨C2, g2, t2, f2⟩ := v_wDisc (n := 2) (v := c / 12000 % 60) (by omega) (by omega) (by omega) t1
  have l2 := ap l1 (v_disc_len 2 (c / 12000 % 60))
  obtain ⟨C3, g3, t3, f3⟩ := v_wDisc (n := 3) (v := d / 70000 % 60) (by omega) (by omega) (by omega) t2
  have l3 := ap l2 (v_disc_len 3 (d / 70000 % 60))
  obtain ⟨C4, g4, t4, f4⟩ := v_wRule (w := 9) (k := 0) (v := 10 + c % 40) (by omega) (by omega) v_chr.1 (by omega) (by omega) t3
  have l4 := ap l3 (v_rule_len (k := 0) (v := 10 + c % 40) (by omega))
  obtain ⟨C5, g5, t5, f5⟩ := v_wRule (w := 10) (k := 1) (v := c % 4) (by omega) (by omega) v_chr.2.1 (by omega) (by omega) t4
  have l5 := ap l4 (v_rule_len (k := 1) (v := c % 4) (by omega))
  obtain ⟨C6, g6, t6, f6⟩ := v_wRule (w := 11) (k := 3) (v := d % 6) (by omega) (by omega) v_chr.2.2.1 (by omega) (by omega) t5
  have l6 := ap l5 (v_rule_len (k := 3) (v := d % 6) (by omega))
  obtain ⟨C7, g7, t7, f7⟩ := v_wRule (w := 12) (k := 4) (v := fe) (by omega) (by omega) v_chr.2.2.2.1 (by omega) (by omega) t6
  have l7 := ap l6 (v_rule_len (k := 4) (v := fe) (by omega))
  obtain ⟨C8, g8, t8, f8⟩ := v_wRule (w := 13) (k := 2) (v := 5 + d % 30) (by omega) (by omega) v_chr.2.2.2.2 (by omega) (by omega) t7
  have l8 := ap l7 (v_rule_len (k := 2) (v := 5 + d % 30) (by omega))
  have fB6 := f6B.tr (f1.tr (f2.tr (f3.tr (f4.tr (f5.tr f6)))))
  have fAll := fB6.tr (f7.tr f8)
  unfold F_Law_tells_L125 F_Law_tells_B125
  rw [(f6B.2 3 (by decide)).trans m3, if_pos ((i_le (by omega) (by omega)).mpr (Nat.le_refl _)), (f6B.2 4 (by decide)).trans m4, d700, r100, zb_ok g1, d12, r60, zb_ok (show F_Law_clause a 8 2 (Int32.ofNat (c / 12000 % 60)) (-1) (-1) C1 = some C2 from g2), d70, r60', zb_ok (show F_Law_clause a 8 3 (Int32.ofNat (d / 70000 % 60)) (-1) (-1) C2 = some C3 from g3), r40, a10, zb_ok g4, r4', zb_ok g5, r6', zb_ok g6, (fB6.2 5 (by decide)).trans m5, zb_ok g7, r30, a5, zb_ok g8]
  -- fed
  obtain ⟨X, eX⟩ : ∃ X, X = XB ++ v_tarf fl (d / 700 % 100) [] ++ v_disc 2 (c / 12000 % 60) [] ++ v_disc 3 (d / 70000 % 60) [] ++ v_rule 0 (10 + c % 40) [] ++ v_rule 1 (c % 4) [] ++ v_rule 3 (d % 6) [] ++ v_rule 4 fe [] ++ v_rule 2 (5 + d % 30) [] := ⟨_, rfl⟩
  rw [← eX] at t8 l8
  have oM : ∀ x, o ≤ x → C8.1 x = M.1 x := fun x hx => (fAll.1 x (by omega) (by omega)).trans (x6 x (by omega))
  obtain ⟨N, MD, eD, n1, n2, bD, fD⟩ := v_feeds hao (by omega) t8 (by rw [oM o (by omega)]; exact ho1)
  rw [zb2_ok eD]
  have cD : c_all o (z_wI MD a 1 0) (q_sb s (fun k => MD.1 (o + 1) k &&& 255, N)) := c_all.hi (fun x hx => funext fun k => w_addr _ (by omega)) ((c_all.hi oM hc0).buf fD bD.1 n2)
  have eXt : X = v_text Z T (fun z => 1 + c / 2 ^ z % 2 ^ 3) (fun t => 2 + d / 2 ^ t % 5) (fun t => c / 2 ^ t % Z) (fun t => d / 2 ^ (3 * t) % 2 ^ 4) fl (d / 700 % 100) (c / 12000 % 60) (d / 70000 % 60) (10 + c % 40) (c % 4) (d % 6) fe (5 + d % 30) := by
    rw [eX, eXB]
    exact v_text_app
  obtain ⟨ME, s', eE, cE, hI, hX, q64, q65, qT, q67, q7, qp, qN, lo⟩ := v_load (o := o) (n := X.length) (N := N) (Z := Z) (T := T) (m := fun z => 1 + c / 2 ^ z % 2 ^ 3) (g := fun t => 2 + d / 2 ^ t % 5) (h := fun t => c / 2 ^ t % Z) (k := fun t => d / 2 ^ (3 * t) % 2 ^ 4) (f := fl) (r := d / 700 % 100) (d2 := c / 12000 % 60) (d3 := d / 70000 % 60) (wt := 10 + c % 40) (dw := c % 4) (pt := d % 6) (fe := fe) (ofr := 5 + d % 30) hZ hZ8 hT4
    (fun z => by
      have := Nat.mod_lt (c / 2 ^ z) (show 0 < 2 ^ 3 by omega)
      show 1 ≤ 1 + c / 2 ^ z % 2 ^ 3 ∧ 1 + c / 2 ^ z % 2 ^ 3 ≤ 99
      omega)
    (fun t => by
      have := Nat.mod_lt (d / 2 ^ t) (show 0 < 5 by omega)
      show 1 ≤ 2 + d / 2 ^ t % 5 ∧ 2 + d / 2 ^ t % 5 ≤ 6
      omega)
    (fun t => Nat.mod_lt _ (by omega))
    (fun t => by
      have := Nat.mod_lt (d / 2 ^ (3 * t)) (show 0 < 2 ^ 4 by omega)
      show d / 2 ^ (3 * t) % 2 ^ 4 ≤ 15
      omega)
    (by omega) (by omega) (by omega) (by omega) (by omega) (by omega) (by omega) (by omega) (by omega) cD ((w_addr _ (by omega)).trans bD.1) n2 n1 (by rw [← eXt]) (fun i x hx => by
      rw [← eXt] at hx
      have hi := (List.getElem?_eq_some_iff.mp hx).1
      have hb := bD.2 i (by omega)
      rw [w_addr _ (show o + 1 ≠ a by omega), hb]
      have hx2 := (t8.2 i x hx).2
      refine ⟨?_, by omega⟩
      show Int32.ofNat (X.getD i 32) = _
      rw [List.getD_eq_getElem?_getD, hx]
      rfl)
  have aE : ∀ k, k ≠ 1 → ME.1 a k = M6.1 a k := fun k hk => by
    rw [lo a (by omega), w_slot _ hk, fD.1 a (by omega) (by omega)]
    exact fAll.2 k hk
  have b2 : ME.1 a 2 = Int32.ofNat Z := (aE 2 (by decide)).trans m2
  have b3 : ME.1 a 3 = Int32.ofNat T := (aE 3 (by decide)).trans m3
  have b4 : ME.1 a 4 = Int32.ofNat fl := (aE 4 (by decide)).trans m4
  have b5 : ME.1 a 5 = Int32.ofNat fe := (aE 5 (by decide)).trans m5
  have b6 : ME.1 a 6 = 0 := (aE 6 (by decide)).trans m6
  refine ⟨Z, ME, s', ?_, hI, hX, cE, b2, b3.trans (congrArg Int32.ofNat qT.symm), b4.trans q67.symm, b5.trans q7.symm, b6.trans (congrArg Int32.ofNat qN.symm), q64, hZ, hZ8, by omega⟩
  have z0 : F_Sys_size o 0 ME = some (Int32.ofNat Z) := by
    unfold F_Sys_size
    rw [if_pos (by decide), cE.1.1, q64]
  have z1 : F_Sys_size o 1 ME = some (Int32.ofNat Z) := by
    unfold F_Sys_size
    rw [if_neg (by decide), if_pos (by decide), cE.1.2.1, q65]
  have z7 : F_Sys_size o 7 ME = some (Int32.ofNat fl) := by
    unfold F_Sys_size
    rw [if_neg (by decide), if_neg (by decide), if_neg (by decide), if_neg (by decide), if_neg (by decide), if_neg (by decide), if_neg (by decide), if_pos (by decide), cE.2.1.2.2.1, q67]
  have zp : F_Sys_errorPosition o ME = some (-1) := by
    unfold F_Sys_errorPosition
    rw [cE.2.2.2.2.2.1, qp]
  have z4 : F_Sys_rule o 4 ME = some (Int32.ofNat fe) := by
    unfold F_Sys_rule F_Sys_checkRule F_Desk_ruleValue
    rw [if_neg (by decide), if_pos (by decide), zb_ok rfl, if_neg (by decide), if_neg (by decide), if_pos (by decide)]
    have h4 : ME.1 (o + 6) 4 = Int32.ofNat fe := (cE.2.1.2.2.2.2.2.2.1 4 (by omega)).trans q7
    show zb (some (ME.1 (o + 6) 4)) _ = _
    rw [h4]
    rfl
  rw [zb2_ok eE, b3, if_pos rfl, zb_ok z0, b2, if_pos rfl, zb_ok z1, if_pos rfl, zb_ok zp, if_pos rfl, zb_ok z7, b4, if_pos rfl, zb_ok z4, b5, if_pos rfl]
