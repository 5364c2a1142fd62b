/-! ===== PURE: the law tells its text, and it is taken ===== -/
theorem v_ch3 : v_ch 3 = v_wd 4 ++ [32] := by decide +kernel
theorem v_ch4 : v_ch 4 = v_wd 0 ++ [32] := by decide +kernel
theorem v_ch5 : v_ch 5 = v_wd 1 := by decide +kernel
theorem v_ch6 : v_ch 6 = v_wd 5 := by decide +kernel
theorem v_ch7 : v_ch 7 = v_wd 2 := by decide +kernel
theorem v_ch8 : v_ch 8 = v_wd 3 := by decide +kernel
theorem v_chr : v_ch 9 = v_wd (14 + 0) ∧ v_ch 10 = v_wd (14 + 1) ∧ v_ch 11 = v_wd (14 + 3) ∧ v_ch 12 = v_wd (14 + 4) ∧ v_ch 13 = v_wd (14 + 2) := by decide +kernel
theorem v_road_app (i t v : Nat) (B : List Nat) : v_road i t v B = v_road i t v [] ++ B := by
  unfold v_road v_n3 v_n9
  simp only [List.append_assoc, List.cons_append, List.nil_append]
theorem v_taxi_app (s z b e : Nat) (B : List Nat) : v_taxi s z b e B = v_taxi s z b e [] ++ B := by
  unfold v_taxi v_n3 v_n9
  simp only [List.append_assoc, List.cons_append, List.nil_append]
theorem v_tarf_app (f r : Nat) (B : List Nat) : v_tarf f r B = v_tarf f r [] ++ B := by
  unfold v_tarf v_n3 v_n9
  simp only [List.append_assoc, List.cons_append, List.nil_append]
theorem v_disc_app (n v : Nat) (B : List Nat) : v_disc n v B = v_disc n v [] ++ B := by
  unfold v_disc v_n3 v_n9
  simp only [List.append_assoc, List.cons_append, List.nil_append]
theorem v_rule_app (k v : Nat) (B : List Nat) : v_rule k v B = v_rule k v [] ++ B := by
  unfold v_rule v_n9
  simp only [List.append_assoc, List.cons_append, List.nil_append]
theorem v_roads_app {Z : Nat} {g : Nat → Nat} {B : List Nat} : ∀ d z, v_roads Z g z d B = v_roads Z g z d [] ++ B
  | 0, _ => rfl
  | d + 1, z => by
    show v_road z ((z + 1) % Z) (g z) (v_roads Z g (z + 1) d B) = v_road z ((z + 1) % Z) (g z) (v_roads Z g (z + 1) d []) ++ B
    rw [v_roads_app d (z + 1), v_road_app, v_road_app _ _ _ (v_roads Z g (z + 1) d []), List.append_assoc]
theorem v_taxis_app {g h k : Nat → Nat} {B : List Nat} : ∀ d t, v_taxis g h k t d B = v_taxis g h k t d [] ++ B
  | 0, _ => rfl
  | d + 1, t => by
    show v_taxi (g t) (h t) (k t) (600 + t) (v_taxis g h k (t + 1) d B) = v_taxi (g t) (h t) (k t) (600 + t) (v_taxis g h k (t + 1) d []) ++ B
    rw [v_taxis_app d (t + 1), v_taxi_app, v_taxi_app _ _ _ _ (v_taxis g h k (t + 1) d []), List.append_assoc]
theorem v_wdl : ∀ j : Fin 26, w_l j.val ≤ 8 := by decide +kernel
theorem v_road_len (i t v : Nat) : (v_road i t v []).length ≤ 24 := by
  have h : w_l 1 ≤ 8 := v_wdl ⟨1, by omega⟩
  have a := (v_dg_len i).2
  have b := (v_dg_len t).2
  have c := (v_dg_len v).2
  unfold v_road v_n3 v_n9
  simp only [List.length_append, List.length_cons, List.length_nil, v_wd_len]
  omega
theorem v_taxi_len (i t v e : Nat) : (v_taxi i t v e []).length ≤ 28 := by
  have h : w_l 5 ≤ 8 := v_wdl ⟨5, by omega⟩
  have a := (v_dg_len i).2
  have b := (v_dg_len t).2
  have c := (v_dg_len v).2
  have d := (v_dg_len e).2
  unfold v_taxi v_n3 v_n9
  simp only [List.length_append, List.length_cons, List.length_nil, v_wd_len]
  omega
theorem v_tarf_len (f r : Nat) : (v_tarf f r []).length ≤ 24 := by
  have h : w_l 2 ≤ 8 := v_wdl ⟨2, by omega⟩
  have a := (v_dg_len f).2
  have b := (v_dg_len r).2
  unfold v_tarf v_n3 v_n9
  simp only [List.length_append, List.length_cons, List.length_nil, v_wd_len]
  omega
theorem v_disc_len (f r : Nat) : (v_disc f r []).length ≤ 24 := by
  have h : w_l 3 ≤ 8 := v_wdl ⟨3, by omega⟩
  have a := (v_dg_len f).2
  have b := (v_dg_len r).2
  unfold v_disc v_n3 v_n9
  simp only [List.length_append, List.length_cons, List.length_nil, v_wd_len]
  omega
theorem v_rule_len {k v : Nat} (hk : k < 7) : (v_rule k v []).length ≤ 24 := by
  have h : w_l 4 ≤ 8 := v_wdl ⟨4, by omega⟩
  have h' : w_l (14 + k) ≤ 8 := v_wdl ⟨14 + k, by omega⟩
  have a := (v_dg_len v).2
  unfold v_rule v_n9
  simp only [List.length_append, List.length_cons, List.length_nil, v_wd_len]
  omega
/-! the writing of each -/
theorem v_wRoad {a i t v : Nat} {M : z_Mem} {X : List Nat} (hi : i < 1000) (ht : t < 1000) (hv : v < 1000) (hX : X.length ≤ 700) (h : v_tx a X M) : ∃ M', F_Law_clause a 5 (Int32.ofNat i) (Int32.ofNat t) (Int32.ofNat v) (-1) M = some M' ∧ v_tx a (X ++ v_road i t v []) M' ∧ v_fr a M M' := by
  obtain ⟨M', e, t', f⟩ := v_cl3 (w := 5) (by omega) (by omega) hi ht hv hX h
  refine ⟨M', e, ?_, f⟩
  unfold v_road v_n3 v_n9
  rw [v_ch5] at t'
  simp only [List.append_assoc, List.cons_append, List.nil_append] at t' ⊢
  exact t'
theorem v_wTaxi {a s z b e : Nat} {M : z_Mem} {X : List Nat} (hs : s < 1000) (hz : z < 1000) (hb : b < 1000) (he : e < 1000) (hX : X.length ≤ 700) (h : v_tx a X M) : ∃ M', F_Law_clause a 6 (Int32.ofNat s) (Int32.ofNat z) (Int32.ofNat b) (Int32.ofNat e) M = some M' ∧ v_tx a (X ++ v_taxi s z b e []) M' ∧ v_fr a M M' := by
  obtain ⟨M', e', t', f⟩ := v_cl4 (w := 6) (by omega) (by omega) hs hz hb he hX h
  refine ⟨M', e', ?_, f⟩
  unfold v_taxi v_n3 v_n9
  rw [v_ch6] at t'
  simp only [List.append_assoc, List.cons_append, List.nil_append] at t' ⊢
  exact t'
theorem v_wTarf {a f r : Nat} {M : z_Mem} {X : List Nat} (hf : f < 1000) (hr : r < 1000) (hX : X.length ≤ 700) (h : v_tx a X M) : ∃ M', F_Law_clause a 7 (Int32.ofNat f) (Int32.ofNat r) (-1) (-1) M = some M' ∧ v_tx a (X ++ v_tarf f r []) M' ∧ v_fr a M M' := by
  obtain ⟨M', e', t', f'⟩ := v_cl2 (w := 7) (by omega) (by omega) hf hr hX h
  refine ⟨M', e', ?_, f'⟩
  unfold v_tarf v_n3 v_n9
  rw [v_ch7] at t'
  simp only [List.append_assoc, List.cons_append, List.nil_append] at t' ⊢
  exact t'
theorem v_wDisc {a n v : Nat} {M : z_Mem} {X : List Nat} (hn : n < 1000) (hv : v < 1000) (hX : X.length ≤ 700) (h : v_tx a X M) : ∃ M', F_Law_clause a 8 (Int32.ofNat n) (Int32.ofNat v) (-1) (-1) M = some M' ∧ v_tx a (X ++ v_disc n v []) M' ∧ v_fr a M M' := by
  obtain ⟨M', e', t', f'⟩ := v_cl2 (w := 8) (by omega) (by omega) hn hv hX h
  refine ⟨M', e', ?_, f'⟩
  unfold v_disc v_n3 v_n9
  rw [v_ch8] at t'
  simp only [List.append_assoc, List.cons_append, List.nil_append] at t' ⊢
  exact t'
theorem v_wRule {a w k v : Nat} {M : z_Mem} {X : List Nat} (hw : w < 14) (hw0 : w ≠ 0) (hk : v_ch w = v_wd (14 + k)) (hv : v < 1000) (hX : X.length ≤ 700) (h : v_tx a X M) : ∃ M', F_Law_rule a w (Int32.ofNat v) M = some M' ∧ v_tx a (X ++ v_rule k v []) M' ∧ v_fr a M M' := by
  obtain ⟨M', e', t', f'⟩ := v_ru (w := w) hw hw0 hv hX h
  refine ⟨M', e', ?_, f'⟩
  unfold v_rule v_n9
  rw [hk, v_ch3] at t'
  simp only [List.append_assoc, List.cons_append, List.nil_append] at t' ⊢
  exact t'
/-! the loops -/
theorem v_wRoads {o a L c d Z : Nat} {S : Nat → Int32} (hc : c < 2 ^ 30) (hZ : 3 ≤ Z) (hZ8 : Z ≤ 8) : ∀ (r z f : Nat) (M : z_Mem) (X : List Nat), z + r = Z → r < f → X.length + 24 * r ≤ 700 → M.1 a 2 = Int32.ofNat Z → v_tx a X M → ∃ M', F_Law_tells_L80 L S o a f (Int32.ofNat c) (Int32.ofNat d) (Int32.ofNat z) M = F_Law_tells_L125 L S o a 10000 (Int32.ofNat c) (Int32.ofNat d) 0 M' ∧ v_tx a (X ++ v_roads Z (fun z => 1 + c / 2 ^ z % 2 ^ 3) z r []) M' ∧ v_fr a M M' := by
  intro r
  induction r with
  | zero =>
    intro z f M X hz hf hX h2 h
    obtain ⟨f, rfl⟩ : ∃ g, f = g + 1 := ⟨f - 1, by omega⟩
    refine ⟨M, ?_, ?_, v_fr.rfl'⟩
    · unfold F_Law_tells_L80 F_Law_tells_B80
      rw [h2, if_pos ((i_le (by omega) (by omega)).mpr (by omega))]
    · show v_tx a (X ++ []) M
      rw [List.append_nil]
      exact h
  | succ r ih =>
    intro z f M X hz hf hX h2 h
    obtain ⟨f, rfl⟩ : ∃ g, f = g + 1 := ⟨f - 1, by omega⟩
    have hm : (z + 1) % Z < Z := Nat.mod_lt _ (by omega)
    have h7 : c / 2 ^ z % 2 ^ 3 < 2 ^ 3 := Nat.mod_lt _ (by omega)
    obtain ⟨M1, e1, t1, f1⟩ := v_wRoad (i := z) (t := (z + 1) % Z) (v := 1 + c / 2 ^ z % 2 ^ 3) (by omega) (by omega) (by omega) (by omega) h
    have hl := v_road_len z ((z + 1) % Z) (1 + c / 2 ^ z % 2 ^ 3)
    obtain ⟨M', e', t', f'⟩ := ih (z + 1) f M1 _ (by omega) (by omega) (by rw [List.length_append]; omega) ((f1.2 2 (by decide)).trans h2) t1
    refine ⟨M', ?_, ?_, f1.tr f'⟩
    · have eU : F_Law_tells_L80 L S o a (f + 1) (Int32.ofNat c) (Int32.ofNat d) (Int32.ofNat z) M = F_Law_tells_B80 L S o a (F_Law_tells_L80 L S o a f) (Int32.ofNat c) (Int32.ofNat d) (Int32.ofNat z) M := rfl
      have hcd : c / 2 ^ z ≤ c := Nat.div_le_self _ _
      have e7 : Int32.ofNat (c / 2 ^ z) &&& 7 = Int32.ofNat (c / 2 ^ z % 2 ^ 3) := i_and (k := 3) (by omega) (by omega)
      have e1' : (1 : Int32) + Int32.ofNat (c / 2 ^ z % 2 ^ 3) = Int32.ofNat (1 + c / 2 ^ z % 2 ^ 3) := i_add 1 _
      rw [eU]
      unfold F_Law_tells_B80
      rw [h2, if_neg (i_nle (by omega) (by omega) (by omega)), if_pos (show ¬ Int32.ofNat Z = 0 from i_ne0 (by omega) (by omega)), i_succ, i_rem (by omega) (by omega), i_shru (by omega) (by omega), e7, e1', zb_ok e1, zl_eq]
      exact e'
    · rw [List.append_assoc, ← v_road_app] at t'
      exact t'
theorem v_wTaxis {o a L c d Z T : Nat} {S : Nat → Int32} (hc : c < 2 ^ 30) (hd : d < 2 ^ 30) (hZ : 3 ≤ Z) (hZ8 : Z ≤ 8) (hT : T ≤ 4) : ∀ (r t f : Nat) (M : z_Mem) (X : List Nat), t + r = T → r < f → X.length + 28 * r ≤ 700 → M.1 a 2 = Int32.ofNat Z → M.1 a 3 = Int32.ofNat T → v_tx a X M → ∃ M' f', F_Law_tells_L125 L S o a f (Int32.ofNat c) (Int32.ofNat d) (Int32.ofNat t) M = F_Law_tells_L125 L S o a (f' + 1) (Int32.ofNat c) (Int32.ofNat d) (Int32.ofNat T) M' ∧ v_tx a (X ++ v_taxis (fun t => 2 + d / 2 ^ t % 5) (fun t => c / 2 ^ t % Z) (fun t => d / 2 ^ (3 * t) % 2 ^ 4) t r []) M' ∧ v_fr a M M' := by
  intro r
  induction r with
  | zero =>
    intro t f M X ht hf hX h2 h3 h
    obtain ⟨f, rfl⟩ : ∃ g, f = g + 1 := ⟨f - 1, by omega⟩
    have ht : t = T := ht
    refine ⟨M, f, by rw [ht], ?_, v_fr.rfl'⟩
    show v_tx a (X ++ []) M
    rw [List.append_nil]
    exact h
  | succ r ih =>
    intro t f M X ht hf hX h2 h3 h
    obtain ⟨f, rfl⟩ : ∃ g, f = g + 1 := ⟨f - 1, by omega⟩
    have m5 : d / 2 ^ t % 5 < 5 := Nat.mod_lt _ (by omega)
    have mZ : c / 2 ^ t % Z < Z := Nat.mod_lt _ (by omega)
    have m16 : d / 2 ^ (3 * t) % 2 ^ 4 < 2 ^ 4 := Nat.mod_lt _ (by omega)
    obtain ⟨M1, e1, t1, f1⟩ := v_wTaxi (s := 2 + d / 2 ^ t % 5) (z := c / 2 ^ t % Z) (b := d / 2 ^ (3 * t) % 2 ^ 4) (e := 600 + t) (by omega) (by omega) (by omega) (by omega) (by omega) h
    have hl := v_taxi_len (2 + d / 2 ^ t % 5) (c / 2 ^ t % Z) (d / 2 ^ (3 * t) % 2 ^ 4) (600 + t)
    obtain ⟨M', f', e', t', g'⟩ := ih (t + 1) f M1 _ (by omega) (by omega) (by rw [List.length_append]; omega) ((f1.2 2 (by decide)).trans h2) ((f1.2 3 (by decide)).trans h3) t1
    refine ⟨M', f', ?_, ?_, f1.tr g'⟩
    · have eU : F_Law_tells_L125 L S o a (f + 1) (Int32.ofNat c) (Int32.ofNat d) (Int32.ofNat t) M = F_Law_tells_B125 L S o a (F_Law_tells_L125 L S o a f) (Int32.ofNat c) (Int32.ofNat d) (Int32.ofNat t) M := rfl
      have k1 : c / 2 ^ t ≤ c := Nat.div_le_self _ _
      have k2 : d / 2 ^ t ≤ d := Nat.div_le_self _ _
      have k3 : d / 2 ^ (3 * t) ≤ d := Nat.div_le_self _ _
      have s1 := i_shru (u := d) (k := t) (by omega) (by omega)
      have s2 := i_shru (u := c) (k := t) (by omega) (by omega)
      have s3 := i_shru (u := d) (k := 3 * t) (by omega) (by omega)
      have e3 : (3 : Int32) * Int32.ofNat t = Int32.ofNat (3 * t) := i_mul 3 t
      have r5 : Int32.ofNat (d / 2 ^ t) - Int32.ofNat (d / 2 ^ t) / 5 * 5 = Int32.ofNat (d / 2 ^ t % 5) := i_rem (b := 5) (by omega) (by decide)
      have rZ : Int32.ofNat (c / 2 ^ t) - Int32.ofNat (c / 2 ^ t) / Int32.ofNat Z * Int32.ofNat Z = Int32.ofNat (c / 2 ^ t % Z) := i_rem (by omega) (by omega)
      have e15 : Int32.ofNat (d / 2 ^ (3 * t)) &&& 15 = Int32.ofNat (d / 2 ^ (3 * t) % 2 ^ 4) := i_and (k := 4) (by omega) (by omega)
      have e2' : (2 : Int32) + Int32.ofNat (d / 2 ^ t % 5) = Int32.ofNat (2 + d / 2 ^ t % 5) := i_add 2 _
      have e6' : (600 : Int32) + Int32.ofNat t = Int32.ofNat (600 + t) := i_add 600 _
      rw [eU]
      unfold F_Law_tells_B125
      rw [h3, if_neg (i_nle (by omega) (by omega) (by omega)), h2, if_pos (show ¬ Int32.ofNat Z = 0 from i_ne0 (by omega) (by omega)), e3, s1, s2, s3, r5, rZ, e15, e2', e6', zb_ok e1, zl_eq, i_succ]
      exact e'
    · rw [List.append_assoc, ← v_taxi_app] at t'
      exact t'
theorem c_all.buf {o N : Nat} {M M' : z_Mem} {s : q_S} (hc : c_all o M s) (hf : v_fr o M M') (h1 : M'.1 o 1 = Int32.ofNat N) (hN : N ≤ 800) : c_all o M' (q_sb s (fun k => M'.1 (o + 1) k &&& 255, N)) := by
  obtain ⟨⟨a1, a2, a3⟩, h2, h3, h4, ⟨b0, b1, b2⟩, h6, ⟨d0, d1, d2⟩⟩ := hc
  have e : ∀ a, o + 1 < a → M'.1 a = M.1 a := fun a ha => hf.1 a (by omega) (by omega)
  have e0 : ∀ k, k ≠ 1 → M'.1 o k = M.1 o k := hf.2
  refine ⟨⟨by rw [e _ (by omega)]; exact a1, by rw [e _ (by omega)]; exact a2, fun k hk => by rw [e _ (by omega)]; exact a3 k hk⟩, h2.keep (fun a q1 q2 => e a (by omega)), h3.keep (fun a q1 q2 => e a (by omega)), ?_, ⟨hN, h1, fun k hk => rfl⟩, by rw [e0 _ (by decide)]; exact h6, ⟨d0, by rw [e0 _ (by decide)]; exact d1, fun k hk => by rw [e _ (by omega)]; exact d2 k hk⟩⟩
  show c_snap _ o s.1 s.2.2.2.1
  have h4' : c_snap M o s.1 s.2.2.2.1 := h4
  cases hs : s.2.2.2.1 with
  | none =>
    rw [hs] at h4'
    show M'.1 o 9 = 0
    rw [e0 _ (by decide)]
    exact h4'
  | some B =>
    rw [hs] at h4'
    exact ⟨by rw [e0 _ (by decide)]; exact h4'.1, h4'.2.keep (fun a q1 q2 => e a (by omega))⟩
theorem c_all.hi {o : Nat} {M M' : z_Mem} {s : q_S} (e : ∀ x, o ≤ x → M'.1 x = M.1 x) (hc : c_all o M s) : c_all o M' s := by
  obtain ⟨⟨a1, a2, a3⟩, h2, h3, h4, ⟨b0, b1, b2⟩, h6, ⟨d0, d1, d2⟩⟩ := hc
  refine ⟨⟨by rw [e _ (by omega)]; exact a1, by rw [e _ (by omega)]; exact a2, fun k hk => by rw [e _ (by omega)]; exact a3 k hk⟩, h2.keep (fun a q1 q2 => e a (by omega)), h3.keep (fun a q1 q2 => e a (by omega)), h4.keep (e o (by omega)) (fun a q1 q2 => e a (by omega)), ⟨b0, by rw [e _ (by omega)]; exact b1, fun k hk => by rw [e _ (by omega)]; exact b2 k hk⟩, by rw [e _ (by omega)]; exact h6, ⟨d0, by rw [e _ (by omega)]; exact d1, fun k hk => by rw [e _ (by omega)]; exact d2 k hk⟩⟩
