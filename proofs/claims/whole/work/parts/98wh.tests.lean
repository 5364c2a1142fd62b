/-! ===== PURE: query: conjunctions and tests, both ===== -/
theorem h_bad.kq {o : Nat} {M' N N1 : z_Mem} {R : Option z_Mem} (h : h_bad o M' N1 R) (hk : n_kq (o + 548) N N1) : h_bad o M' N R := by
  obtain ⟨N', e, hb, k⟩ := h
  exact ⟨N', e, hb, hk.tr k⟩
theorem h_bad.ks {o : Nat} {M M' N : z_Mem} {R : Option z_Mem} (h : h_bad o M N R) (hk : c_ks o M M') : h_bad o M' N R := by
  obtain ⟨N', e, hb, k⟩ := h
  exact ⟨N', e, hb.c hk, k⟩
theorem j_conL {o n d p : Nat} {T : Nat → Nat} {c A : q_R} (hT : ∀ k, T k < 256) (hn : n ≤ 200) (hA : A 1 = Int32.ofNat (q_N A)) (hF : h_FAC o n T c A d) (h7 : 7 ≤ p + d) (h6 : p ≤ 6) (hN : q_N A ≤ 24) : ∀ (r q v F f g : Nat) (x : Int32) (M N : z_Mem) (S C P cc : List Nat), n - q ≤ r → 200 < F + v → v ≤ q → z_g o M N T n q → y_Q (o + 548) N (S ++ P) (C ++ cc) → (S ++ P).length + (C ++ cc).length ≤ q → h_PC P → h_stop 2 S → h_dep S = p → h_den A (cc ++ P.reverse) x → h_okl cc → c_desk M (o + 5) c A → n - q < f → n - q < g → ∃ y M', F_QueryReader_readConjunction_L8 o (F_QR o d).1 (F_QR o d).2 F (Int32.ofNat p) x (Int32.ofNat v) M = some (y, M') ∧ c_ks o M M' ∧ (h_bad o M' N (h_L (o + 548) f g N) ∨ h_gP o n T A q S C h_PC 24 y M' N (h_L (o + 548) f g N)) := by
  intro r
  induction r with
  | zero =>
    intro q v F f g x M N S C P cc hr hF' hv hg hQ hl hP hS hdp hden hok hd hf hgf
    obtain ⟨F, rfl⟩ : ∃ k, F = k + 1 := ⟨F - 1, by have := hg.le.1; omega⟩
    have hno : ¬ v_is T n q 24 := fun z => by have := z.1; omega
    refine ⟨x, M, ?_, c_ks.rfl', Or.inr ⟨N, q, P, cc, f, g, Nat.le_refl _, rfl, hg, hQ, hl, hP, hden, hok, n_kq.rfl', hf, hgf, hno, hno⟩⟩
    unfold F_QueryReader_readConjunction_L8 F_QueryReader_readConjunction_B8
    rw [zb_ok (show F_Tokens_isWord o 24 M = _ from (j_isWord (j := 24) hT (by decide) hg).1), if_neg hno, if_pos rfl]
    split <;> rfl
  | succ r ih =>
    intro q v F f g x M N S C P cc hr hF' hv hg hQ hl hP hS hdp hden hok hd hf hgf
    obtain ⟨F, rfl⟩ : ∃ k, F = k + 1 := ⟨F - 1, by have := hg.le.1; omega⟩
    have hC24 : F_Tokens_isWord o 24 M = _ := (j_isWord (j := 24) hT (by decide) hg).1
    by_cases hw : v_is T n q 24
    · have eU : F_QueryReader_readConjunction_L8 o (F_QR o d).1 (F_QR o d).2 (F + 1) (Int32.ofNat p) x (Int32.ofNat v) M = F_QueryReader_readConjunction_B8 o (F_QR o d).1 (F_QR o d).2 (F_QueryReader_readConjunction_L8 o (F_QR o d).1 (F_QR o d).2 F) (Int32.ofNat p) x (Int32.ofNat v) M := rfl
      have hq := hw.1
      obtain ⟨M4, N4, f4, e4, eR, hg4, hQ4, hq4, c4, k4, hf4⟩ := j_operator (k := 2) (s := 24) hT hg hn hw (Or.inl ⟨rfl, rfl, rfl⟩) hQ hl hS hP.str hf hgf
      have l4 : (S ++ [24] ++ List.replicate 0 23).length + (C ++ cc ++ P.reverse).length ≤ x_to T n q := by
        simp only [List.length_append, List.length_reverse, List.length_replicate, List.length_singleton] at hl ⊢
        omega
      have e0 : S ++ [24] ++ List.replicate 0 23 = S ++ [24] := List.append_nil _
      obtain ⟨x6, M5, e5, c5, h5⟩ := hF p (x_to T n q) 0 f4 10000 M4 N4 (S ++ [24]) (C ++ cc ++ P.reverse) h7 h6 hg4 (by rw [e0]; exact hQ4) l4 (h_stop.snoc (by decide)) (by rw [e0, h_dep_app, hdp]; rfl) (hd.ks c4) hf4 (by omega)
      rw [eU, eR]
      unfold F_QueryReader_readConjunction_B8
      rw [if_neg (show ¬ (200 : Int32) ≤ Int32.ofNat v from i_nle (a := 200) (by decide) (by omega) (by omega)), zb_ok hC24, if_pos hw, if_neg ne10, zb_ok e4, zb2_ok e5, zl_eq, zl_eq, i_succ]
      rcases h5 with hb | ⟨N5, q5, c2, f5, g5, hq5, eR5, hg5, hQ5, hl5, hden5, hok5, k5, hf5, hgf5⟩
      · -- an error: the class goes on without effect
        have hFt := t_fac (o := o) (c := c) hA d
        have tot : ∃ y M', F_QueryReader_readConjunction_L8 o (F_QR o d).1 (F_QR o d).2 F (Int32.ofNat p) (x &&& x6) (Int32.ofNat (v + 1)) M5 = some (y, M') ∧ c_ks o M5 M' := t_conL hFt h7 h6 (200 - (v + 1)) (v + 1) F _ M5 (by omega) (by omega) ((hd.ks c4).ks c5)
        obtain ⟨y, M', e, cc'⟩ := tot
        exact ⟨y, M', e, c4.tr (c5.tr cc'), Or.inl ((hb.kq k4).ks cc')⟩
      · have ee : C ++ cc ++ P.reverse ++ c2 ++ List.replicate 0 23 = C ++ (cc ++ P.reverse ++ c2) := by
          rw [show List.replicate 0 23 = ([] : List Nat) from rfl]
          simp
        rw [ee] at hQ5 hl5
        obtain ⟨y, M', e, c6, h6'⟩ := ih q5 (v + 1) F f5 g5 (x &&& x6) M5 N5 S C [24] (cc ++ P.reverse ++ c2) (by omega) (by omega) (by omega) hg5 hQ5 (by
          rw [List.length_append] at hl5 ⊢
          exact hl5) (Or.inr rfl) hS hdp (hden.and hden5) ((hok.app hP.T.ok).app hok5) ((hd.ks c4).ks c5) hf5 hgf5
        rw [eR5]
        refine ⟨y, M', e, c4.tr (c5.tr c6), ?_⟩
        rcases h6' with hb | ⟨N', q', P', c', f', g', hq', a⟩
        · exact Or.inl (hb.kq (k4.tr k5))
        · obtain ⟨a1, a2, a3, a4, a5, a6, a7, a8, a9⟩ := a
          exact Or.inr ⟨N', q', P', c', f', g', by omega, a1, a2, a3, a4, a5, a6, a7, k4.tr (k5.tr a8), a9⟩
    · refine ⟨x, M, ?_, c_ks.rfl', Or.inr ⟨N, q, P, cc, f, g, Nat.le_refl _, rfl, hg, hQ, hl, hP, hden, hok, n_kq.rfl', hf, hgf, hw, hw⟩⟩
      unfold F_QueryReader_readConjunction_L8 F_QueryReader_readConjunction_B8
      rw [zb_ok hC24, if_neg hw, if_pos rfl]
      split <;> rfl
theorem j_con {o n d : Nat} {T : Nat → Nat} {c A : q_R} (hT : ∀ k, T k < 256) (hn : n ≤ 200) (hA : A 1 = Int32.ofNat (q_N A)) (hN : q_N A ≤ 24) (hF : h_FAC o n T c A d) : h_CON o n T c A d := fun p q f h M N S C h7 h6 hg hQ hl hS hdp hd hf hh => by
  have e0 : S ++ List.replicate 0 23 = S := List.append_nil _
  obtain ⟨x, M1, e1, c1, h1⟩ := hF p q 0 f h M N S C h7 h6 hg (by rw [e0]; exact hQ) (by rw [e0]; exact hl) (hS.le (by decide)) (by rw [e0]; exact hdp) hd hf hh
  unfold F_QueryReader_readConjunction
  rw [zb2_ok e1]
  rcases h1 with hb | ⟨N1, q1, c2, f1, g1, hq1, eR1, hg1, hQ1, hl1, hden1, hok1, k1, hf1, hgf1⟩
  · have hFt := t_fac (o := o) (c := c) hA d
    obtain ⟨y, M', e, cc'⟩ := t_conL hFt h7 h6 200 0 10000 x M1 rfl (by omega) (hd.ks c1)
    exact ⟨y, M', e, c1.tr cc', Or.inl (hb.ks cc')⟩
  · have ee : C ++ c2 ++ List.replicate 0 23 = C ++ c2 := List.append_nil _
    rw [ee] at hQ1 hl1
    have es : S ++ [] = S := List.append_nil _
    obtain ⟨y, M', e, c6, h6'⟩ := j_conL hT hn hA hF h7 h6 hN (n - q1) q1 0 10000 f1 g1 x M1 N1 S C [] c2 (Nat.le_refl _) (by omega) (by omega) hg1 (by rw [es]; exact hQ1) (by rw [es]; exact hl1) (Or.inl rfl) hS hdp (by rw [List.reverse_nil, List.append_nil]; exact hden1) hok1 (hd.ks c1) hf1 hgf1
    rw [eR1]
    refine ⟨y, M', e, c1.tr c6, ?_⟩
    rcases h6' with hb | ⟨N', q', P', c', f', g', hq', a⟩
    · exact Or.inl (hb.kq k1)
    · obtain ⟨a1, a2, a3, a4, a5, a6, a7, a8, a9⟩ := a
      exact Or.inr ⟨N', q', P', c', f', g', by omega, a1, a2, a3, a4, a5, a6, a7, k1.tr a8, a9⟩
theorem j_tesL {o n d p : Nat} {T : Nat → Nat} {c A : q_R} (hT : ∀ k, T k < 256) (hn : n ≤ 200) (hA : A 1 = Int32.ofNat (q_N A)) (hF : h_CON o n T c A d) (h7 : 7 ≤ p + d) (h6 : p ≤ 6) (hN : q_N A ≤ 24) : ∀ (r q v F f g : Nat) (x : Int32) (M N : z_Mem) (S C P cc : List Nat), n - q ≤ r → 200 < F + v → v ≤ q → z_g o M N T n q → y_Q (o + 548) N (S ++ P) (C ++ cc) → (S ++ P).length + (C ++ cc).length ≤ q → h_PT P → h_stop 1 S → h_dep S = p → h_den A (cc ++ P.reverse) x → h_okl cc → c_desk M (o + 5) c A → n - q < f → n - q < g → ¬ v_is T n q 24 → ∃ y M', F_QueryReader_readTest_L8 o (F_QR o d).1 (F_QR o d).2 F (Int32.ofNat p) x (Int32.ofNat v) M = some (y, M') ∧ c_ks o M M' ∧ (h_bad o M' N (h_L (o + 548) f g N) ∨ h_gP o n T A q S C h_PT 23 y M' N (h_L (o + 548) f g N)) := by
  intro r
  induction r with
  | zero =>
    intro q v F f g x M N S C P cc hr hF' hv hg hQ hl hP hS hdp hden hok hd hf hgf h24
    obtain ⟨F, rfl⟩ : ∃ k, F = k + 1 := ⟨F - 1, by have := hg.le.1; omega⟩
    have hno : ¬ v_is T n q 23 := fun z => by have := z.1; omega
    refine ⟨x, M, ?_, c_ks.rfl', Or.inr ⟨N, q, P, cc, f, g, Nat.le_refl _, rfl, hg, hQ, hl, hP, hden, hok, n_kq.rfl', hf, hgf, h24, hno⟩⟩
    unfold F_QueryReader_readTest_L8 F_QueryReader_readTest_B8
    rw [zb_ok (show F_Tokens_isWord o 23 M = _ from (j_isWord (j := 23) hT (by decide) hg).1), if_neg hno, if_pos rfl]
    split <;> rfl
  | succ r ih =>
    intro q v F f g x M N S C P cc hr hF' hv hg hQ hl hP hS hdp hden hok hd hf hgf h24
    obtain ⟨F, rfl⟩ : ∃ k, F = k + 1 := ⟨F - 1, by have := hg.le.1; omega⟩
    have hC23 : F_Tokens_isWord o 23 M = _ := (j_isWord (j := 23) hT (by decide) hg).1
    by_cases hw : v_is T n q 23
    · have eU : F_QueryReader_readTest_L8 o (F_QR o d).1 (F_QR o d).2 (F + 1) (Int32.ofNat p) x (Int32.ofNat v) M = F_QueryReader_readTest_B8 o (F_QR o d).1 (F_QR o d).2 (F_QueryReader_readTest_L8 o (F_QR o d).1 (F_QR o d).2 F) (Int32.ofNat p) x (Int32.ofNat v) M := rfl
      have hq := hw.1
      obtain ⟨M4, N4, f4, e4, eR, hg4, hQ4, hq4, c4, k4, hf4⟩ := j_operator (k := 1) (s := 25) hT hg hn hw (Or.inr ⟨rfl, rfl, rfl⟩) hQ hl hS hP.str hf hgf
      have l4 : (S ++ [25]).length + (C ++ cc ++ P.reverse).length ≤ x_to T n q := by
        simp only [List.length_append, List.length_reverse, List.length_singleton] at hl ⊢
        omega
      obtain ⟨x6, M5, e5, c5, h5⟩ := hF p (x_to T n q) f4 10000 M4 N4 (S ++ [25]) (C ++ cc ++ P.reverse) h7 h6 hg4 hQ4 l4 (h_stop.snoc (by decide)) (by rw [h_dep_app, hdp]; rfl) (hd.ks c4) hf4 (by omega)
      rw [eU, eR]
      unfold F_QueryReader_readTest_B8
      rw [if_neg (show ¬ (200 : Int32) ≤ Int32.ofNat v from i_nle (a := 200) (by decide) (by omega) (by omega)), zb_ok hC23, if_pos hw, if_neg ne10, zb_ok e4, zb2_ok e5, zl_eq, zl_eq, i_succ]
      rcases h5 with hb | ⟨N5, q5, P5, c2, f5, g5, hq5, eR5, hg5, hQ5, hl5, hP5, hden5, hok5, k5, hf5, hgf5, h24', -⟩
      · have hFt := t_con (t_fac (o := o) (c := c) hA d)
        obtain ⟨y, M', e, cc'⟩ := t_tesL hFt h7 h6 (200 - (v + 1)) (v + 1) F (x ||| x6) M5 (by omega) (by omega) ((hd.ks c4).ks c5)
        exact ⟨y, M', e, c4.tr (c5.tr cc'), Or.inl ((hb.kq k4).ks cc')⟩
      · have ee : C ++ cc ++ P.reverse ++ c2 = C ++ (cc ++ P.reverse ++ c2) := by simp
        have es : S ++ [25] ++ P5 = S ++ ([25] ++ P5) := List.append_assoc _ _ _
        rw [ee, es] at hQ5 hl5
        have hP' : h_PT ([25] ++ P5) := ⟨fun s hs => by
          rcases List.mem_append.mp hs with z | z
          · exact Or.inr (List.mem_singleton.mp z)
          · exact hP5.T.1 s z, by rw [h_dep_app, hP5.T.2]; rfl⟩
        have hden' : h_den A (cc ++ P.reverse ++ c2 ++ ([25] ++ P5).reverse) (x ||| x6) := by
          have := hden.or hden5
          rw [List.reverse_append]
          rw [show cc ++ P.reverse ++ c2 ++ (P5.reverse ++ [25].reverse) = cc ++ P.reverse ++ (c2 ++ P5.reverse) ++ [25] by simp]
          exact this
        obtain ⟨y, M', e, c6, h6'⟩ := ih q5 (v + 1) F f5 g5 (x ||| x6) M5 N5 S C ([25] ++ P5) (cc ++ P.reverse ++ c2) (by omega) (by omega) (by omega) hg5 hQ5 hl5 hP' hS hdp hden' ((hok.app hP.ok).app hok5) ((hd.ks c4).ks c5) hf5 hgf5 h24'
        rw [eR5]
        refine ⟨y, M', e, c4.tr (c5.tr c6), ?_⟩
        rcases h6' with hb | ⟨N', q', P', c', f', g', hq', a⟩
        · exact Or.inl (hb.kq (k4.tr k5))
        · obtain ⟨a1, a2, a3, a4, a5, a6, a7, a8, a9⟩ := a
          exact Or.inr ⟨N', q', P', c', f', g', by omega, a1, a2, a3, a4, a5, a6, a7, k4.tr (k5.tr a8), a9⟩
    · refine ⟨x, M, ?_, c_ks.rfl', Or.inr ⟨N, q, P, cc, f, g, Nat.le_refl _, rfl, hg, hQ, hl, hP, hden, hok, n_kq.rfl', hf, hgf, h24, hw⟩⟩
      unfold F_QueryReader_readTest_L8 F_QueryReader_readTest_B8
      rw [zb_ok hC23, if_neg hw, if_pos rfl]
      split <;> rfl
theorem j_tes {o n d : Nat} {T : Nat → Nat} {c A : q_R} (hT : ∀ k, T k < 256) (hn : n ≤ 200) (hA : A 1 = Int32.ofNat (q_N A)) (hN : q_N A ≤ 24) (hF : h_CON o n T c A d) : h_TES o n T c A d := fun p q f h M N S C h7 h6 hg hQ hl hS hdp hd hf hh => by
  obtain ⟨x, M1, e1, c1, h1⟩ := hF p q f h M N S C h7 h6 hg hQ hl (hS.le (by decide)) hdp hd hf hh
  unfold F_QueryReader_readTest
  rw [zb2_ok e1]
  rcases h1 with hb | ⟨N1, q1, P1, c2, f1, g1, hq1, eR1, hg1, hQ1, hl1, hP1, hden1, hok1, k1, hf1, hgf1, h24, -⟩
  · have hFt := t_con (t_fac (o := o) (c := c) hA d)
    obtain ⟨y, M', e, cc'⟩ := t_tesL hFt h7 h6 200 0 10000 x M1 rfl (by omega) (hd.ks c1)
    exact ⟨y, M', e, c1.tr cc', Or.inl (hb.ks cc')⟩
  · obtain ⟨y, M', e, c6, h6'⟩ := j_tesL hT hn hA hF h7 h6 hN (n - q1) q1 0 10000 f1 g1 x M1 N1 S C P1 c2 (Nat.le_refl _) (by omega) (by omega) hg1 hQ1 hl1 hP1.T hS hdp hden1 hok1 (hd.ks c1) hf1 hgf1 h24
    rw [eR1]
    refine ⟨y, M', e, c1.tr c6, ?_⟩
    rcases h6' with hb | ⟨N', q', P', c', f', g', hq', a⟩
    · exact Or.inl (hb.kq k1)
    · obtain ⟨a1, a2, a3, a4, a5, a6, a7, a8, a9⟩ := a
      exact Or.inr ⟨N', q', P', c', f', g', by omega, a1, a2, a3, a4, a5, a6, a7, k1.tr a8, a9⟩
