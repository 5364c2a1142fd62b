/-! ===== PURE: query: a factor, both ===== -/
/-- an opening goes on the stack, or is one too many -/
theorem m_goesIn6 {m s : Nat} {N N' : z_Mem} {S C : List Nat} (hQ : y_Q m N S C) (h6 : h_dep S = 6) (hw : F_Model_wrongs m 3 N = some (0, N')) : F_Model_goesIn m (Int32.ofNat s) N = some (0, N') := by
  unfold F_Model_goesIn
  rw [hQ.2.2.1, h6, if_pos (show Int32.ofNat 6 = (6 : Int32) from rfl), zb2_ok hw, if_pos (Or.inl rfl)]
theorem m_goesIn {m s : Nat} {N : z_Mem} {S C : List Nat} (hQ : y_Q m N S C) (h6 : h_dep S < 6) (hl : S.length < 200) (hs : s = 1 ∨ s = 23) : ∃ N1, F_Model_goesIn m (Int32.ofNat s) N = (zb (F_Model_next m N1) fun N' => some (1, N')) ∧ y_Q m N1 (S ++ [s]) C ∧ n_st m N N1 := by
  have e53 := hQ.2.2.1
  have e52 := hQ.2.1
  have hp := hQ.push (s := s) (by omega) hl (by omega)
  rw [if_pos hs] at hp
  refine ⟨_, ?_, hp, (n_st.s (by omega)).tr ((n_st.w (by omega)).tr (n_st.s (by omega)))⟩
  unfold F_Model_goesIn
  rw [e53, if_neg (show ¬ Int32.ofNat (h_dep S) = (6 : Int32) from fun z => by have := (i_eq (b := 6) (by omega) (by decide)).mp z; omega), zl_eq, i_succ, w_slot _ (show (52 : Nat) ≠ 53 by decide), e52, if_pos ((i_inb (by omega)).mpr (by omega)), i_cl (by omega), zl_eq, w_addr _ (show m ≠ m + 23 by omega), w_slot _ (show (52 : Nat) ≠ 53 by decide), e52, zl_eq, i_succ]
/-- the reference at "not" or "(" -/
theorem m_open {o n q s f h : Nat} {M N : z_Mem} {T : Nat → Nat} (hT : ∀ k, T k < 256) (hg : z_g o M N T n q) (hs : (s = 23 ∧ v_is T n q 25) ∨ (s = 1 ∧ ¬ v_is T n q 25 ∧ s_is T n q 40)) : h_A (o + 548) f (h + 1) N = zb (zb2 (F_Model_goesIn (o + 548) (Int32.ofNat s) N) fun x8 M7 => if x8 = 0 then some M7 else F_Model_comparisonRead_L0 (o + 548) h M7) (h_then (o + 548) f) := by
  have w25 : F_Model_isWord (o + 548) 10631 N = _ := (j_isWord (j := 25) hT (by decide) hg).2
  have eU : F_Model_comparisonRead_L0 (o + 548) (h + 1) N = F_Model_comparisonRead_B0 (o + 548) (F_Model_comparisonRead_L0 (o + 548) h) N := rfl
  unfold h_A
  rw [eU]
  unfold F_Model_comparisonRead_B0 F_Model_comparisonRead_J19 F_Model_comparisonRead_J36
  rcases hs with ⟨rfl, hv⟩ | ⟨rfl, hv, hsg⟩
  · rw [zb_ok w25, if_pos hv, if_neg ne10, zb_ok w25, if_pos hv, if_neg ne10]
    rfl
  · have b40 : F_Model_isByte (o + 548) 40 N = some 1 := by
      rcases j_isSign (b := 40) hT (by decide) hg with ⟨-, -, z, -⟩ | ⟨z, -⟩
      · exact z
      · exact absurd hsg z
    rw [zb_ok w25, if_neg hv, if_pos rfl, zb_ok b40, if_neg ne10, zb_ok w25, if_neg hv, if_pos rfl]
    rfl
theorem h_then_b {m f : Nat} {N : z_Mem} (h : N.1 m 30 ≠ 0) : h_then m f N = some N := by
  unfold h_then
  rw [zb_ok (b_good h), if_pos rfl]
/-- a closed test: the brackets and what stood for them go -/
theorem m_shut {o n q k f g : Nat} {M N : z_Mem} {T : Nat → Nat} {S0 P C : List Nat} (hT : ∀ k, T k < 256) (hn : n ≤ 200) (hg : z_g o M N T n q) (hs : s_is T n q 41) (hQ : y_Q (o + 548) N (S0 ++ List.replicate k 23 ++ [1] ++ P) C) (hl : (S0 ++ List.replicate k 23 ++ [1] ++ P).length + C.length ≤ q) (hP : h_PT P) (hS : h_stop 3 S0) (hgf : n - q < g) : ∃ M' N' g', F_Tokens_next o M = some M' ∧ h_L (o + 548) f g N = h_L (o + 548) f g' N' ∧ z_g o M' N' T n (x_to T n q) ∧ y_Q (o + 548) N' S0 (C ++ P.reverse ++ List.replicate k 23) ∧ S0.length + (C ++ P.reverse ++ List.replicate k 23).length ≤ x_to T n q ∧ q < x_to T n q ∧ c_ks o M M' ∧ n_kq (o + 548) N N' ∧ n - x_to T n q < g' := by
  obtain ⟨g, rfl⟩ : ∃ k, g = k + 1 := ⟨g - 1, by omega⟩
  have hq := hs.1
  have ht := (x_to_le hg.le.1 (fun g => (hg.le.2.2 g).1)).2.2.1 hq
  have hqn := hg.le.1
  simp only [List.length_append, List.length_replicate, List.length_singleton] at hl
  have b41 : F_Model_isByte (o + 548) 41 N = some 1 := by
    rcases j_isSign (b := 41) hT (by decide) hg with ⟨-, -, z, -⟩ | ⟨z, -⟩
    · exact z
    · exact absurd hs z
  have ins := m_inside hQ
  rw [if_pos (by simp)] at ins
  obtain ⟨N1, e1, q1, s1⟩ := m_settles (k := 1) (S := S0 ++ List.replicate k 23 ++ [1]) (P := P) (by omega) (by omega) (h_stop.snoc (by decide)) hP.str hQ hg.1.2.2.1 (by omega)
  obtain ⟨N2, eN2⟩ : ∃ N2, N2 = z_wI (z_wI N1 (o + 548) 52 (N1.1 (o + 548) 52 - 1)) (o + 548) 53 ((z_wI N1 (o + 548) 52 (N1.1 (o + 548) 52 - 1)).1 (o + 548) 53 - 1) := ⟨_, rfl⟩
  have q2 : y_Q (o + 548) N2 (S0 ++ List.replicate k 23) (C ++ P.reverse) := by
    rw [eN2]
    exact q1.shut
  have s2 : n_st (o + 548) N1 N2 := by
    rw [eN2]
    exact (n_st.s (by omega)).tr (n_st.s (by omega))
  obtain ⟨M3, N3, e3, f3, hg3, c3, d3⟩ := j_next hT ((hg.st s1).st s2)
  obtain ⟨N4, e4, q4, s4⟩ := m_settles (k := 3) (S := S0) (P := List.replicate k 23) (by omega) (by omega) hS (fun s hs => by rw [List.eq_of_mem_replicate hs]; decide) (q2.ks d3) hg3.1.2.2.1 (by
    simp only [List.length_append, List.length_reverse, List.length_replicate]
    omega)
  rw [List.reverse_replicate] at q4
  refine ⟨M3, N4, g, e3, ?_, hg3.st s4, q4, ?_, ht, c3, s1.kq.tr (s2.kq.tr (d3.kq.tr s4.kq)), by omega⟩
  · have eU : F_Model_closes_L5 (o + 548) (g + 1) N = F_Model_closes_B5 (o + 548) (F_Model_closes_L5 (o + 548) g) N := rfl
    unfold h_L
    rw [eU]
    unfold F_Model_closes_B5
    rw [zb_ok b41, if_neg ne10, zb_ok ins, if_neg ne10, zb_ok (show F_Model_settles (o + 548) 1 N = some N1 from e1), zl_eq, zl_eq, ← eN2, zb_ok f3, zb_ok (show F_Model_settles (o + 548) 3 N3 = some N4 from e4)]
  · simp only [List.length_append, List.length_reverse, List.length_replicate]
    omega
/-- a test that is not closed where it must be: both tell it -/
theorem m_unshut {o n q f g : Nat} {M N : z_Mem} {T : Nat → Nat} {S C : List Nat} (hT : ∀ k, T k < 256) (hg : z_g o M N T n q) (hQ : y_Q (o + 548) N S C) (hb : F_Model_isByte (o + 548) 41 N = some 0 ∨ 1 ∉ S) (h24 : ¬ v_is T n q 24) (h23 : ¬ v_is T n q 23) (hf : n - q < f) (hgf : n - q < g) : h_L (o + 548) f g N = (if 1 ∈ S then F_Model_reads_J145 (o + 548) N else if N.1 (o + 548) 27 = 0 then F_Model_reads_J151 (o + 548) N else F_Model_reads_J145 (o + 548) N) := by
  obtain ⟨f, rfl⟩ : ∃ k, f = k + 1 := ⟨f - 1, by omega⟩
  obtain ⟨g, rfl⟩ : ∃ k, g = k + 1 := ⟨g - 1, by omega⟩
  have w24 : F_Model_isWord (o + 548) 1111 N = _ := (j_isWord (j := 24) hT (by decide) hg).2
  have w23 : F_Model_isWord (o + 548) 423 N = _ := (j_isWord (j := 23) hT (by decide) hg).2
  have ins := m_inside hQ
  have eL : F_Model_closes_L5 (o + 548) (g + 1) N = some N := by
    rcases hb with z | z
    · exact m_L5_no z
    · unfold F_Model_closes_L5 F_Model_closes_B5
      rw [if_neg z] at ins
      rcases j_isSign (b := 41) hT (by decide) hg with ⟨-, -, y, -⟩ | ⟨-, -, y, -⟩
      · rw [zb_ok (show F_Model_isByte (o + 548) 41 N = some 1 from y), if_neg ne10, zb_ok ins, if_pos rfl]
      · rw [zb_ok (show F_Model_isByte (o + 548) 41 N = some 0 from y), if_pos rfl]
  have eU : F_Model_reads_L20 (o + 548) (f + 1) 0 N = F_Model_reads_B20 (o + 548) (F_Model_reads_L20 (o + 548) f) 0 N := rfl
  unfold h_L
  rw [zb_ok eL]
  unfold h_rest F_Model_reads_J71 F_Model_reads_J81
  rw [zb_ok w24, if_neg h24, if_pos rfl, zb_ok w23, if_neg h23, if_pos rfl, if_pos rfl, if_pos rfl, eU]
  unfold F_Model_reads_B20
  rw [if_pos rfl, zb_ok (b_ok hg.1.2.2.1), if_neg ne10, zb_ok ins]
  by_cases z : 1 ∈ S
  · rw [if_pos z, if_pos z, if_neg ne10]
  · rw [if_neg z, if_neg z, if_pos rfl]
theorem h_den.congr {A : q_R} {c c' : List Nat} {x : Int32} (h : h_den A c x) (e : c = c') : h_den A c' x := e ▸ h
theorem j_fac {o n : Nat} {T : Nat → Nat} {c A : q_R} (hT : ∀ k, T k < 256) (hn : n ≤ 200) (hA : A 1 = Int32.ofNat (q_N A)) (hN : q_N A ≤ 24) : ∀ d, h_FAC o n T c A d
  | 0 => fun p q k f h M N S0 C h7 h6 => by omega
  | d + 1 => fun p q k f h M N S0 C h7 h6 hg hQ hl hS hdp hd hf hh => by
    have hF := j_fac (o := o) (n := n) (T := T) (c := c) hT hn hA hN d
    have hE := j_tes hT hn hA hN (j_con hT hn hA hN hF)
    obtain ⟨h, rfl⟩ : ∃ k, h = k + 1 := ⟨h - 1, by omega⟩
    have hqn := hg.le.1
    have w25 : F_Tokens_isWord o 25 M = _ := (j_isWord (j := 25) hT (by decide) hg).1
    have ht := (x_to_le hg.le.1 (fun g => (hg.le.2.2 g).1))
    have lrep : (List.replicate k 23).length = k := List.length_replicate
    have hop : ∀ s, ((s = 23 ∧ v_is T n q 25) ∨ (s = 1 ∧ ¬ v_is T n q 25 ∧ s_is T n q 40)) → ∃ x M', F_QueryReader_readFactor_J24 o (F_QR o (d + 1)).1 (F_QR o (d + 1)).2 (Int32.ofNat p) M = some (x, M') ∧ c_ks o M M' ∧ (h_bad o M' N (h_A (o + 548) f (h + 1) N) ∨ h_gF o n T A q k S0 C x M' N (h_A (o + 548) f (h + 1) N)) := fun s hs => by
      have hq : q < n := by
        rcases hs with z | z
        · exact z.2.1
        · exact z.2.2.1
      have hs1 : s = 1 ∨ s = 23 := by omega
      rw [m_open hT hg hs]
      unfold F_QueryReader_readFactor_J24 F_QueryReader_readOpened
      by_cases hp : p < 6
      · rw [if_pos (show Int32.ofNat p < (6 : Int32) from (i_lt (b := 6) (by omega) (by decide)).mpr hp), zb_ok w25]
        obtain ⟨N1, e1, q1, s1⟩ := m_goesIn hQ (by omega) (by omega) hs1
        obtain ⟨M2, N2, e2, f2, hg2, c2, d2⟩ := j_next hT (hg.st s1)
        have hq2 := ht.2.2.1 hq
        rw [zb_ok e2, e1, zb_ok f2, zb2_ok rfl, if_neg ne10, i_succ]
        have l2 : (S0 ++ List.replicate k 23 ++ [s]).length + C.length ≤ x_to T n q := by
          rw [List.length_append]
          show _ + 1 + _ ≤ _
          omega
        have dep2 : h_dep (S0 ++ List.replicate k 23 ++ [s]) = p + 1 := by
          rw [h_dep_app, hdp]
          show p + ((if s = 1 ∨ s = 23 then 1 else 0) + 0) = _
          rw [if_pos hs1]
        have eA : zb (F_Model_comparisonRead_L0 (o + 548) h N2) (h_then (o + 548) f) = h_A (o + 548) f h N2 := rfl
        rw [eA]
        have kk := s1.kq.tr d2.kq
        rcases hs with ⟨rfl, hv⟩ | ⟨rfl, hv, hsg⟩
        · -- not
          have es : S0 ++ List.replicate k 23 ++ [23] = S0 ++ List.replicate (k + 1) 23 := by
            rw [List.replicate_succ', List.append_assoc]
          rw [es] at q1 l2 dep2
          obtain ⟨x, M3, e3, c3, h3⟩ := hF (p + 1) (x_to T n q) (k + 1) f h M2 N2 S0 C (by omega) (by omega) hg2 (q1.ks d2) l2 hS dep2 (hd.ks c2) (by omega) (by omega)
          rw [if_pos hv, if_neg ne10, zb2_ok (show (F_QR o (d + 1)).2 (Int32.ofNat (p + 1)) M2 = some (x, M3) from e3), zb2_ok rfl]
          refine ⟨_, _, rfl, c2.tr c3, ?_⟩
          rcases h3 with hb | ⟨N', q', c', f', g', hq', a1, a2, a3, a4, a5, a6, a7, a8⟩
          · exact Or.inl (hb.kq kk)
          · have ec : C ++ c' ++ List.replicate (k + 1) 23 = C ++ (c' ++ [23]) ++ List.replicate k 23 := by
              rw [List.replicate_succ]
              simp
            rw [ec] at a3 a4
            exact Or.inr ⟨N', q', c' ++ [23], f', g', by omega, a1, a2, a3, a4, a5.not hN, a6.app (fun z hz => by
              rw [List.mem_singleton.mp hz]
              unfold h_okc
              omega), kk.tr a7, a8⟩
        · -- (
          obtain ⟨x, M3, e3, c3, h3⟩ := hE (p + 1) (x_to T n q) f h M2 N2 (S0 ++ List.replicate k 23 ++ [1]) C (by omega) (by omega) hg2 (q1.ks d2) l2 (h_stop.snoc (by decide)) dep2 (hd.ks c2) (by omega) (by omega)
          rw [if_neg hv, if_pos rfl, zb2_ok (show (F_QR o (d + 1)).1 (Int32.ofNat (p + 1)) M2 = some (x, M3) from e3)]
          rcases h3 with hb | ⟨N', q', P, c', f', g', hq', a1, a2, a3, a4, aP, a5, a6, a7, a8, a9, a24, a23⟩
          · obtain ⟨M4, e4, c4⟩ := t_sign o 41 M3
            rw [zb_ok e4, zb2_ok rfl]
            exact ⟨_, _, rfl, c2.tr (c3.tr c4), Or.inl ((hb.kq kk).ks c4)⟩
          · rw [a1]
            unfold F_Tokens_takeSign
            rcases j_isSign (b := 41) hT (by decide) a2 with ⟨y, -, -, y3, y4⟩ | ⟨y, -, y2, y3⟩
            · obtain ⟨M5, N5, g5, e5, eR5, hg5, hQ5, hl5, hq5, c5, k5, hg5f⟩ := m_shut (f := f') (g := g') hT hn a2 y a3 a4 aP hS a9
              rw [if_pos y3, if_pos (show M3.1 (o + 499) 10 = (41 : Int32) from y4), zb_ok e5, zb_ok rfl, zb2_ok rfl, eR5]
              have ec : C ++ c' ++ P.reverse ++ List.replicate k 23 = C ++ (c' ++ P.reverse) ++ List.replicate k 23 := by simp
              rw [ec] at hQ5 hl5
              exact ⟨_, _, rfl, c2.tr (c3.tr c5), Or.inr ⟨N5, x_to T n q', c' ++ P.reverse, f', g5, by omega, rfl, hg5, hQ5, hl5, a5, a6.app aP.ok, kk.tr (a7.tr k5), by omega, hg5f⟩⟩
            · obtain ⟨M5, N5, e5, f5, hb5, c5, d5⟩ := j_fail (e := 1) (by decide) a2
              have j23 : F_Tokens_takeSign_J23 o M3 = some M5 := by
                unfold F_Tokens_takeSign_J23
                rw [zb_ok e5]
              have eS : (if M3.1 (o + 499) 9 = 3 then (if M3.1 (o + 499) 10 = 41 then zb (F_Tokens_next o M3) fun M1 => some M1 else F_Tokens_takeSign_J23 o M3) else F_Tokens_takeSign_J23 o M3) = some M5 := by
                by_cases z : M3.1 (o + 499) 9 = 3
                · rw [if_pos z, if_neg (show ¬ M3.1 (o + 499) 10 = (41 : Int32) from fun z2 => y3 ⟨z, z2⟩)]
                  exact j23
                · rw [if_neg z]
                  exact j23
              rw [zb_ok eS, zb2_ok rfl, m_unshut hT a2 a3 (Or.inl y2) a24 a23 a8 a9, if_pos (by simp)]
              unfold F_Model_reads_J145 F_Model_reads_J151
              rw [zb2_ok f5, zb_ok (b_settles hb5.n _)]
              exact ⟨_, _, rfl, c2.tr (c3.tr c5), Or.inl ⟨N5, rfl, hb5, kk.tr (a7.tr d5.kq)⟩⟩
      · have hp6 : p = 6 := by omega
        rw [if_neg (show ¬ Int32.ofNat p < (6 : Int32) from fun z => hp ((i_lt (b := 6) (by omega) (by decide)).mp z))]
        obtain ⟨M8, N8, e8, f8, hb8, c8, d8⟩ := j_fail (e := 3) (by decide) hg
        rw [zb_ok e8, zb2_ok rfl, m_goesIn6 hQ (by omega) f8, zb2_ok rfl, if_pos rfl, zb_ok rfl, h_then_b hb8.n]
        exact ⟨_, _, rfl, c8, Or.inl ⟨N8, rfl, hb8, d8.kq⟩⟩
    unfold F_QueryReader_readFactor
    rw [zb_ok w25]
    by_cases hv : v_is T n q 25
    · rw [if_pos hv, if_neg ne10]
      exact hop 23 (Or.inl ⟨rfl, hv⟩)
    · rw [if_neg hv, if_pos rfl]
      rcases j_isSign (b := 40) hT (by decide) hg with ⟨y, y1, y2, -⟩ | ⟨y, y1, y2, -⟩
      · rw [zb_ok (show F_Tokens_isSign o 40 M = some 1 from y1), if_neg ne10]
        exact hop 1 (Or.inr ⟨rfl, hv, y⟩)
      · rw [zb_ok (show F_Tokens_isSign o 40 M = some 0 from y1), if_pos rfl]
        -- a comparison
        have w25m : F_Model_isWord (o + 548) 10631 N = _ := (j_isWord (j := 25) hT (by decide) hg).2
        have eU : F_Model_comparisonRead_L0 (o + 548) (h + 1) N = F_Model_comparisonRead_B0 (o + 548) (F_Model_comparisonRead_L0 (o + 548) h) N := rfl
        have eR : h_A (o + 548) f (h + 1) N = zb (zb (F_Model_valueRead (o + 548) N) fun M3 => h_clm (o + 548) M3) (h_then (o + 548) f) := by
          unfold h_A
          rw [eU]
          unfold F_Model_comparisonRead_B0
          rw [zb_ok w25m, if_neg hv, if_pos rfl, zb_ok (show F_Model_isByte (o + 548) 40 N = some 0 from y2), if_pos rfl]
          rfl
        rw [eR]
        obtain ⟨x4, M3, N3, e3, f3, c3, k3, h3⟩ := j_value hT hg hQ hl hn
        rw [zb2_ok e3, zb_ok f3]
        have eC : ∀ (X : z_Mem), (zb (F_Tokens_isSign o 60 X) fun x5 => zb (F_Tokens_isSign o 62 X) fun x6 => if x5 = 0 then (if x6 = 0 then zb (F_Tokens_isSign o 61 X) fun x7 => if x7 = 0 then zb (F_Tokens_fail o 1 X) fun M8 => F_QueryReader_readFactor_J85 o (F_QR o (d + 1)).1 (F_QR o (d + 1)).2 x4 x5 x6 M8 else F_QueryReader_readFactor_J85 o (F_QR o (d + 1)).1 (F_QR o (d + 1)).2 x4 x5 x6 X else F_QueryReader_readFactor_J85 o (F_QR o (d + 1)).1 (F_QR o (d + 1)).2 x4 x5 x6 X) else F_QueryReader_readFactor_J85 o (F_QR o (d + 1)).1 (F_QR o (d + 1)).2 x4 x5 x6 X) = h_cls o (F_QR o (d + 1)).1 (F_QR o (d + 1)).2 x4 X := fun X => rfl
        rw [eC]
        rcases h3 with hb | ⟨q3, k1, hq3, hqn3, hg3, hQ3, hop1⟩
        · obtain ⟨x, M', e, cc⟩ := t_cls hA (F_QR o (d + 1)).1 (F_QR o (d + 1)).2 x4 (hd.ks c3)
          rw [b_clm hb.n, zb_ok rfl, h_then_b hb.n]
          exact ⟨x, M', e, c3.tr cc, Or.inl ⟨N3, rfl, hb.c cc, k3⟩⟩
        · obtain ⟨y, M4, N4, e4, f4, c4, k4, h4⟩ := j_rel (F_QR o (d + 1)).1 (F_QR o (d + 1)).2 hT hA (hd.ks c3) hg3 hQ3 (by omega) hn hop1
          rw [f4, zb_ok rfl]
          refine ⟨y, M4, e4, c3.tr c4, ?_⟩
          rcases h4 with hb | ⟨q4, k2, rel, hq4, hg4, hQ4, hden, hok⟩
          · rw [h_then_b hb.n]
            exact Or.inl ⟨N4, rfl, hb, k3.tr k4⟩
          · have hq4n := hg4.le.1
            have l4 : (C ++ [k1, k2, rel]).length = C.length + 3 := by rw [List.length_append]; rfl
            have l0 : (S0 ++ List.replicate k 23).length = S0.length + k := by rw [List.length_append, lrep]
            obtain ⟨N5, e5, q5, s5⟩ := m_settles (k := 3) (S := S0) (P := List.replicate k 23) (by omega) (by omega) hS (fun s hs => by rw [List.eq_of_mem_replicate hs]; decide) hQ4 hg4.1.2.2.1 (by omega)
            rw [List.reverse_replicate] at q5
            unfold h_then F_Model_closes
            rw [zb_ok (b_ok hg4.1.2.2.1), if_neg ne10, zb_ok (show F_Model_settles (o + 548) 3 N4 = some N5 from e5)]
            exact Or.inr ⟨N5, q4, [k1, k2, rel], f, 10000, by omega, rfl, hg4.st s5, q5, by
              rw [List.length_append, l4, lrep]
              omega, hden, hok, k3.tr (k4.tr s5.kq), by omega, by omega⟩
