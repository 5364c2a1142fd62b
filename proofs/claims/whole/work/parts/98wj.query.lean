/-! ===== PURE: query ===== -/
theorem t_count {o : Nat} {M : z_Mem} {c A : q_R} (hd : c_desk M (o + 5) c A) (hA : A 1 = Int32.ofNat (q_N A)) (v x : Int32) : ∀ (d k f : Nat) (w : Int32), k + d = q_N A → d < f → ∃ b, F_QueryReader_readQuery_L51 o f v x w (Int32.ofNat k) M = some (b, M) := by
  have hN := hd.1.2
  have h4 : M.1 (o + 5) 4 = Int32.ofNat (q_N A) := hd.2.2.2.2.2.1.trans hA
  intro d
  induction d with
  | zero =>
    intro k f w hk hf
    obtain ⟨f, rfl⟩ : ∃ g, f = g + 1 := ⟨f - 1, by omega⟩
    unfold F_QueryReader_readQuery_L51 F_QueryReader_readQuery_B51 F_QueryReader_readQuery_J118
    rw [h4, if_pos ((i_le (by omega) (by omega)).mpr (by omega))]
    by_cases hv : v = 0
    · rw [if_pos hv]
      exact ⟨_, rfl⟩
    · rw [if_neg hv]
      exact ⟨_, rfl⟩
  | succ d ih =>
    intro k f w hk hf
    obtain ⟨f, rfl⟩ : ∃ g, f = g + 1 := ⟨f - 1, by omega⟩
    have eU : F_QueryReader_readQuery_L51 o (f + 1) v x w (Int32.ofNat k) M = F_QueryReader_readQuery_B51 o (F_QueryReader_readQuery_L51 o f) v x w (Int32.ofNat k) M := rfl
    have J110 : ∀ s0, ∃ b, F_QueryReader_readQuery_J110 o (F_QueryReader_readQuery_L51 o f) v x (Int32.ofNat k) s0 w M = some (b, M) := fun s0 => by
      unfold F_QueryReader_readQuery_J110
      rw [zl_eq, zl_eq, i_succ]
      exact ih (k + 1) f _ (by omega) (by omega)
    have J99 : ∀ s0, ∃ b, F_QueryReader_readQuery_J99 o (F_QueryReader_readQuery_L51 o f) v x w (Int32.ofNat k) s0 M = some (b, M) := fun s0 => by
      unfold F_QueryReader_readQuery_J99
      by_cases hs : s0 = 0
      · rw [if_pos hs]
        exact J110 _
      · rw [if_neg hs]
        exact J110 _
    have J85 : ∀ s0, ∃ b, F_QueryReader_readQuery_J85 o (F_QueryReader_readQuery_L51 o f) v x w (Int32.ofNat k) s0 M = some (b, M) := fun s0 => by
      unfold F_QueryReader_readQuery_J85
      by_cases hs : s0 = 0
      · rw [if_pos hs]
        exact J99 _
      · rw [if_neg hs]
        by_cases hv : v = 0
        · rw [if_pos hv]
          exact J99 _
        · rw [if_neg hv]
          exact ⟨_, rfl⟩
    rw [eU]
    unfold F_QueryReader_readQuery_B51
    rw [h4, if_neg (i_nle (by omega) (by omega) (by omega)), if_neg (show ¬ (24 : Int32) ≤ Int32.ofNat k from i_nle (a := 24) (by decide) (by omega) (by omega))]
    by_cases hb : ((x >>> (Int32.ofNat k &&& 31)) &&& 1) = 1
    · rw [if_pos hb]
      exact J85 _
    · rw [if_neg hb]
      exact J85 _
/-- the rides are counted, or the first is found: both -/
theorem j_count {o : Nat} {M : z_Mem} {s : q_S} {S C : List Nat} {x : Int32} {c : q_R} (hd : c_desk M (o + 5) c s.2.1) (hA : s.2.1 1 = Int32.ofNat (q_N s.2.1)) (hden : h_den s.2.1 C x) (hok : h_okl C) (v : Int32) : ∀ (d k f g : Nat) (w : Int32) (N : z_Mem), k + d = q_N s.2.1 → d < f → d < g → m_all (o + 548) N s → y_Q (o + 548) N S C → ∃ b N', F_QueryReader_readQuery_L51 o f v x w (Int32.ofNat k) M = some (b, M) ∧ F_Model_query_L90 (o + 548) g v w (Int32.ofNat k) N = some (b, N') ∧ n_st (o + 548) N N' := by
  have hN := hd.1.2
  have h4 : M.1 (o + 5) 4 = Int32.ofNat (q_N s.2.1) := hd.2.2.2.2.2.1.trans hA
  intro d
  induction d with
  | zero =>
    intro k f g w N hk hf hgf hm hQ
    obtain ⟨f, rfl⟩ : ∃ j, f = j + 1 := ⟨f - 1, by omega⟩
    obtain ⟨g, rfl⟩ : ∃ j, g = j + 1 := ⟨g - 1, by omega⟩
    have e1 : N.1 (o + 548 + 1) (1 : Int32).toNatClampNeg = Int32.ofNat (q_N s.2.1) := (m_at hm (k := 1) (by decide)).trans hA
    unfold F_QueryReader_readQuery_L51 F_QueryReader_readQuery_B51 F_QueryReader_readQuery_J118 F_Model_query_L90 F_Model_query_B90
    rw [h4, if_pos ((i_le (by omega) (by omega)).mpr (by omega)), if_pos (show z_inb (1 : Int32) 581 by decide), e1, if_pos ((i_le (by omega) (by omega)).mpr (by omega))]
    by_cases hv : v = 0
    · rw [if_pos hv, if_pos hv]
      exact ⟨_, _, rfl, rfl, n_st.rfl'⟩
    · rw [if_neg hv, if_neg hv]
      exact ⟨_, _, rfl, rfl, n_st.rfl'⟩
  | succ d ih =>
    intro k f g w N hk hf hgf hm hQ
    obtain ⟨f, rfl⟩ : ∃ j, f = j + 1 := ⟨f - 1, by omega⟩
    obtain ⟨g, rfl⟩ : ∃ j, g = j + 1 := ⟨g - 1, by omega⟩
    have e1 : N.1 (o + 548 + 1) (1 : Int32).toNatClampNeg = Int32.ofNat (q_N s.2.1) := (m_at hm (k := 1) (by decide)).trans hA
    have eU : F_QueryReader_readQuery_L51 o (f + 1) v x w (Int32.ofNat k) M = F_QueryReader_readQuery_B51 o (F_QueryReader_readQuery_L51 o f) v x w (Int32.ofNat k) M := rfl
    have eV : F_Model_query_L90 (o + 548) (g + 1) v w (Int32.ofNat k) N = F_Model_query_B90 (o + 548) (F_Model_query_L90 (o + 548) g) v w (Int32.ofNat k) N := rfl
    obtain ⟨N1, e2, s1, hm1, hQ1⟩ := m_holds (r := k) (by omega) hok hm hQ (hden k (by omega) [])
    rw [eU, eV]
    unfold F_QueryReader_readQuery_B51 F_QueryReader_readQuery_J85 F_QueryReader_readQuery_J99 F_QueryReader_readQuery_J110 F_Model_query_B90
    rw [h4, if_neg (i_nle (by omega) (by omega) (by omega)), if_neg (show ¬ (24 : Int32) ≤ Int32.ofNat k from i_nle (a := 24) (by decide) (by omega) (by omega)), if_pos (show z_inb (1 : Int32) 581 by decide), e1, if_neg (i_nle (by omega) (by omega) (by omega)), zb2_ok e2]
    have nx : ∀ w', ∃ b N', F_QueryReader_readQuery_L51 o f v x w' (Int32.ofNat (k + 1)) M = some (b, M) ∧ F_Model_query_L90 (o + 548) g v w' (Int32.ofNat (k + 1)) N1 = some (b, N') ∧ n_st (o + 548) N N' := fun w' => by
      obtain ⟨b, N', a1, a2, a3⟩ := ih (k + 1) f g w' N1 (by omega) (by omega) (by omega) hm1 hQ1
      exact ⟨b, N', a1, a2, s1.tr a3⟩
    have hbt := h_b_test x (show k < 24 by omega)
    unfold h_bit
    by_cases hb : h_b x k = true
    · rw [if_pos (hbt.mpr hb), if_neg ne10, if_pos hb, if_pos (show (1 : Int32) = 1 from rfl), if_neg ne10]
      by_cases hv : v = 0
      · rw [if_pos hv, if_neg ne10, if_pos hv, zl_eq, zl_eq, zl_eq, zl_eq, i_succ]
        exact nx _
      · rw [if_neg hv, if_neg hv]
        exact ⟨_, _, rfl, rfl, s1⟩
    · rw [if_neg (fun z => hb (hbt.mp z)), if_pos rfl, if_pos rfl, if_neg hb, if_neg (show ¬ (0 : Int32) = 1 by decide), if_pos (show (0 : Int32) = 0 from rfl), zl_eq, zl_eq, zl_eq, i_succ, Int32.add_zero]
      exact nx _
/-- the reference's query behind its start -/
def h_refQ (m : Nat) (N : z_Mem) : Option (Int32 × z_Mem) := zb2 (F_Model_passes m 3379448 N) fun x8 M7 => if x8 = 0 then (zb2 (F_Model_passes m 257011 M7) fun x10 M9 => if x10 = 0 then (zb2 (F_Model_wrongs m 1 M9) fun x12 M11 => F_Model_query_J65 m x8 M11) else F_Model_query_J65 m x8 M9) else F_Model_query_J65 m x8 M7
theorem m_all.kq {m : Nat} {N N' : z_Mem} {s : q_S} (h : m_all m N s) (hk : n_kq m N N') (h31 : N'.1 m 31 = N.1 m 31) : m_all m N' s := h.scr (fun k hk' => by
  by_cases h3 : k = 31
  · rw [h3]
    exact h31
  · exact hk.2.1 k (by omega) (by omega)) (fun j h1 h2 => hk.1 (m + j) (by omega) (by omega))
/-- what a query leaves: an error told by both, or the same answer -/
def h_outQ (o : Nat) (b r : Int32) (M' N' : z_Mem) : Prop := (z_b o M' N' ∧ r = -1000000000 - N'.1 (o + 548) 30) ∨ ((M'.1 (o + 499) 0 = 0 ∧ M'.1 (o + 499) 1 = -1 ∧ N'.1 (o + 548) 30 = 0 ∧ N'.1 (o + 548) 31 = -1) ∧ r = b)
theorem b_j65 {m : Nat} {N : z_Mem} (v : Int32) (h : N.1 m 30 ≠ 0) : ∃ N', F_Model_query_J65 m v N = some (-1000000000 - N'.1 m 30, N') ∧ n_st m N N' := by
  obtain ⟨N3, eN⟩ : ∃ N3, N3 = z_wI (z_wI (z_wI N m 51 0) m 53 0) m 52 0 := ⟨_, rfl⟩
  have s3 : n_st m N N3 := by
    rw [eN]
    exact (n_st.s (by omega)).tr ((n_st.s (by omega)).tr (n_st.s (by omega)))
  have h3 : N3.1 m 30 ≠ 0 := by
    rw [s3.2.1 30 (by omega)]
    exact h
  refine ⟨N3, ?_, s3⟩
  have eU : F_Model_reads_L20 m 10000 0 N3 = F_Model_reads_B20 m (F_Model_reads_L20 m 9999) 0 N3 := rfl
  have er : F_Model_reads m N = some N3 := by
    unfold F_Model_reads
    rw [zl_eq, zl_eq, zl_eq, ← eN, zb_ok (b_good h3), eU]
    unfold F_Model_reads_B20 F_Model_reads_J151
    rw [if_pos rfl, zb_ok (b_good h3), if_pos rfl, zb_ok (b_settles h3 _)]
  unfold F_Model_query_J65
  rw [zb_ok er, zb_ok (b_good h3), if_pos rfl]
/-- the class from the test on, whatever its state -/
theorem t_j21 {o : Nat} {M : z_Mem} {c A : q_R} (hd : c_desk M (o + 5) c A) (hA : A 1 = Int32.ofNat (q_N A)) (v : Int32) : ∃ b M', F_QueryReader_readQuery_J21 o v M = some (b, M') ∧ c_ks o M M' := by
  have hN := hd.1.2
  obtain ⟨x, M3, e3, c3⟩ := t_tes (t_con (t_fac (o := o) (c := c) hA 7)) 0 M (by omega) (by omega) hd
  have hm : ∃ y, F_Tokens_hasMore o M3 = some y := by
    unfold F_Tokens_hasMore
    split
    · split <;> exact ⟨_, rfl⟩
    · exact ⟨_, rfl⟩
  obtain ⟨y, ey⟩ := hm
  unfold F_QueryReader_readQuery_J21 F_QueryReader_readQuery_J46
  rw [zb2_ok (show (F_QR o 8).1 0 M = some (x, M3) from e3), zb_ok ey]
  by_cases hy : y = 0
  · rw [if_pos hy]
    obtain ⟨b, e⟩ := t_count (hd.ks c3) hA v x (q_N A) 0 10000 0 (by omega) (by omega)
    exact ⟨b, M3, e, c3⟩
  · rw [if_neg hy]
    obtain ⟨M6, e6, c6⟩ := t_fail o 1 M3
    obtain ⟨b, e⟩ := t_count ((hd.ks c3).ks c6) hA v x (q_N A) 0 10000 0 (by omega) (by omega)
    rw [zb_ok e6]
    exact ⟨b, M6, e, c3.tr c6⟩
/-- the test and what it finds -/
theorem j_j21 {o n q : Nat} {M N : z_Mem} {T : Nat → Nat} {s : q_S} {c : q_R} (hT : ∀ k, T k < 256) (hn : n ≤ 200) (hg : z_g o M N T n q) (hd : c_desk M (o + 5) c s.2.1) (hA : s.2.1 1 = Int32.ofNat (q_N s.2.1)) (hm : m_all (o + 548) N s) (v : Int32) : ∃ b r M' N', F_QueryReader_readQuery_J21 o v M = some (b, M') ∧ F_Model_query_J65 (o + 548) v N = some (r, N') ∧ c_ks o M M' ∧ n_kq (o + 548) N N' ∧ h_outQ o b r M' N' := by
  have hN := hd.1.2
  obtain ⟨N3, eN⟩ : ∃ N3, N3 = z_wI (z_wI (z_wI N (o + 548) 51 0) (o + 548) 53 0) (o + 548) 52 0 := ⟨_, rfl⟩
  have s3 : n_st (o + 548) N N3 := by
    rw [eN]
    exact (n_st.s (by omega)).tr ((n_st.s (by omega)).tr (n_st.s (by omega)))
  have hQ3 : y_Q (o + 548) N3 [] [] := by
    rw [eN]
    refine ⟨(w_slot _ (by decide)).trans ((w_slot _ (by decide)).trans (w_same _ _ _ _)), w_same _ _ _ _, (w_slot _ (by decide)).trans (w_same _ _ _ _), fun k s hk => (by cases hk), fun k s hk => (by cases hk), fun s hs => (List.not_mem_nil hs).elim, Nat.zero_le _, Nat.zero_le _, Nat.zero_le _⟩
  have hg3 := hg.st s3
  have hF := j_fac (o := o) (n := n) (T := T) (c := c) hT hn hA hN 7
  obtain ⟨x, M4, e4, c4, h4⟩ := j_tes hT hn hA hN (j_con hT hn hA hN hF) 0 q 9999 10000 M N3 [] [] (by omega) (by omega) hg3 hQ3 (Nat.zero_le _) (fun S0 s e => by cases S0 <;> cases e) rfl hd (by have := hg.le.2.1; omega) (by have := hg.le.2.1; omega)
  have e4' : (F_QR o 8).1 0 M = some (x, M4) := e4
  have er : F_Model_reads (o + 548) N = h_A (o + 548) 9999 10000 N3 := by
    unfold F_Model_reads
    rw [zl_eq, zl_eq, zl_eq, ← eN, zb_ok (b_ok hg3.1.2.2.1)]
    exact m_L20 ne10
  unfold F_QueryReader_readQuery_J21 F_QueryReader_readQuery_J46 F_Model_query_J65
  rw [zb2_ok e4', er]
  have bad : ∀ M5 N5, z_b o M5 N5 → c_ks o M M5 → n_kq (o + 548) N N5 → ∃ b r M' N', F_QueryReader_readQuery_L51 o 10000 v x 0 0 M5 = some (b, M') ∧ (zb (some N5) fun M13 => zb (F_Model_isGood (o + 548) M13) fun x14 => if x14 = 0 then some (((-1000000000) - (M13.1 (o + 548) 30)), M13) else F_Model_query_L90 (o + 548) 10000 v 0 0 M13) = some (r, N') ∧ c_ks o M M' ∧ n_kq (o + 548) N N' ∧ h_outQ o b r M' N' := fun M5 N5 hb cc kk => by
    obtain ⟨b, e⟩ := t_count (hd.ks cc) hA v x (q_N s.2.1) 0 10000 0 (by omega) (by omega)
    rw [zb_ok rfl, zb_ok (b_good hb.n), if_pos rfl]
    exact ⟨b, _, M5, N5, e, rfl, cc, kk, Or.inl ⟨hb, rfl⟩⟩
  rcases h4 with ⟨N5, eR, hb, k5⟩ | ⟨N5, q5, P, c5, f5, g5, hq5, eR, hg5, hQ5, hl5, hP5, hden5, hok5, k5, hf5, hgf5, h24, h23⟩
  · have hm0 : F_Tokens_hasMore o M4 = some 0 := by
      unfold F_Tokens_hasMore
      rw [if_neg hb.1]
    rw [zb_ok hm0, if_pos rfl, eR]
    exact bad M4 N5 hb c4 (s3.kq.tr k5)
  · have eP : ([] : List Nat) ++ P = P := rfl
    have eC : ([] : List Nat) ++ c5 = c5 := rfl
    rw [eP, eC] at hQ5 hl5
    have h1P : 1 ∉ P := fun z => by
      have := hP5.1 1 z
      omega
    have hend := hg5.end
    rw [eR, m_unshut hT hg5 hQ5 (Or.inr h1P) h24 h23 hf5 hgf5, if_neg h1P]
    by_cases hq : q5 < n
    · have hm1 : F_Tokens_hasMore o M4 = some 1 := by
        unfold F_Tokens_hasMore
        rw [if_pos hg5.1.1, if_neg (fun z => hend.1.mp z hq)]
      obtain ⟨M6, N6, e6, f6, hb6, c6, d6⟩ := j_fail (e := 1) (by decide) hg5
      rw [zb_ok hm1, if_neg ne10, zb_ok e6, if_neg (fun z => hend.2.mp z hq)]
      unfold F_Model_reads_J145 F_Model_reads_J151
      rw [zb2_ok f6, zb_ok (b_settles hb6.n _)]
      exact bad M6 N6 hb6 (c4.tr c6) (s3.kq.tr (k5.tr d6.kq))
    · have hm0 : F_Tokens_hasMore o M4 = some 0 := by
        unfold F_Tokens_hasMore
        rw [if_pos hg5.1.1, if_pos (hend.1.mpr hq)]
      rw [zb_ok hm0, if_pos rfl, if_pos (hend.2.mpr hq)]
      have hqn := hg5.le.1
      obtain ⟨N6, e6, q6, s6⟩ := m_settles (k := 1) (S := []) (P := P) (by omega) (by omega) (fun S0 s e => by cases S0 <;> cases e) hP5.str hQ5 hg5.1.2.2.1 (by omega)
      have kk := s3.kq.tr (k5.tr s6.kq)
      have n31 : N6.1 (o + 548) 31 = -1 := (s6.2.1 31 (by omega)).trans hg5.1.2.2.2
      have n30 : N6.1 (o + 548) 30 = 0 := (s6.2.1 30 (by omega)).trans hg5.1.2.2.1
      obtain ⟨b, N7, e7, f7, s7⟩ := j_count (o := o) (M := M4) (hd.ks c4) hA hden5 (hok5.app hP5.ok) v (q_N s.2.1) 0 10000 10000 0 N6 (by omega) (by omega) (by omega) (hm.kq kk (n31.trans hg.1.2.2.2.symm)) q6
      unfold F_Model_reads_J151
      rw [zb_ok (show F_Model_settles (o + 548) 1 N5 = some N6 from e6), zb_ok rfl, zb_ok (b_ok n30), if_neg ne10]
      exact ⟨b, b, M4, N7, e7, f7, c4, kk.tr s7.kq, Or.inr ⟨⟨hg5.1.1, hg5.1.2.1, (s7.2.1 30 (by omega)).trans n30, (s7.2.1 31 (by omega)).trans n31⟩, rfl⟩⟩
theorem j_query {o n q : Nat} {M N : z_Mem} {T : Nat → Nat} {s : q_S} {c : q_R} (hT : ∀ k, T k < 256) (hn : n ≤ 200) (hg : z_g o M N T n q) (hd : c_desk M (o + 5) c s.2.1) (hA : s.2.1 1 = Int32.ofNat (q_N s.2.1)) (hm : m_all (o + 548) N s) : ∃ b r M' N', F_QueryReader_readQuery o M = some (b, M') ∧ h_refQ (o + 548) N = some (r, N') ∧ c_ks o M M' ∧ n_kq (o + 548) N N' ∧ h_outQ o b r M' N' := by
  have p22 : F_Model_passes (o + 548) 3379448 N = _ := j_passes (j := 22) hT (by decide) hg
  have p21 : F_Model_passes (o + 548) 257011 N = _ := j_passes (j := 21) hT (by decide) hg
  unfold F_QueryReader_readQuery h_refQ
  rw [p22]
  rcases j_takeWord (a := 21) (b := 22) hT (by decide) (by decide) hg with ⟨j, M1, N1, h1, h2, hv, hq, e1, f1, hg1, c1, d1⟩ | ⟨M1, N1, hno, e1, f1, hb1, c1, d1⟩
  · have hm1 := hm.kq d1.kq (hg1.1.2.2.2.trans hg.1.2.2.2.symm)
    rw [zb2_ok (show F_Tokens_takeWord o 21 22 M = some (Int32.ofNat j, M1) from e1)]
    rcases (show j = 21 ∨ j = 22 by omega) with rfl | rfl
    · obtain ⟨b, r, M', N', e, f, cc, kk, ho⟩ := j_j21 hT hn hg1 (hd.ks c1) hA hm1 0
      rw [if_neg (show ¬ Int32.ofNat 21 = (22 : Int32) by decide), if_neg (fun z => absurd (v_is.one (by decide) (by decide) z hv) (by decide)), zb2_ok rfl, if_pos rfl, p21, if_pos hv, zb_ok f1, zb2_ok rfl, if_neg ne10]
      exact ⟨b, r, M', N', e, f, c1.tr cc, d1.kq.tr kk, ho⟩
    · obtain ⟨b, r, M', N', e, f, cc, kk, ho⟩ := j_j21 hT hn hg1 (hd.ks c1) hA hm1 1
      rw [if_pos (show Int32.ofNat 22 = (22 : Int32) from rfl), if_pos hv, zb_ok f1, zb2_ok rfl, if_neg ne10]
      exact ⟨b, r, M', N', e, f, c1.tr cc, d1.kq.tr kk, ho⟩
  · obtain ⟨b, M', e, cc⟩ := t_j21 (hd.ks c1) hA 0
    obtain ⟨N', f, s'⟩ := b_j65 0 hb1.n
    rw [zb2_ok (show F_Tokens_takeWord o 21 22 M = some (-1, M1) from e1), if_neg (show ¬ (-1 : Int32) = 22 by decide), if_neg (hno 22 (by decide) (by decide)), zb2_ok rfl, if_pos rfl, p21, if_neg (hno 21 (by decide) (by decide)), zb2_ok rfl, if_pos rfl, zb2_ok f1]
    exact ⟨b, _, M', N', e, f, c1.tr cc, d1.kq.tr s'.kq, Or.inl ⟨(hb1.c cc).st s', rfl⟩⟩
/-! query, both -/
theorem l_query {o : Nat} {M N : z_Mem} {s : q_S} (hI : q_Inv s) (hc : c_all o M s) (hm : m_all (o + 548) N s) (p0 : Int32) : ∃ s' y, (q_Inv s' ∧ ∀ e, y = .error e → e = 2) ∧ c_does o M s' y (F_Sys_query o p0 M) ∧ m_does o N s' y q_c1 (F_Model_query (o + 548) p0 N) := by
  have hbuf := hc.2.2.2.2.1
  have hmb := hm.2.2.2.2.1
  obtain ⟨b0, b1, b2⟩ := hbuf
  obtain ⟨L, hL⟩ : ∃ L, L = s.2.2.2.2.1.2 := ⟨_, rfl⟩
  have e23 : (z_wI N (o + 548) 0 0).1 (o + 548) 23 = Int32.ofNat L := by
    rw [hL]
    exact (w_slot _ (by decide)).trans hmb.1
  have b1' : M.1 o 1 = Int32.ofNat L := by
    rw [hL]
    exact b1
  have hL8 : L ≤ 800 := by
    rw [hL]
    exact b0
  have eless : F_Model_lesser (Int32.ofNat L) 200 (z_wI N (o + 548) 0 0) = some (Int32.ofNat (min L 200)) := by
    unfold F_Model_lesser
    by_cases h : 200 ≤ L
    · rw [if_pos (show (200 : Int32) ≤ Int32.ofNat L from (i_le (a := 200) (by decide) (by omega)).mpr h), Nat.min_eq_right h]
      rfl
    · rw [if_neg (show ¬ (200 : Int32) ≤ Int32.ofNat L from i_nle (a := 200) (by decide) (by omega) (by omega)), Nat.min_eq_left (by omega)]
  have m0 := p_infx (β := Int32 × z_Mem) (o + 548) p0 0 (Int32.ofNat (min L 200)) 1 (z_wI N (o + 548) 0 0) (lo := 0) (hi := (Int32.ofNat (min L 200)).toInt64) (by decide) rfl
  unfold F_Sys_query F_Model_query
  rw [zl_eq, zl_eq, e23, zb_ok eless, m0, b1']
  have bad : ∃ s' y, (q_Inv s' ∧ ∀ e, y = .error e → e = 2) ∧ c_does o M s' y (F_Sys_query_J19 o M) ∧ m_does o N s' y q_c1 (if (1 : Int32) = 0 then zb (F_Model_starts (o + 548) p0 (z_wI (z_wI N (o + 548) 0 0) (o + 548) 0 1)) fun M6 => h_refQ (o + 548) M6 else some (0, z_wI (z_wI N (o + 548) 0 0) (o + 548) 0 1)) := by
    refine ⟨s, .error 2, ⟨hI, fun e he => by cases he; rfl⟩, ⟨M, rfl, hc, q_C.rfl'⟩, ?_⟩
    rw [if_neg (by decide)]
    exact ⟨0, _, rfl, (hm.thr 0).thr 1, q_M.thr.tr q_M.thr, w_same _ _ _ _, fun v hv => by cases hv⟩
  by_cases h1 : p0 < 0
  · rw [if_pos h1, if_pos (Or.inl h1)]
    exact bad
  obtain ⟨n, hn31, rfl⟩ := i_ex h1
  by_cases h200 : 200 < n
  · rw [if_neg h1, if_pos (show (200 : Int32) < Int32.ofNat n from (i_lt (a := 200) (by decide) hn31).mpr h200), if_pos (Or.inr ((i_lt (by omega) hn31).mpr (by omega)))]
    exact bad
  by_cases h2 : n ≤ L
  · rw [if_neg h1, if_neg (show ¬ (200 : Int32) < Int32.ofNat n from fun z => h200 ((i_lt (a := 200) (by decide) hn31).mp z)), if_pos ((i_le hn31 (by omega)).mpr h2), if_neg (fun k => by
      rcases k with k | k
      · exact h1 k
      · have := (i_lt (by omega) hn31).mp k
        omega), if_pos rfl]
    obtain ⟨T, hT, hTb, hTc⟩ := c_bytes ⟨b0, b1, b2⟩
    rw [← hL] at hTb hTc
    obtain ⟨M2, e2, a2, a0, a1, ax, al⟩ := c_begin (o := o) (M := z_wI M o 1 0) hT (show n ≤ 800 by omega) (fun k hk => by rw [w_addr _ (by omega)]; exact hTc k (by omega))
    obtain ⟨N2, eN2⟩ : ∃ N2, N2 = z_wI (z_wI (z_wI (z_wI (z_wI (z_wI N (o + 548) 0 0) (o + 548) 24 (Int32.ofNat n)) (o + 548) 23 0) (o + 548) 25 0) (o + 548) 30 0) (o + 548) 31 (-1) := ⟨_, rfl⟩
    have s2 : ∀ k, k ≠ 0 → k ≠ 23 → k ≠ 24 → k ≠ 25 → k ≠ 30 → k ≠ 31 → N2.1 (o + 548) k = N.1 (o + 548) k := fun k k0 k23 k24 k25 k30 k31 => by
      rw [eN2, w_slot _ k31, w_slot _ k30, w_slot _ k25, w_slot _ k23, w_slot _ k24, w_slot _ k0]
    have x2 : ∀ x, x ≠ o + 548 → N2.1 x = N.1 x := fun x hx => funext fun k => by
      rw [eN2, w_addr _ hx, w_addr _ hx, w_addr _ hx, w_addr _ hx, w_addr _ hx, w_addr _ hx]
    have n0 : N2.1 (o + 548) 0 = 0 := by
      rw [eN2, w_slot _ (by decide), w_slot _ (by decide), w_slot _ (by decide), w_slot _ (by decide), w_slot _ (by decide), w_same]
    have n24 : N2.1 (o + 548) 24 = Int32.ofNat n := by
      rw [eN2, w_slot _ (by decide), w_slot _ (by decide), w_slot _ (by decide), w_slot _ (by decide), w_same]
    have n23 : N2.1 (o + 548) 23 = 0 := by
      rw [eN2, w_slot _ (by decide), w_slot _ (by decide), w_slot _ (by decide), w_same]
    have n25 : N2.1 (o + 548) 25 = 0 := by
      rw [eN2, w_slot _ (by decide), w_slot _ (by decide), w_same]
    have n30 : N2.1 (o + 548) 30 = 0 := by
      rw [eN2, w_slot _ (by decide), w_same]
    have n31 : N2.1 (o + 548) 31 = -1 := by
      rw [eN2, w_same]
    have l2 : N2.2 = N.2 := by rw [eN2]; rfl
    have hb12 : ∀ k, k < n → N2.1 (o + 548 + 12) k = Int32.ofNat (T k) := fun k hk => by
      rw [x2 _ (by omega), hmb.2 k (by rw [← hL]; omega)]
      exact hTb k (by omega)
    obtain ⟨N3, e3, y3, nx⟩ := m_next (m := o + 548) (n := n) (p := 0) (N := N2) hT (by omega) ⟨n24, by omega, hb12⟩ n25
    have est : F_Model_starts (o + 548) (Int32.ofNat n) (z_wI N (o + 548) 0 0) = some N3 := by
      unfold F_Model_starts
      rw [zl_eq, zl_eq, zl_eq, zl_eq, zl_eq, ← eN2, zb_ok e3]
    have hg : z_g o M2 N3 T n (x_sk T n 0) := ⟨⟨a0, a1, (nx.2.1 30 (by omega)).trans n30, (nx.2.1 31 (by omega)).trans n31⟩, a2, ⟨(nx.2.1 24 (by omega)).trans n24, by omega, fun k hk => by rw [nx.1 _ (by omega)]; exact hb12 k hk⟩, y3⟩
    have kx2 : ∀ x, x ≠ o → (x < o + 499 ∨ o + 504 ≤ x) → M2.1 x = M.1 x := fun x h1 h2 => (ax x h2).trans (funext fun k => w_addr _ h1)
    have hd2 : c_desk M2 (o + 5) s.1 s.2.1 := hc.2.1.keep (fun x h1 h2 => kx2 x (by omega) (by omega))
    have hm3 : m_all (o + 548) N3 (q_eat s (-1)) := hm.eat ((nx.2.1 23 (by omega)).trans n23) ((nx.2.1 31 (by omega)).trans n31) (fun k hk => (nx.2.1 k (by omega)).trans (s2 k (by omega) (by omega) (by omega) (by omega) (by omega) (by omega))) (fun j hj => (nx.1 _ (by omega)).trans (x2 _ (by omega)))
    obtain ⟨b, r, M4, N4, e4, f4, c4, k4, ho⟩ := j_query (s := q_eat s (-1)) hT (by omega) hg hd2 hI.1.2.1.1.1 hm3
    have eref : (zb2 (F_Model_passes (o + 548) 3379448 N3) fun x8 M7 => if x8 = 0 then (zb2 (F_Model_passes (o + 548) 257011 M7) fun x10 M9 => if x10 = 0 then (zb2 (F_Model_wrongs (o + 548) 1 M9) fun x12 M11 => F_Model_query_J65 (o + 548) x8 M11) else F_Model_query_J65 (o + 548) x8 M9) else F_Model_query_J65 (o + 548) x8 M7) = some (r, N4) := f4
    rw [zb_ok e2, zb_ok est, eref, zb2_ok e4, zl_eq]
    -- what has been kept
    have h499 : ∀ k, (z_wI M4 o 2 (M4.1 (o + 499) 1)).1 (o + 499) k = M4.1 (o + 499) k := fun k => w_addr _ (by omega)
    have cA : c_all o (z_wI M4 o 2 (M4.1 (o + 499) 1)) (q_eat s (M4.1 (o + 499) 1)) := by
      have ko : M4.1 o = M2.1 o := c4.1 o (by omega)
      refine hc.eat ?_ (w_same _ _ _ _) (fun k hk => ?_) (fun x h1 h2 => ?_)
      · rw [w_slot _ (by decide), ko, ax o (by omega)]
        exact w_same _ _ _ _
      · rw [w_slot _ (by omega), ko, ax o (by omega)]
        exact w_slot _ (by omega)
      · exact (funext fun k => w_addr _ h1).trans ((c4.1 x (by omega)).trans (kx2 x h1 (by omega)))
    have qC : q_C o M (z_wI M4 o 2 (M4.1 (o + 499) 1)) := fun x hx => by
      have hx : o + 548 ≤ x ∧ x < o + 573 := hx
      exact ⟨(funext fun k => w_addr _ (by omega)).trans ((c4.1 x (by omega)).trans (kx2 x (by omega) (by omega))), congrFun (c4.2.2.1.trans al) x⟩
    have ns : ∀ k, (k < 25 ∨ 32 ≤ k) → (k < 51 ∨ 54 ≤ k) → N4.1 (o + 548) k = N2.1 (o + 548) k := fun k h1 h2 => (k4.2.1 k h1 h2).trans (nx.2.1 k (by omega))
    have nk : ∀ x, x ≠ o + 548 → (x < o + 548 + 22 ∨ o + 548 + 25 ≤ x) → N4.1 x = N.1 x := fun x h1 h2 => (k4.1 x h1 h2).trans ((nx.1 x h1).trans (x2 x h1))
    have nl : ∀ x k, x ≠ o + 548 ∨ k ≠ 29 → N4.2 x k = N.2 x k := fun x k h => (k4.2.2 x k h).trans ((nx.2.2 x k h).trans (by rw [l2]))
    have n4z : N4.1 (o + 548) 0 = 0 := (ns 0 (by omega) (by omega)).trans n0
    have q4 : q_M o N N4 := fun x hx => by
      have hx : (o ≤ x ∧ x < o + 548) ∨ x = o + 573 := hx
      exact ⟨nk x (by omega) (by omega), funext fun k => nl x k (by omega)⟩
    have mA : ∀ v, N4.1 (o + 548) 31 = v → m_all (o + 548) N4 (q_eat s v) := fun v hv => hm.eat ((ns 23 (by omega) (by omega)).trans n23) hv (fun k hk => (ns k (by omega) (by omega)).trans (s2 k (by omega) (by omega) (by omega) (by omega) (by omega) (by omega))) (fun j hj => nk _ (by omega) (by omega))
    rcases ho with ⟨hb, hr⟩ | ⟨⟨g0, g1, g30, g31⟩, hr⟩
    · rw [h499, if_neg hb.1]
      refine ⟨q_eat s (M4.1 (o + 499) 1), .ok (-1000000000 - M4.1 (o + 499) 0), ⟨hI.eat _, fun e he => by cases he⟩, ⟨_, rfl, cA, qC⟩, r, N4, rfl, mA _ hb.2.2, q4, n4z, fun v hv => ?_⟩
      rw [hr, hb.2.1]
      exact Except.ok.inj hv
    · rw [h499, if_pos g0]
      rw [g1] at cA
      refine ⟨q_eat s (-1), .ok b, ⟨hI.eat _, fun e he => by cases he⟩, ⟨_, rfl, ?_, qC⟩, r, N4, rfl, mA _ g31, q4, n4z, fun v hv => ?_⟩
      · rw [g1]
        exact cA
      · rw [hr]
        exact Except.ok.inj hv
  · rw [if_neg h1, if_neg (show ¬ (200 : Int32) < Int32.ofNat n from fun z => h200 ((i_lt (a := 200) (by decide) hn31).mp z)), if_neg (fun k => h2 ((i_le hn31 (by omega)).mp k)), if_pos (Or.inr ((i_lt (by omega) hn31).mpr (by omega)))]
    exact bad
theorem a_query {o L : Nat} {S : Nat → Int32} {i : Int32} {M : z_Mem} {s : q_S} {c : z_Mem → Option (Int32 × z_Mem)} (hI : q_Inv s) (hc : c_all o M s) (hm : m_all (o + 548) M s) (h1 : z_inb (i + (1 : Int32)) L) : ∃ M' s', Fc_2100 o L S i M c = c M' ∧ c_all o M' s' ∧ m_all (o + 548) M' s' ∧ q_Inv s' := by
  unfold Fc_2100 F_LW_query
  rw [if_pos h1]
  simp only [if_pos h1]
  refine k_joint (cd := q_c1) (FM := fun N => F_Model_query (o + 548) (S (i + 1).toNatClampNeg) N) q_c1n hm (fun N hN => ?_)
  obtain ⟨s', y, ⟨hP, he2⟩, h2, h3⟩ := l_query hI hc hN (S (i + 1).toNatClampNeg)
  refine ⟨s', y, hP, l_of h2 (fun e M1 he => ?_), h3⟩
  rw [he2 e he, if_neg (by decide)]
  rfl
