/-! ===== PURE: query: tests, both ===== -/
/-- the reference from behind a closed test on; with brackets still to close; from a comparison on -/
def h_rest (m f : Nat) (N : z_Mem) : Option z_Mem := zb (F_Model_isWord m 1111 N) fun x10 => if x10 = 0 then zb (F_Model_isWord m 423 N) fun x11 => if x11 = 0 then F_Model_reads_J71 m (F_Model_reads_L20 m f) 0 N else F_Model_reads_J71 m (F_Model_reads_L20 m f) 25 N else F_Model_reads_J71 m (F_Model_reads_L20 m f) 24 N
def h_L (m f g : Nat) (N : z_Mem) : Option z_Mem := zb (F_Model_closes_L5 m g N) (h_rest m f)
def h_then (m f : Nat) (M7 : z_Mem) : Option z_Mem := zb (F_Model_isGood m M7) fun x8 => if x8 = 0 then some M7 else zb (F_Model_closes m M7) (h_rest m f)
def h_A (m f h : Nat) (N : z_Mem) : Option z_Mem := zb (F_Model_comparisonRead_L0 m h N) (h_then m f)
theorem m_L20 {m f : Nat} {v : Int32} {N : z_Mem} (hv : v ≠ 0) : F_Model_reads_L20 m (f + 1) v N = h_A m f 10000 N := by
  have eU : F_Model_reads_L20 m (f + 1) v N = F_Model_reads_B20 m (F_Model_reads_L20 m f) v N := rfl
  rw [eU]
  unfold F_Model_reads_B20
  rw [if_neg hv]
  rfl
/-- an operator goes on the stack -/
theorem y_Q.op {m s : Nat} {N : z_Mem} {S C : List Nat} (h : y_Q m N S C) (hs : s = 24 ∨ s = 25) (hl : S.length < 200) : y_Q m (z_wI (z_wI N (m + 23) S.length (Int32.ofNat s)) m 52 (Int32.ofNat (S.length + 1))) (S ++ [s]) C := by
  obtain ⟨h51, h52, h53, hc, hS, hm, l1, l2, l3⟩ := h
  have ld : h_dep (S ++ [s]) = h_dep S := by
    rw [h_dep_app]
    show h_dep S + ((if s = 1 ∨ s = 23 then 1 else 0) + 0) = _
    rw [if_neg (by omega)]
    rfl
  have ll : (S ++ [s]).length = S.length + 1 := by rw [List.length_append]; rfl
  refine ⟨?_, ?_, ?_, fun j v hj => ?_, fun j v hj => ?_, fun v hv => ?_, by omega, l2, by omega⟩
  · rw [w_slot _ (by decide), w_addr _ (by omega)]; exact h51
  · rw [w_same, ll]
  · rw [w_slot _ (by decide), w_addr _ (by omega), ld]; exact h53
  · rw [w_addr _ (by omega), w_addr _ (by omega)]; exact hc j v hj
  · rw [w_addr _ (by omega)]
    rcases l_snoc hj with ⟨g1, g2⟩ | ⟨g1, g2⟩
    · rw [w_slot _ (by omega)]
      exact hS j v g2
    · rw [g1, w_same, g2]
  · rcases List.mem_append.mp hv with g | g
    · exact hm v g
    · rw [List.mem_singleton.mp g]
      omega
/-- no bracket is closed here -/
theorem m_L5_no {m g : Nat} {N : z_Mem} (h : F_Model_isByte m 41 N = some 0) : F_Model_closes_L5 m (g + 1) N = some N := by
  unfold F_Model_closes_L5 F_Model_closes_B5
  rw [zb_ok h, if_pos rfl]
theorem v_is.sign {T : Nat → Nat} {n q j b : Nat} (h : v_is T n q j) : ¬ s_is T n q b := fun z => by
  have a := z.2.1
  have b := h.2.1
  omega
/-- the reference at an operator of strength k: what is above goes, the operator is pushed, the next comparison begins -/
theorem j_operator {o n q k s j f g : Nat} {M N : z_Mem} {T : Nat → Nat} {S P C : List Nat} (hT : ∀ k, T k < 256) (hg : z_g o M N T n q) (hn : n ≤ 200) (hv : v_is T n q j) (hs : (s = 24 ∧ j = 24 ∧ k = 2) ∨ (s = 25 ∧ j = 23 ∧ k = 1)) (hQ : y_Q (o + 548) N (S ++ P) C) (hl : (S ++ P).length + C.length ≤ q) (hst : h_stop k S) (hp : ∀ s, s ∈ P → k ≤ h_str s) (hf : n - q < f) (hgf : n - q < g) : ∃ M' N' f', F_Tokens_next o M = some M' ∧ h_L (o + 548) f g N = h_A (o + 548) f' 10000 N' ∧ z_g o M' N' T n (x_to T n q) ∧ y_Q (o + 548) N' (S ++ [s]) (C ++ P.reverse) ∧ q < x_to T n q ∧ c_ks o M M' ∧ n_kq (o + 548) N N' ∧ n - x_to T n q < f' := by
  obtain ⟨f, rfl⟩ : ∃ k, f = k + 1 := ⟨f - 1, by omega⟩
  obtain ⟨g, rfl⟩ : ∃ k, g = k + 1 := ⟨g - 1, by omega⟩
  have hq := hv.1
  have lSP : (S ++ P).length = S.length + P.length := List.length_append
  obtain ⟨N1, e1, q1, s1⟩ := m_settles (k := k) (by omega) (by omega) hst hp hQ hg.1.2.2.1 (by omega)
  obtain ⟨N2, eN2⟩ : ∃ N2, N2 = z_wI (z_wI N1 (o + 548 + 23) S.length (Int32.ofNat s)) (o + 548) 52 (Int32.ofNat (S.length + 1)) := ⟨_, rfl⟩
  have q2 : y_Q (o + 548) N2 (S ++ [s]) (C ++ P.reverse) := by
    rw [eN2]
    exact q1.op (by omega) (by omega)
  have s2 : n_st (o + 548) N1 N2 := by
    rw [eN2]
    exact (n_st.w (by omega)).tr (n_st.s (by omega))
  obtain ⟨M3, N3, e3, f3, hg3, c3, d3⟩ := j_next hT ((hg.st s1).st s2)
  have ht := (x_to_le hg.le.1 (fun g => (hg.le.2.2 g).1)).2.2.1 hq
  have b41 : F_Model_isByte (o + 548) 41 N = some 0 := by
    rcases j_isSign (b := 41) hT (by decide) hg with ⟨z, -⟩ | ⟨-, -, z, -⟩
    · exact absurd z hv.sign
    · exact z
  have w24 : F_Model_isWord (o + 548) 1111 N = _ := (j_isWord (j := 24) hT (by decide) hg).2
  have w23 : F_Model_isWord (o + 548) 423 N = _ := (j_isWord (j := 23) hT (by decide) hg).2
  have J71 : F_Model_reads_J71 (o + 548) (F_Model_reads_L20 (o + 548) (f + 1)) (Int32.ofNat s) N = h_A (o + 548) f 10000 N3 := by
    have hs0 : ¬ Int32.ofNat s = 0 := i_ne0 (by omega) (by omega)
    have hst' : F_Model_strength (Int32.ofNat s) N = some (Int32.ofNat k) := by
      rw [m_strength (by omega)]
      rcases hs with ⟨rfl, -, rfl⟩ | ⟨rfl, -, rfl⟩ <;> rfl
    unfold F_Model_reads_J71 F_Model_reads_J81
    rw [if_neg hs0, if_neg ne10, zb_ok hst', zb_ok e1, q1.2.1, if_pos ((i_inb (by omega)).mpr (by omega)), i_cl (by omega), zl_eq, w_addr _ (show o + 548 ≠ o + 548 + 23 by omega), q1.2.1, zl_eq, i_succ, ← eN2, zb_ok f3]
    exact m_L20 ne10
  refine ⟨M3, N3, f, e3, ?_, hg3, q2.ks d3, ht, c3, s1.kq.tr (s2.kq.tr d3.kq), by omega⟩
  unfold h_L
  rw [zb_ok (m_L5_no b41)]
  unfold h_rest
  rcases hs with ⟨rfl, rfl, rfl⟩ | ⟨rfl, rfl, rfl⟩
  · rw [zb_ok w24, if_pos hv, if_neg ne10]
    exact J71
  · rw [zb_ok w24, if_neg (fun z => absurd (v_is.one (by decide) (by decide) z hv) (by decide)), if_pos rfl, zb_ok w23, if_pos hv, if_neg ne10]
    exact J71
/-! what comes out of a factor, a conjunction, a test -/
def h_okl (c : List Nat) : Prop := ∀ k, k ∈ c → h_okc k
theorem h_okl.app {c d : List Nat} (h : h_okl c) (h' : h_okl d) : h_okl (c ++ d) := fun k hk => by
  rcases List.mem_append.mp hk with g | g
  · exact h k g
  · exact h' k g
def h_bad (o : Nat) (M' N : z_Mem) (R : Option z_Mem) : Prop := ∃ N', R = some N' ∧ z_b o M' N' ∧ n_kq (o + 548) N N'
def h_gF (o n : Nat) (T : Nat → Nat) (A : q_R) (q k : Nat) (S0 C : List Nat) (x : Int32) (M' N : z_Mem) (R : Option z_Mem) : Prop := ∃ N' q' c f' g', q < q' ∧ R = h_L (o + 548) f' g' N' ∧ z_g o M' N' T n q' ∧ y_Q (o + 548) N' S0 (C ++ c ++ List.replicate k 23) ∧ S0.length + (C ++ c ++ List.replicate k 23).length ≤ q' ∧ h_den A c x ∧ h_okl c ∧ n_kq (o + 548) N N' ∧ n - q' < f' ∧ n - q' < g'
def h_gP (o n : Nat) (T : Nat → Nat) (A : q_R) (q : Nat) (S C : List Nat) (W : List Nat → Prop) (j : Nat) (x : Int32) (M' N : z_Mem) (R : Option z_Mem) : Prop := ∃ N' q' P c f' g', q ≤ q' ∧ R = h_L (o + 548) f' g' N' ∧ z_g o M' N' T n q' ∧ y_Q (o + 548) N' (S ++ P) (C ++ c) ∧ (S ++ P).length + (C ++ c).length ≤ q' ∧ W P ∧ h_den A (c ++ P.reverse) x ∧ h_okl c ∧ n_kq (o + 548) N N' ∧ n - q' < f' ∧ n - q' < g' ∧ ¬ v_is T n q' 24 ∧ ¬ v_is T n q' j
def h_PC (P : List Nat) : Prop := P = [] ∨ P = [24]
def h_PT (P : List Nat) : Prop := (∀ s, s ∈ P → s = 24 ∨ s = 25) ∧ h_dep P = 0
theorem h_PC.T {P : List Nat} (h : h_PC P) : h_PT P := by
  rcases h with rfl | rfl
  · exact ⟨fun s hs => (List.not_mem_nil hs).elim, rfl⟩
  · exact ⟨fun s hs => Or.inl (List.mem_singleton.mp hs), rfl⟩
theorem h_PT.str {P : List Nat} (h : h_PT P) : ∀ s, s ∈ P → 1 ≤ h_str s := fun s hs => by
  rcases h.1 s hs with rfl | rfl <;> decide
theorem h_PC.str {P : List Nat} (h : h_PC P) : ∀ s, s ∈ P → 2 ≤ h_str s := fun s hs => by
  rcases h with rfl | rfl
  · cases hs
  · rw [List.mem_singleton.mp hs]
    decide
theorem h_PT.ok {P : List Nat} (h : h_PT P) : h_okl P.reverse := fun k hk => by
  have := h.1 k (List.mem_reverse.mp hk)
  unfold h_okc
  omega
theorem h_stop.snoc {k s : Nat} {S : List Nat} (h : h_str s < k) : h_stop k (S ++ [s]) := fun S0 s' e => by
  have := List.append_inj' e rfl
  rw [← List.singleton_inj.mp this.2]
  exact h
theorem h_stop.le {k k' : Nat} {S : List Nat} (h : h_stop k S) (hk : k ≤ k') : h_stop k' S := fun S0 s e => Nat.lt_of_lt_of_le (h S0 s e) hk
/-- the class's reading of factors, tests at depth d of its unfolding -/
def h_FAC (o n : Nat) (T : Nat → Nat) (c A : q_R) (d : Nat) : Prop := ∀ (p q k f h : Nat) (M N : z_Mem) (S0 C : List Nat), 7 ≤ p + d → p ≤ 6 → z_g o M N T n q → y_Q (o + 548) N (S0 ++ List.replicate k 23) C → (S0 ++ List.replicate k 23).length + C.length ≤ q → h_stop 3 S0 → h_dep (S0 ++ List.replicate k 23) = p → c_desk M (o + 5) c A → n - q < f → n - q < h → ∃ x M', F_QueryReader_readFactor o (F_QR o d).1 (F_QR o d).2 (Int32.ofNat p) M = some (x, M') ∧ c_ks o M M' ∧ (h_bad o M' N (h_A (o + 548) f h N) ∨ h_gF o n T A q k S0 C x M' N (h_A (o + 548) f h N))
def h_CON (o n : Nat) (T : Nat → Nat) (c A : q_R) (d : Nat) : Prop := ∀ (p q f h : Nat) (M N : z_Mem) (S C : List Nat), 7 ≤ p + d → p ≤ 6 → z_g o M N T n q → y_Q (o + 548) N S C → S.length + C.length ≤ q → h_stop 2 S → h_dep S = p → c_desk M (o + 5) c A → n - q < f → n - q < h → ∃ x M', F_QueryReader_readConjunction o (F_QR o d).1 (F_QR o d).2 (Int32.ofNat p) M = some (x, M') ∧ c_ks o M M' ∧ (h_bad o M' N (h_A (o + 548) f h N) ∨ h_gP o n T A q S C h_PC 24 x M' N (h_A (o + 548) f h N))
def h_TES (o n : Nat) (T : Nat → Nat) (c A : q_R) (d : Nat) : Prop := ∀ (p q f h : Nat) (M N : z_Mem) (S C : List Nat), 7 ≤ p + d → p ≤ 6 → z_g o M N T n q → y_Q (o + 548) N S C → S.length + C.length ≤ q → h_stop 1 S → h_dep S = p → c_desk M (o + 5) c A → n - q < f → n - q < h → ∃ x M', F_QueryReader_readTest o (F_QR o d).1 (F_QR o d).2 (Int32.ofNat p) M = some (x, M') ∧ c_ks o M M' ∧ (h_bad o M' N (h_A (o + 548) f h N) ∨ h_gP o n T A q S C h_PT 23 x M' N (h_A (o + 548) f h N))
/-! the class alone, whatever its state -/
def h_tF (o : Nat) (c A : q_R) (d : Nat) : Prop := ∀ (p : Nat) (M : z_Mem), 7 ≤ p + d → p ≤ 6 → c_desk M (o + 5) c A → ∃ x M', F_QueryReader_readFactor o (F_QR o d).1 (F_QR o d).2 (Int32.ofNat p) M = some (x, M') ∧ c_ks o M M'
def h_tC (o : Nat) (c A : q_R) (d : Nat) : Prop := ∀ (p : Nat) (M : z_Mem), 7 ≤ p + d → p ≤ 6 → c_desk M (o + 5) c A → ∃ x M', F_QueryReader_readConjunction o (F_QR o d).1 (F_QR o d).2 (Int32.ofNat p) M = some (x, M') ∧ c_ks o M M'
def h_tT (o : Nat) (c A : q_R) (d : Nat) : Prop := ∀ (p : Nat) (M : z_Mem), 7 ≤ p + d → p ≤ 6 → c_desk M (o + 5) c A → ∃ x M', F_QueryReader_readTest o (F_QR o d).1 (F_QR o d).2 (Int32.ofNat p) M = some (x, M') ∧ c_ks o M M'
theorem t_conL {o d p : Nat} {c A : q_R} (h : h_tF o c A d) (h7 : 7 ≤ p + d) (h6 : p ≤ 6) : ∀ (r v f : Nat) (x : Int32) (M : z_Mem), v + r = 200 → r < f → c_desk M (o + 5) c A → ∃ y M', F_QueryReader_readConjunction_L8 o (F_QR o d).1 (F_QR o d).2 f (Int32.ofNat p) x (Int32.ofNat v) M = some (y, M') ∧ c_ks o M M' := by
  intro r
  induction r with
  | zero =>
    intro v f x M hv hf hd
    obtain ⟨f, rfl⟩ : ∃ g, f = g + 1 := ⟨f - 1, by omega⟩
    refine ⟨x, M, ?_, c_ks.rfl'⟩
    unfold F_QueryReader_readConjunction_L8 F_QueryReader_readConjunction_B8
    rw [if_pos (show (200 : Int32) ≤ Int32.ofNat v from (i_le (a := 200) (by decide) (by omega)).mpr (by omega))]
  | succ r ih =>
    intro v f x M hv hf hd
    obtain ⟨f, rfl⟩ : ∃ g, f = g + 1 := ⟨f - 1, by omega⟩
    have eU : F_QueryReader_readConjunction_L8 o (F_QR o d).1 (F_QR o d).2 (f + 1) (Int32.ofNat p) x (Int32.ofNat v) M = F_QueryReader_readConjunction_B8 o (F_QR o d).1 (F_QR o d).2 (F_QueryReader_readConjunction_L8 o (F_QR o d).1 (F_QR o d).2 f) (Int32.ofNat p) x (Int32.ofNat v) M := rfl
    obtain ⟨x3, e3⟩ := t_isWord o 24 M
    rw [eU]
    unfold F_QueryReader_readConjunction_B8
    rw [if_neg (show ¬ (200 : Int32) ≤ Int32.ofNat v from i_nle (a := 200) (by decide) (by omega) (by omega)), zb_ok e3]
    by_cases h3 : x3 = 0
    · rw [if_pos h3]
      exact ⟨x, M, rfl, c_ks.rfl'⟩
    · rw [if_neg h3]
      obtain ⟨M4, e4, c4⟩ := t_next o M
      obtain ⟨x6, M5, e5, c5⟩ := h p M4 h7 h6 (hd.ks c4)
      obtain ⟨y, M', e, cc⟩ := ih (v + 1) f (x &&& x6) M5 (by omega) (by omega) ((hd.ks c4).ks c5)
      rw [zb_ok e4, zb2_ok e5, zl_eq, zl_eq, i_succ]
      exact ⟨y, M', e, c4.tr (c5.tr cc)⟩
theorem t_con {o d : Nat} {c A : q_R} (h : h_tF o c A d) : h_tC o c A d := fun p M h7 h6 hd => by
  obtain ⟨x, M1, e1, c1⟩ := h p M h7 h6 hd
  obtain ⟨y, M', e, cc⟩ := t_conL h h7 h6 200 0 10000 x M1 rfl (by omega) (hd.ks c1)
  unfold F_QueryReader_readConjunction
  rw [zb2_ok e1]
  exact ⟨y, M', e, c1.tr cc⟩
theorem t_tesL {o d p : Nat} {c A : q_R} (h : h_tC o c A d) (h7 : 7 ≤ p + d) (h6 : p ≤ 6) : ∀ (r v f : Nat) (x : Int32) (M : z_Mem), v + r = 200 → r < f → c_desk M (o + 5) c A → ∃ y M', F_QueryReader_readTest_L8 o (F_QR o d).1 (F_QR o d).2 f (Int32.ofNat p) x (Int32.ofNat v) M = some (y, M') ∧ c_ks o M M' := by
  intro r
  induction r with
  | zero =>
    intro v f x M hv hf hd
    obtain ⟨f, rfl⟩ : ∃ g, f = g + 1 := ⟨f - 1, by omega⟩
    refine ⟨x, M, ?_, c_ks.rfl'⟩
    unfold F_QueryReader_readTest_L8 F_QueryReader_readTest_B8
    rw [if_pos (show (200 : Int32) ≤ Int32.ofNat v from (i_le (a := 200) (by decide) (by omega)).mpr (by omega))]
  | succ r ih =>
    intro v f x M hv hf hd
    obtain ⟨f, rfl⟩ : ∃ g, f = g + 1 := ⟨f - 1, by omega⟩
    have eU : F_QueryReader_readTest_L8 o (F_QR o d).1 (F_QR o d).2 (f + 1) (Int32.ofNat p) x (Int32.ofNat v) M = F_QueryReader_readTest_B8 o (F_QR o d).1 (F_QR o d).2 (F_QueryReader_readTest_L8 o (F_QR o d).1 (F_QR o d).2 f) (Int32.ofNat p) x (Int32.ofNat v) M := rfl
    obtain ⟨x3, e3⟩ := t_isWord o 23 M
    rw [eU]
    unfold F_QueryReader_readTest_B8
    rw [if_neg (show ¬ (200 : Int32) ≤ Int32.ofNat v from i_nle (a := 200) (by decide) (by omega) (by omega)), zb_ok e3]
    by_cases h3 : x3 = 0
    · rw [if_pos h3]
      exact ⟨x, M, rfl, c_ks.rfl'⟩
    · rw [if_neg h3]
      obtain ⟨M4, e4, c4⟩ := t_next o M
      obtain ⟨x6, M5, e5, c5⟩ := h p M4 h7 h6 (hd.ks c4)
      obtain ⟨y, M', e, cc⟩ := ih (v + 1) f (x ||| x6) M5 (by omega) (by omega) ((hd.ks c4).ks c5)
      rw [zb_ok e4, zb2_ok e5, zl_eq, zl_eq, i_succ]
      exact ⟨y, M', e, c4.tr (c5.tr cc)⟩
theorem t_tes {o d : Nat} {c A : q_R} (h : h_tC o c A d) : h_tT o c A d := fun p M h7 h6 hd => by
  obtain ⟨x, M1, e1, c1⟩ := h p M h7 h6 hd
  obtain ⟨y, M', e, cc⟩ := t_tesL h h7 h6 200 0 10000 x M1 rfl (by omega) (hd.ks c1)
  unfold F_QueryReader_readTest
  rw [zb2_ok e1]
  exact ⟨y, M', e, c1.tr cc⟩
theorem t_fac {o : Nat} {c A : q_R} (hA : A 1 = Int32.ofNat (q_N A)) : ∀ d, h_tF o c A d
  | 0 => fun p M h7 h6 hd => by omega
  | d + 1 => fun p M h7 h6 hd => by
    have hF := t_fac (o := o) (c := c) hA d
    have hT := t_tes (t_con hF)
    obtain ⟨x1, e1⟩ := t_isWord o 25 M
    obtain ⟨x2, e2⟩ := t_isSign o 40 M
    have op : ∃ x M', F_QueryReader_readFactor_J24 o (F_QR o (d + 1)).1 (F_QR o (d + 1)).2 (Int32.ofNat p) M = some (x, M') ∧ c_ks o M M' := by
      unfold F_QueryReader_readFactor_J24 F_QueryReader_readOpened
      by_cases hp : p < 6
      · rw [if_pos (show Int32.ofNat p < (6 : Int32) from (i_lt (b := 6) (by omega) (by decide)).mpr hp), zb_ok e1]
        obtain ⟨M2, e3, c3⟩ := t_next o M
        rw [zb_ok e3, i_succ]
        by_cases h1 : x1 = 0
        · rw [if_pos h1]
          obtain ⟨x, M4, e4, c4⟩ := hT (p + 1) M2 (by omega) (by omega) (hd.ks c3)
          obtain ⟨M5, e5, c5⟩ := t_sign o 41 M4
          rw [zb2_ok (show (F_QR o (d + 1)).1 (Int32.ofNat (p + 1)) M2 = some (x, M4) from e4), zb_ok e5, zb2_ok rfl]
          exact ⟨_, _, rfl, c3.tr (c4.tr c5)⟩
        · rw [if_neg h1]
          obtain ⟨x, M4, e4, c4⟩ := hF (p + 1) M2 (by omega) (by omega) (hd.ks c3)
          rw [zb2_ok (show (F_QR o (d + 1)).2 (Int32.ofNat (p + 1)) M2 = some (x, M4) from e4), zb2_ok rfl]
          exact ⟨_, _, rfl, c3.tr c4⟩
      · rw [if_neg (show ¬ Int32.ofNat p < (6 : Int32) from fun z => hp ((i_lt (b := 6) (by omega) (by decide)).mp z))]
        obtain ⟨M8, e8, c8⟩ := t_fail o 3 M
        rw [zb_ok e8, zb2_ok rfl]
        exact ⟨_, _, rfl, c8⟩
    unfold F_QueryReader_readFactor
    rw [zb_ok e1]
    by_cases h1 : x1 = 0
    · rw [if_pos h1, zb_ok e2]
      by_cases h2 : x2 = 0
      · rw [if_pos h2]
        obtain ⟨x4, M3, e4, c4⟩ := t_value o M
        obtain ⟨x, M', e, cc⟩ := t_cls hA (F_QR o (d + 1)).1 (F_QR o (d + 1)).2 x4 (hd.ks c4)
        rw [zb2_ok e4]
        exact ⟨x, M', e, c4.tr cc⟩
      · rw [if_neg h2]
        exact op
    · rw [if_neg h1]
      exact op
