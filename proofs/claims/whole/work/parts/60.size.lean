/-! ===== PURE: sums over the taxis; size ===== -/
def s_sum (A : q_R) (w : Nat) : Nat → Nat → Int32 → Int32
  | 0, _, acc => acc
  | k + 1, i, acc => s_sum A w k (i + 1) (acc + A (13 + 40 * i + w))
theorem a_sum_m {m : Nat} {N : z_Mem} {s : q_S} (hI : q_I s) (hm : m_all m N s) (w : Nat) (hw : w < 40) : ∀ (k i f : Nat) (acc : Int32), i + k = q_T s.1 → k < f → F_Model_sumOf_L4 m f (Int32.ofNat w) acc (Int32.ofNat i) N = some (s_sum s.2.1 w k i acc) := by
  have hT := hI.taxis4
  intro k
  induction k with
  | zero =>
    intro i f acc hi hf
    obtain ⟨f, rfl⟩ : ∃ g, f = g + 1 := ⟨f - 1, by omega⟩
    unfold F_Model_sumOf_L4 F_Model_sumOf_B4
    rw [m_taxis hI hm, if_pos ((i_le (by omega) (by omega)).mpr (by omega))]
    rfl
  | succ k ih =>
    intro i f acc hi hf
    obtain ⟨f, rfl⟩ : ∃ g, f = g + 1 := ⟨f - 1, by omega⟩
    unfold F_Model_sumOf_L4 F_Model_sumOf_B4
    have h1 : ¬ Int32.ofNat (q_T s.1) ≤ Int32.ofNat i := fun q => by
      have := (i_le (by omega) (by omega)).mp q
      omega
    rw [m_taxis hI hm, if_neg h1, zb_ok (m_in2 hm (by omega) hw)]
    simp only [zl, i_succ]
    exact ih (i + 1) f _ (by omega) (by omega)
theorem a_stops_c {M : z_Mem} {d : Nat} {c A : q_R} (hd : c_desk M d c A) (hT' : c 66 = Int32.ofNat (q_T c)) : ∀ (k i f : Nat) (acc : Int32), i + k = q_T c → k < f → F_Desk_stopsInAllRoutes_L4 d f acc (Int32.ofNat i) M = some (s_sum A 11 k i acc) := by
  have hT := hd.1.1
  intro k
  induction k with
  | zero =>
    intro i f acc hi hf
    obtain ⟨f, rfl⟩ : ∃ g, f = g + 1 := ⟨f - 1, by omega⟩
    unfold F_Desk_stopsInAllRoutes_L4 F_Desk_stopsInAllRoutes_B4
    rw [hd.2.2.2.2.1, hT', if_pos ((i_le (by omega) (by omega)).mpr (by omega))]
    rfl
  | succ k ih =>
    intro i f acc hi hf
    obtain ⟨f, rfl⟩ : ∃ g, f = g + 1 := ⟨f - 1, by omega⟩
    unfold F_Desk_stopsInAllRoutes_L4 F_Desk_stopsInAllRoutes_B4
    have h1 : ¬ Int32.ofNat (q_T c) ≤ Int32.ofNat i := fun q => by
      have := (i_le (by omega) (by omega)).mp q
      omega
    have h2 : ¬ (4 : Int32) ≤ Int32.ofNat i := fun q => by
      have := (i_le (a := 4) (by decide) (by omega)).mp q
      omega
    rw [hd.2.2.2.2.1, hT', if_neg h1, if_neg h2, if_pos ((i_inb (by omega)).mpr (by omega)), i_cl (by omega)]
    simp only [zl, i_succ]
    have e : M.1 (d + 4 + 3 * i) 7 = A (13 + 40 * i + 11) := ((hd.2.2.2.2.2.2.2.1 i (by omega)).2.2.2.2.2.2.2.1).trans (congrArg A (by omega))
    rw [e]
    exact ih (i + 1) f _ (by omega) (by omega)
def y_sum (c A : q_R) (w : Nat) : Int32 := s_sum A w (q_T c) 0 0
theorem a_sumOf {m : Nat} {N : z_Mem} {s : q_S} (hI : q_I s) (hm : m_all m N s) (w : Nat) {wl : Int32} (hw : w < 40) (hl : wl = Int32.ofNat w) : F_Model_sumOf m wl N = some (y_sum s.1 s.2.1 w) := by
  subst hl
  have hT := hI.taxis4
  exact a_sum_m hI hm w hw (q_T s.1) 0 10000 0 (by omega) (by omega)
theorem a_stopsAll {o : Nat} {M : z_Mem} {s : q_S} (hI : q_I s) (hc : c_all o M s) : F_Desk_stopsInAllRoutes (o + 5) M = some (y_sum s.1 s.2.1 11) := by
  have hT := hI.taxis4
  exact a_stops_c hc.2.1 hI.taxis (q_T s.1) 0 10000 0 (by omega) (by omega)
theorem z_pair {x y : Int32} {M : z_Mem} (h : x = y) : some (x, M) = some (y, M) := by rw [h]
def y_size (s : q_S) : Nat → Int32 := fun k => match k with
  | 0 => s.1 64
  | 1 => s.1 65
  | 2 => s.1 66
  | 3 => s.2.1 1
  | 4 => s.2.1 0
  | 5 => y_cnt s.2.1 0
  | 6 => y_sum s.1 s.2.1 11
  | 7 => s.1 67
  | _ => s.2.1 2
theorem a_size {o L : Nat} {S : Nat → Int32} {i : Int32} {M : z_Mem} {s : q_S} {c : z_Mem → Option (Int32 × z_Mem)} (hI : q_I s) (hc : c_all o M s) (hm : m_all (o + 548) M s) (h1 : z_inb (i + (1 : Int32)) L) : ∃ M', Fc_342 o L S i M c = c M' ∧ c_all o M' s ∧ m_all (o + 548) M' s := by
  generalize hp : S (i + 1).toNatClampNeg = p
  have z1 : z_inb 1 581 := by decide
  have z0 : z_inb 0 581 := by decide
  have z2 : z_inb 2 581 := by decide
  rcases q_split 9 (by omega) p with ⟨k, hk, rfl⟩ | hb
  · have gk := q_good (n := 9) (by omega) hk
    refine k_size (y := .ok (y_size s k)) q_c1n hm h1 (l_of' hc ?_ (fun e M1 he => by cases he)) (fun N hN => m_val hN rfl ?_)
    · rw [hp]
      unfold F_Sys_size
      rcases (show k = 0 ∨ k = 1 ∨ k = 2 ∨ k = 3 ∨ k = 4 ∨ k = 5 ∨ k = 6 ∨ k = 7 ∨ k = 8 by omega) with rfl | rfl | rfl | rfl | rfl | rfl | rfl | rfl | rfl
      · exact congrArg some (congrArg Except.ok hc.1.1)
      · exact congrArg some (congrArg Except.ok hc.1.2.1)
      · exact congrArg some (congrArg Except.ok hc.2.1.2.2.2.2.1)
      · exact congrArg some (congrArg Except.ok hc.2.1.2.2.2.2.2.1)
      · exact congrArg some (congrArg Except.ok hc.2.1.2.1)
      · exact zb_ok (a_cnt_c hI hc 0) _
      · exact zb_ok (a_stopsAll hI hc) _
      · exact congrArg some (congrArg Except.ok hc.2.1.2.2.1)
      · exact congrArg some (congrArg Except.ok hc.2.1.2.2.2.1)
    · rw [hp]
      unfold F_Model_size
      simp only [zl]
      rw [(p_upto (o + 548) 8 (Int32.ofNat k) 1 _ (by omega) (lo := 0) (hi := 8) (by decide) (by decide) _).2 gk, if_pos rfl]
      have hm0 := hN.thr 0
      rcases (show k = 0 ∨ k = 1 ∨ k = 2 ∨ k = 3 ∨ k = 4 ∨ k = 5 ∨ k = 6 ∨ k = 7 ∨ k = 8 by omega) with rfl | rfl | rfl | rfl | rfl | rfl | rfl | rfl | rfl
      · rw [if_pos (by decide : Int32.ofNat 0 = 0)]
        exact z_pair hm0.1.1
      · rw [if_neg (by decide : ¬ Int32.ofNat 1 = 0), if_pos (by decide : Int32.ofNat 1 = 1)]
        exact z_pair hm0.1.2.1
      · rw [if_neg (by decide : ¬ Int32.ofNat 2 = 0), if_neg (by decide : ¬ Int32.ofNat 2 = 1), if_pos (by decide : Int32.ofNat 2 = 2)]
        exact z_pair hm0.1.2.2.1
      · rw [if_neg (by decide : ¬ Int32.ofNat 3 = 0), if_neg (by decide : ¬ Int32.ofNat 3 = 1), if_neg (by decide : ¬ Int32.ofNat 3 = 2), if_pos (by decide : Int32.ofNat 3 = 3), if_pos z1]
        exact z_pair (m_at hm0 (k := 1) (by omega))
      · rw [if_neg (by decide : ¬ Int32.ofNat 4 = 0), if_neg (by decide : ¬ Int32.ofNat 4 = 1), if_neg (by decide : ¬ Int32.ofNat 4 = 2), if_neg (by decide : ¬ Int32.ofNat 4 = 3), if_pos (by decide : Int32.ofNat 4 = 4), if_pos z0]
        exact z_pair (m_at hm0 (k := 0) (by omega))
      · rw [if_neg (by decide : ¬ Int32.ofNat 5 = 0), if_neg (by decide : ¬ Int32.ofNat 5 = 1), if_neg (by decide : ¬ Int32.ofNat 5 = 2), if_neg (by decide : ¬ Int32.ofNat 5 = 3), if_neg (by decide : ¬ Int32.ofNat 5 = 4), if_pos (by decide : Int32.ofNat 5 = 5)]
        exact zb_ok (a_cnt_m hI hm0 0) _
      · rw [if_neg (by decide : ¬ Int32.ofNat 6 = 0), if_neg (by decide : ¬ Int32.ofNat 6 = 1), if_neg (by decide : ¬ Int32.ofNat 6 = 2), if_neg (by decide : ¬ Int32.ofNat 6 = 3), if_neg (by decide : ¬ Int32.ofNat 6 = 4), if_neg (by decide : ¬ Int32.ofNat 6 = 5), if_pos (by decide : Int32.ofNat 6 = 6)]
        exact zb_ok (a_sumOf hI hm0 11 (by omega) rfl) _
      · rw [if_neg (by decide : ¬ Int32.ofNat 7 = 0), if_neg (by decide : ¬ Int32.ofNat 7 = 1), if_neg (by decide : ¬ Int32.ofNat 7 = 2), if_neg (by decide : ¬ Int32.ofNat 7 = 3), if_neg (by decide : ¬ Int32.ofNat 7 = 4), if_neg (by decide : ¬ Int32.ofNat 7 = 5), if_neg (by decide : ¬ Int32.ofNat 7 = 6), if_pos (by decide : Int32.ofNat 7 = 7)]
        exact z_pair hm0.1.2.2.2.1
      · rw [if_neg (by decide : ¬ Int32.ofNat 8 = 0), if_neg (by decide : ¬ Int32.ofNat 8 = 1), if_neg (by decide : ¬ Int32.ofNat 8 = 2), if_neg (by decide : ¬ Int32.ofNat 8 = 3), if_neg (by decide : ¬ Int32.ofNat 8 = 4), if_neg (by decide : ¬ Int32.ofNat 8 = 5), if_neg (by decide : ¬ Int32.ofNat 8 = 6), if_neg (by decide : ¬ Int32.ofNat 8 = 7), if_pos z2]
        exact z_pair (m_at hm0 (k := 2) (by omega))
  · refine k_size (y := .error 1) q_c1n hm h1 (l_of' hc ?_ (fun e M1 he => by cases he; rfl)) (fun N hN => m_err hN (b := 0) (v := 1) rfl ?_)
    · rw [hp]
      unfold F_Sys_size
      have ne : ∀ t, t < 9 → ¬ p = Int32.ofNat t := fun t ht => q_badne (by omega) ht hb
      have n0 : ¬ p = (0 : Int32) := ne 0 (by omega)
      have n1 : ¬ p = (1 : Int32) := ne 1 (by omega)
      have n2 : ¬ p = (2 : Int32) := ne 2 (by omega)
      have n3 : ¬ p = (3 : Int32) := ne 3 (by omega)
      have n4 : ¬ p = (4 : Int32) := ne 4 (by omega)
      have n5 : ¬ p = (5 : Int32) := ne 5 (by omega)
      have n6 : ¬ p = (6 : Int32) := ne 6 (by omega)
      have n7 : ¬ p = (7 : Int32) := ne 7 (by omega)
      have n8 : ¬ p = (8 : Int32) := ne 8 (by omega)
      rw [if_neg n0, if_neg n1, if_neg n2, if_neg n3, if_neg n4, if_neg n5, if_neg n6, if_neg n7, if_neg n8]
    · rw [hp]
      unfold F_Model_size
      simp only [zl]
      rw [(p_upto (o + 548) 8 p 1 _ (by omega) (lo := 0) (hi := 8) (by decide) (by decide) _).1 hb]
      rfl
