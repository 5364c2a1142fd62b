/-! ===== PURE: rides(state) ===== -/
def s_cnt (A : q_R) (st : Int32) : Nat → Nat → Int32 → Int32
  | 0, _, acc => acc
  | k + 1, i, acc => s_cnt A st k (i + 1) (if A (173 + 17 * i) = st then acc + 1 else acc)
theorem i_succ (i : Nat) : Int32.ofNat i + 1 = Int32.ofNat (i + 1) := i_add i 1
theorem a_count_c {M : z_Mem} {d : Nat} {c A : q_R} (hd : c_desk M d c A) (hA : A 1 = Int32.ofNat (q_N A)) (st : Int32) : ∀ (k i f : Nat) (acc : Int32), i + k = q_N A → k < f → F_Desk_countInState_L4 d f st acc (Int32.ofNat i) M = some (s_cnt A st k i acc) := by
  have hN := hd.1.2
  intro k
  induction k with
  | zero =>
    intro i f acc hi hf
    obtain ⟨f, rfl⟩ : ∃ g, f = g + 1 := ⟨f - 1, by omega⟩
    unfold F_Desk_countInState_L4 F_Desk_countInState_B4
    rw [hd.2.2.2.2.2.1, hA, if_pos ((i_le (by omega) (by omega)).mpr (by omega))]
    rfl
  | succ k ih =>
    intro i f acc hi hf
    obtain ⟨f, rfl⟩ : ∃ g, f = g + 1 := ⟨f - 1, by omega⟩
    unfold F_Desk_countInState_L4 F_Desk_countInState_B4
    have h1 : ¬ Int32.ofNat (q_N A) ≤ Int32.ofNat i := fun q => by
      have := (i_le (by omega) (by omega)).mp q
      omega
    have h2 : ¬ (24 : Int32) ≤ Int32.ofNat i := fun q => by
      have := (i_le (a := 24) (by decide) (by omega)).mp q
      omega
    rw [hd.2.2.2.2.2.1, hA, if_neg h1, if_neg h2, if_pos ((i_inb (by omega)).mpr (by omega)), i_cl (by omega)]
    simp only [zl, Nat.one_mul]
    rw [(hd.2.2.2.2.2.2.2.2 i (by omega)).1, i_succ]
    show _ = some (s_cnt A st k (i + 1) (if A (173 + 17 * i) = st then acc + 1 else acc))
    split
    · exact ih (i + 1) f (acc + 1) (by omega) (by omega)
    · exact ih (i + 1) f acc (by omega) (by omega)
theorem a_count_m {m : Nat} {N : z_Mem} {s : q_S} (hI : q_I s) (hm : m_all m N s) (st : Int32) : ∀ (k i f : Nat) (acc : Int32), i + k = q_N s.2.1 → k < f → F_Model_ridesIn_L4 m f st acc (Int32.ofNat i) N = some (s_cnt s.2.1 st k i acc) := by
  have hN := hI.rides24
  have hz : z_inb 1 581 := by decide
  have e1 : (1 : Int32).toNatClampNeg = 1 := rfl
  intro k
  induction k with
  | zero =>
    intro i f acc hi hf
    obtain ⟨f, rfl⟩ : ∃ g, f = g + 1 := ⟨f - 1, by omega⟩
    unfold F_Model_ridesIn_L4 F_Model_ridesIn_B4
    rw [if_pos hz, e1, m_rides hI hm, if_pos ((i_le (by omega) (by omega)).mpr (by omega))]
    rfl
  | succ k ih =>
    intro i f acc hi hf
    obtain ⟨f, rfl⟩ : ∃ g, f = g + 1 := ⟨f - 1, by omega⟩
    unfold F_Model_ridesIn_L4 F_Model_ridesIn_B4
    have h1 : ¬ Int32.ofNat (q_N s.2.1) ≤ Int32.ofNat i := fun q => by
      have := (i_le (by omega) (by omega)).mp q
      omega
    rw [if_pos hz, e1, m_rides hI hm, if_neg h1, zb_ok (m_ofL (kl := 0) hm 0 (by omega) (by omega) rfl)]
    unfold F_Model_ridesIn_J30
    simp only [zl, Int32.add_zero, i_succ, Nat.add_zero]
    show _ = some (s_cnt s.2.1 st k (i + 1) (if s.2.1 (173 + 17 * i) = st then acc + 1 else acc))
    split
    · exact ih (i + 1) f (acc + 1) (by omega) (by omega)
    · exact ih (i + 1) f acc (by omega) (by omega)
def y_cnt (A : q_R) (st : Int32) : Int32 := s_cnt A st (q_N A) 0 0
theorem a_cnt_c {o : Nat} {M : z_Mem} {s : q_S} (hI : q_I s) (hc : c_all o M s) (st : Int32) : F_Desk_countInState (o + 5) st M = some (y_cnt s.2.1 st) := by
  have hN := hI.rides24
  exact a_count_c hc.2.1 hI.rides st (q_N s.2.1) 0 10000 0 (by omega) (by omega)
theorem a_cnt_m {m : Nat} {N : z_Mem} {s : q_S} (hI : q_I s) (hm : m_all m N s) (st : Int32) : F_Model_ridesIn m st N = some (y_cnt s.2.1 st) := by
  have hN := hI.rides24
  exact a_count_m hI hm st (q_N s.2.1) 0 10000 0 (by omega) (by omega)
theorem g_two {y : q_Y} (h : ∀ e, y = .error e → e = 2) : ∀ e (M1 : z_Mem), y = .error e → (fun (e : Nat) (M1 : z_Mem) => if e = 1 then none else some ((1 : Int32), M1)) e M1 = some (q_c1 e, M1) := fun e M1 hy => if_neg (by rw [h e hy]; decide)
theorem a_rides {o L : Nat} {S : Nat → Int32} {i : Int32} {M : z_Mem} {s : q_S} {c : z_Mem → Option (Int32 × z_Mem)} (hI : q_I s) (hc : c_all o M s) (hm : m_all (o + 548) M s) (h1 : z_inb (i + (1 : Int32)) L) : ∃ M', Fc_1185 o L S i M c = c M' ∧ c_all o M' s ∧ m_all (o + 548) M' s := by
  generalize hp : S (i + 1).toNatClampNeg = p
  rcases q_split 7 (by omega) p with ⟨k, hk, rfl⟩ | hb
  · have gk := q_good (n := 7) (by omega) hk
    refine k_rides (y := .ok (y_cnt s.2.1 (Int32.ofNat k))) q_c1n hm h1 (l_of' hc ?_ (fun e M1 he => by cases he)) (fun N hN => m_val hN rfl ?_)
    · rw [hp]
      unfold F_Sys_rides
      have a1 : ¬ (6 : Int32) < Int32.ofNat k := fun q => by
        have := (i_lt (a := 6) (by decide) (by omega)).mp q
        omega
      have a2 : Int32.ofNat k ≤ (6 : Int32) := (i_le (b := 6) (by omega) (by decide)).mpr (by omega)
      rw [if_neg (i_nn (by omega)), if_pos a2, zb_ok (a_cnt_c hI hc _)]
    · rw [hp]
      unfold F_Model_rides
      simp only [zl]
      rw [(p_upto (o + 548) 6 (Int32.ofNat k) 1 _ (by omega) (lo := 0) (hi := 6) (by decide) (by decide) _).2 gk, if_pos rfl, zb_ok (a_cnt_m hI (hN.thr 0) _)]
  · refine k_rides (y := .error 2) q_c1n hm h1 (l_of' hc ?_ (g_two (fun e he => by cases he; rfl))) (fun N hN => m_err hN (b := 0) (v := 1) rfl ?_)
    · rw [hp]
      unfold F_Sys_rides F_Sys_rides_J10
      by_cases h0 : p < 0
      · rw [if_pos h0]
      · have h6 : ¬ p ≤ 6 := fun q => by
          have h7 := hb.resolve_left h0
          have e7 : (Int32.ofNat 7).toInt = 7 := rfl
          have e6 : (6 : Int32).toInt = 6 := rfl
          rw [Int32.lt_iff_toInt_lt] at h7
          rw [Int32.le_iff_toInt_le] at q
          omega
        rw [if_neg h0, if_neg h6]
    · rw [hp]
      unfold F_Model_rides
      simp only [zl]
      rw [(p_upto (o + 548) 6 p 1 _ (by omega) (lo := 0) (hi := 6) (by decide) (by decide) _).1 hb]
      rfl
