/-! ===== PURE: persons aboard; taxi ===== -/
def q_taxiI (A : q_R) (t : Nat) : Prop := (∃ n, n ≤ 12 ∧ A (24 + 40 * t) = Int32.ofNat n ∧ ∀ k, k < n → ∃ z, z < 2 * q_N A ∧ A (25 + 40 * t + k) = Int32.ofNat z) ∧ ∃ p, p ≤ 6 ∧ A (37 + 40 * t) = Int32.ofNat p ∧ ∀ k, k < p → ∃ r, r < q_N A ∧ A (38 + 40 * t + k) = Int32.ofNat r
def s_per (A : q_R) (t : Nat) : Nat → Nat → Int32 → Int32
  | 0, _, acc => acc
  | k + 1, i, acc => s_per A t k (i + 1) (acc + A (176 + 17 * (A (38 + 40 * t + i)).toNatClampNeg))
theorem a_rideAt {M : z_Mem} {d r : Nat} (hr : r < 24) : F_Desk_rideAt d (Int32.ofNat r) M = some (d + 16 + r) := by
  unfold F_Desk_rideAt F_Desk_rideAt_J19
  have h2 : ¬ (24 : Int32) ≤ Int32.ofNat r := fun q => by
    have := (i_le (a := 24) (by decide) (by omega)).mp q
    omega
  rw [if_neg (i_nn (by omega)), if_neg h2, if_pos ((i_inb (by omega)).mpr hr), i_cl (by omega)]
  simp only [zl, Nat.one_mul]
theorem a_partyAt {M : z_Mem} {a t k p : Nat} {c A : q_R} (h : c_taxi M a c A t) (hp : p ≤ 6) (hA : A (37 + 40 * t) = Int32.ofNat p) (hk : k < p) : F_Taxi_partyAt a (Int32.ofNat k) M = some (A (38 + 40 * t + k)) := by
  unfold F_Taxi_partyAt
  have e := h.2.2.2.2.2.2.2.2.1
  have h1 : ¬ Int32.ofNat p ≤ Int32.ofNat k := fun q => by
    have := (i_le (by omega) (by omega)).mp q
    omega
  have h2 : ¬ (6 : Int32) ≤ Int32.ofNat k := fun q => by
    have := (i_le (a := 6) (by decide) (by omega)).mp q
    omega
  rw [if_neg (i_nn (by omega)), e, hA, if_neg h1, if_neg h2, if_pos ((i_inb (by omega)).mpr (by omega)), i_cl (by omega)]
  exact congrArg some (h.2.2.2.2.2.2.2.2.2.2.2.2.2.2.2.2 k (by omega) (by rw [hA]; exact (i_lt (by omega) (by omega)).mpr hk))
theorem a_persons_c {M : z_Mem} {d a t p : Nat} {c A : q_R} (hd : c_desk M d c A) (h : c_taxi M a c A t) (hp : p ≤ 6) (hA : A (37 + 40 * t) = Int32.ofNat p) (hr : ∀ k, k < p → ∃ r, r < q_N A ∧ A (38 + 40 * t + k) = Int32.ofNat r) : ∀ (k i f : Nat) (acc : Int32), i + k = p → k < f → F_Desk_personsAboard_L4 d f a acc (Int32.ofNat i) M = some (s_per A t k i acc) := by
  have hN := hd.1.2
  intro k
  induction k with
  | zero =>
    intro i f acc hi hf
    obtain ⟨f, rfl⟩ : ∃ g, f = g + 1 := ⟨f - 1, by omega⟩
    unfold F_Desk_personsAboard_L4 F_Desk_personsAboard_B4
    rw [h.2.2.2.2.2.2.2.2.1, hA, if_pos ((i_le (by omega) (by omega)).mpr (by omega))]
    rfl
  | succ k ih =>
    intro i f acc hi hf
    obtain ⟨f, rfl⟩ : ∃ g, f = g + 1 := ⟨f - 1, by omega⟩
    unfold F_Desk_personsAboard_L4 F_Desk_personsAboard_B4
    have h1 : ¬ Int32.ofNat p ≤ Int32.ofNat i := fun q => by
      have := (i_le (by omega) (by omega)).mp q
      omega
    obtain ⟨r, hr1, hr2⟩ := hr i (by omega)
    rw [h.2.2.2.2.2.2.2.2.1, hA, if_neg h1, zb_ok (a_partyAt h hp hA (show i < p by omega)), hr2, zb_ok (a_rideAt (show r < 24 by omega))]
    simp only [zl, i_succ]
    rw [(hd.2.2.2.2.2.2.2.2 r hr1).2.2.2.1]
    show _ = some (s_per A t k (i + 1) (acc + A (176 + 17 * (A (38 + 40 * t + i)).toNatClampNeg)))
    rw [hr2, i_cl (by omega)]
    exact ih (i + 1) f _ (by omega) (by omega)
theorem a_persons_m {m t p : Nat} {N : z_Mem} {s : q_S} (hm : m_all m N s) (hN : q_N s.2.1 ≤ 24) (ht : t < 4) (hp : p ≤ 6) (hA : s.2.1 (37 + 40 * t) = Int32.ofNat p) (hr : ∀ k, k < p → ∃ r, r < q_N s.2.1 ∧ s.2.1 (38 + 40 * t + k) = Int32.ofNat r) : ∀ (k i f : Nat) (acc : Int32), i + k = p → k < f → F_Model_personsAboard_L4 m f (Int32.ofNat t) acc (Int32.ofNat i) N = some (s_per s.2.1 t k i acc) := by
  intro k
  have e24 : 13 + 40 * t + 24 = 37 + 40 * t := by omega
  induction k with
  | zero =>
    intro i f acc hi hf
    obtain ⟨f, rfl⟩ : ∃ g, f = g + 1 := ⟨f - 1, by omega⟩
    unfold F_Model_personsAboard_L4 F_Model_personsAboard_B4
    rw [zb_ok (m_in2L (kl := 24) hm 24 ht (by omega) rfl), e24, hA, if_pos ((i_le (by omega) (by omega)).mpr (by omega))]
    rfl
  | succ k ih =>
    intro i f acc hi hf
    obtain ⟨f, rfl⟩ : ∃ g, f = g + 1 := ⟨f - 1, by omega⟩
    unfold F_Model_personsAboard_L4 F_Model_personsAboard_B4
    have h1 : ¬ Int32.ofNat p ≤ Int32.ofNat i := fun q => by
      have := (i_le (by omega) (by omega)).mp q
      omega
    obtain ⟨r, hr1, hr2⟩ := hr i (by omega)
    have e : (25 : Int32) + Int32.ofNat i = Int32.ofNat (25 + i) := i_add 25 i
    have e2 : 13 + 40 * t + (25 + i) = 38 + 40 * t + i := by omega
    have e3 : 173 + 17 * r + 3 = 176 + 17 * r := by omega
    rw [zb_ok (m_in2L (kl := 24) hm 24 ht (by omega) rfl), e24, hA, if_neg h1, e, zb_ok (m_in2 hm ht (by omega)), e2, hr2, zb_ok (m_ofL (kl := 3) hm 3 (show r < 24 by omega) (by omega) rfl), e3]
    simp only [zl, i_succ]
    show _ = some (s_per s.2.1 t k (i + 1) (acc + s.2.1 (176 + 17 * (s.2.1 (38 + 40 * t + i)).toNatClampNeg)))
    rw [hr2, i_cl (by omega)]
    exact ih (i + 1) f _ (by omega) (by omega)
def y_per (A : q_R) (t : Nat) : Int32 := s_per A t (A (37 + 40 * t)).toNatClampNeg 0 0
theorem a_per_c {M : z_Mem} {d a t : Nat} {c A : q_R} (hd : c_desk M d c A) (h : c_taxi M a c A t) (hI : q_taxiI A t) : F_Desk_personsAboard d a M = some (y_per A t) := by
  obtain ⟨-, p, hp, hA, hr⟩ := hI
  unfold y_per
  rw [hA, i_cl (by omega)]
  exact a_persons_c hd h hp hA hr p 0 10000 0 (by omega) (by omega)
theorem a_per_m {m t : Nat} {N : z_Mem} {s : q_S} (hm : m_all m N s) (hN : q_N s.2.1 ≤ 24) (ht : t < 4) (hI : q_taxiI s.2.1 t) : F_Model_personsAboard m (Int32.ofNat t) N = some (y_per s.2.1 t) := by
  obtain ⟨-, p, hp, hA, hr⟩ := hI
  unfold y_per
  rw [hA, i_cl (by omega)]
  exact a_persons_m hm hN ht hp hA hr p 0 10000 0 (by omega) (by omega)
/-! ===== PURE: taxi ===== -/
def y_taxi (c A : q_R) (t : Nat) : Nat → Int32 := fun k => match k with
  | 0 => c (70 + t)
  | 1 => A (13 + 40 * t)
  | 2 => A (14 + 40 * t)
  | 3 => c (80 + t)
  | 4 => A (17 + 40 * t)
  | 5 => A (24 + 40 * t)
  | 6 => y_per A t
  | 7 => A (37 + 40 * t)
  | 8 => A (15 + 40 * t)
  | _ => A (16 + 40 * t)
theorem a_taxi {o L : Nat} {S : Nat → Int32} {i : Int32} {M : z_Mem} {s : q_S} {c : z_Mem → Option (Int32 × z_Mem)} (hI : q_I s) (hX : ∀ t, t < q_T s.1 → q_taxiI s.2.1 t) (hc : c_all o M s) (hm : m_all (o + 548) M s) (h1 : z_inb (i + (1 : Int32)) L) (h2 : z_inb (i + (2 : Int32)) L) : ∃ M', Fc_522 o L S i M c = c M' ∧ c_all o M' s ∧ m_all (o + 548) M' s := by
  generalize hp : S (i + 1).toNatClampNeg = p
  generalize hq : S (i + 2).toNatClampNeg = q
  have hT := hI.taxis4
  have ct := a_taxi_c hI hc
  have mt := fun (N : z_Mem) (hN : m_all (o + 548) N s) p => a_taxi_m (m := o + 548) (N := z_wI N (o + 548) 0 0) (T := q_T s.1) (by omega) (m_taxis hI (hN.thr 0)) p
  rcases q_split (q_T s.1) (by omega) p with ⟨t, ht, rfl⟩ | hb
  · have gt := q_good (n := q_T s.1) (by omega) ht
    rcases q_split 10 (by omega) q with ⟨k, hk, rfl⟩ | hb
    · have gk := q_good (n := 10) (by omega) hk
      refine k_taxi (y := .ok (y_taxi s.1 s.2.1 t k)) q_c1n hm h1 h2 (l_of' hc ?_ (fun e M1 he => by cases he)) (fun N hN => m_val hN rfl ?_)
      · rw [hp, hq]
        unfold F_Sys_taxi
        have hx := hc.2.1.2.2.2.2.2.2.2.1 t ht
        obtain ⟨x0, x1, x2, x3, x4, x5, x6, x7, x8, -⟩ := id hx
        simp only [zxp, zb, (ct _).2 t ht rfl]
        rcases (show k = 0 ∨ k = 1 ∨ k = 2 ∨ k = 3 ∨ k = 4 ∨ k = 5 ∨ k = 6 ∨ k = 7 ∨ k = 8 ∨ k = 9 by omega) with rfl | rfl | rfl | rfl | rfl | rfl | rfl | rfl | rfl | rfl
        · rw [if_pos (by decide : Int32.ofNat 0 = 0)]
          exact congrArg some (congrArg Except.ok x0)
        · rw [if_neg (by decide : ¬ Int32.ofNat 1 = 0), if_pos (by decide : Int32.ofNat 1 = 1)]
          exact congrArg some (congrArg Except.ok x1)
        · rw [if_neg (by decide : ¬ Int32.ofNat 2 = 0), if_neg (by decide : ¬ Int32.ofNat 2 = 1), if_pos (by decide : Int32.ofNat 2 = 2)]
          exact congrArg some (congrArg Except.ok x2)
        · rw [if_neg (by decide : ¬ Int32.ofNat 3 = 0), if_neg (by decide : ¬ Int32.ofNat 3 = 1), if_neg (by decide : ¬ Int32.ofNat 3 = 2), if_pos (by decide : Int32.ofNat 3 = 3)]
          exact congrArg some (congrArg Except.ok x3)
        · rw [if_neg (by decide : ¬ Int32.ofNat 4 = 0), if_neg (by decide : ¬ Int32.ofNat 4 = 1), if_neg (by decide : ¬ Int32.ofNat 4 = 2), if_neg (by decide : ¬ Int32.ofNat 4 = 3), if_pos (by decide : Int32.ofNat 4 = 4)]
          exact congrArg some (congrArg Except.ok x4)
        · rw [if_neg (by decide : ¬ Int32.ofNat 5 = 0), if_neg (by decide : ¬ Int32.ofNat 5 = 1), if_neg (by decide : ¬ Int32.ofNat 5 = 2), if_neg (by decide : ¬ Int32.ofNat 5 = 3), if_neg (by decide : ¬ Int32.ofNat 5 = 4), if_pos (by decide : Int32.ofNat 5 = 5)]
          exact congrArg some (congrArg Except.ok x7)
        · rw [if_neg (by decide : ¬ Int32.ofNat 6 = 0), if_neg (by decide : ¬ Int32.ofNat 6 = 1), if_neg (by decide : ¬ Int32.ofNat 6 = 2), if_neg (by decide : ¬ Int32.ofNat 6 = 3), if_neg (by decide : ¬ Int32.ofNat 6 = 4), if_neg (by decide : ¬ Int32.ofNat 6 = 5), if_pos (by decide : Int32.ofNat 6 = 6)]
          exact zb_ok (a_per_c hc.2.1 hx (hX t ht)) _
        · rw [if_neg (by decide : ¬ Int32.ofNat 7 = 0), if_neg (by decide : ¬ Int32.ofNat 7 = 1), if_neg (by decide : ¬ Int32.ofNat 7 = 2), if_neg (by decide : ¬ Int32.ofNat 7 = 3), if_neg (by decide : ¬ Int32.ofNat 7 = 4), if_neg (by decide : ¬ Int32.ofNat 7 = 5), if_neg (by decide : ¬ Int32.ofNat 7 = 6), if_pos (by decide : Int32.ofNat 7 = 7)]
          exact congrArg some (congrArg Except.ok x8)
        · rw [if_neg (by decide : ¬ Int32.ofNat 8 = 0), if_neg (by decide : ¬ Int32.ofNat 8 = 1), if_neg (by decide : ¬ Int32.ofNat 8 = 2), if_neg (by decide : ¬ Int32.ofNat 8 = 3), if_neg (by decide : ¬ Int32.ofNat 8 = 4), if_neg (by decide : ¬ Int32.ofNat 8 = 5), if_neg (by decide : ¬ Int32.ofNat 8 = 6), if_neg (by decide : ¬ Int32.ofNat 8 = 7), if_pos (by decide : Int32.ofNat 8 = 8)]
          exact congrArg some (congrArg Except.ok x5)
        · rw [if_neg (by decide : ¬ Int32.ofNat 9 = 0), if_neg (by decide : ¬ Int32.ofNat 9 = 1), if_neg (by decide : ¬ Int32.ofNat 9 = 2), if_neg (by decide : ¬ Int32.ofNat 9 = 3), if_neg (by decide : ¬ Int32.ofNat 9 = 4), if_neg (by decide : ¬ Int32.ofNat 9 = 5), if_neg (by decide : ¬ Int32.ofNat 9 = 6), if_neg (by decide : ¬ Int32.ofNat 9 = 7), if_neg (by decide : ¬ Int32.ofNat 9 = 8), if_pos (by decide : Int32.ofNat 9 = 9)]
          exact congrArg some (congrArg Except.ok x6)
      · rw [hp, hq]
        unfold F_Model_taxi
        simp only [zl]
        rw [zb2_ok ((mt N hN _).2 gt)]
        rw [if_pos rfl, (p_upto (o + 548) 9 (Int32.ofNat k) 1 _ (by omega) (lo := 0) (hi := 9) (by decide) (by decide) _).2 gk, if_pos rfl]
        have hm0 := hN.thr 0
        have ht4 : t < 4 := by omega
        have hz : z_inb (Int32.ofNat t) 4 := (i_inb (by omega)).mpr ht4
        rcases (show k = 0 ∨ k = 1 ∨ k = 2 ∨ k = 3 ∨ k = 4 ∨ k = 5 ∨ k = 6 ∨ k = 7 ∨ k = 8 ∨ k = 9 by omega) with rfl | rfl | rfl | rfl | rfl | rfl | rfl | rfl | rfl | rfl
        · rw [if_pos (by decide : Int32.ofNat 0 = 0), if_pos hz, i_cl (show t < 2 ^ 31 by omega)]
          exact z_pair (hm0.1.2.2.2.2.2 t ht4).1
        · rw [if_neg (by decide : ¬ Int32.ofNat 1 = 0), if_pos (by decide : Int32.ofNat 1 = 1), zb_ok (m_in2L (kl := 0) hm0 0 ht4 (by omega) rfl)]
          exact z_pair (congrArg s.2.1 (by omega))
        · rw [if_neg (by decide : ¬ Int32.ofNat 2 = 0), if_neg (by decide : ¬ Int32.ofNat 2 = 1), if_pos (by decide : Int32.ofNat 2 = 2), zb_ok (m_in2L (kl := 1) hm0 1 ht4 (by omega) rfl)]
          exact z_pair (congrArg s.2.1 (by omega))
        · rw [if_neg (by decide : ¬ Int32.ofNat 3 = 0), if_neg (by decide : ¬ Int32.ofNat 3 = 1), if_neg (by decide : ¬ Int32.ofNat 3 = 2), if_pos (by decide : Int32.ofNat 3 = 3), if_pos hz, i_cl (show t < 2 ^ 31 by omega)]
          exact z_pair (hm0.1.2.2.2.2.2 t ht4).2
        · rw [if_neg (by decide : ¬ Int32.ofNat 4 = 0), if_neg (by decide : ¬ Int32.ofNat 4 = 1), if_neg (by decide : ¬ Int32.ofNat 4 = 2), if_neg (by decide : ¬ Int32.ofNat 4 = 3), if_pos (by decide : Int32.ofNat 4 = 4), zb_ok (m_in2L (kl := 4) hm0 4 ht4 (by omega) rfl)]
          exact z_pair (congrArg s.2.1 (by omega))
        · rw [if_neg (by decide : ¬ Int32.ofNat 5 = 0), if_neg (by decide : ¬ Int32.ofNat 5 = 1), if_neg (by decide : ¬ Int32.ofNat 5 = 2), if_neg (by decide : ¬ Int32.ofNat 5 = 3), if_neg (by decide : ¬ Int32.ofNat 5 = 4), if_pos (by decide : Int32.ofNat 5 = 5), zb_ok (m_in2L (kl := 11) hm0 11 ht4 (by omega) rfl)]
          exact z_pair (congrArg s.2.1 (by omega))
        · rw [if_neg (by decide : ¬ Int32.ofNat 6 = 0), if_neg (by decide : ¬ Int32.ofNat 6 = 1), if_neg (by decide : ¬ Int32.ofNat 6 = 2), if_neg (by decide : ¬ Int32.ofNat 6 = 3), if_neg (by decide : ¬ Int32.ofNat 6 = 4), if_neg (by decide : ¬ Int32.ofNat 6 = 5), if_pos (by decide : Int32.ofNat 6 = 6)]
          exact zb_ok (a_per_m hm0 hI.rides24 ht4 (hX t ht)) _
        · rw [if_neg (by decide : ¬ Int32.ofNat 7 = 0), if_neg (by decide : ¬ Int32.ofNat 7 = 1), if_neg (by decide : ¬ Int32.ofNat 7 = 2), if_neg (by decide : ¬ Int32.ofNat 7 = 3), if_neg (by decide : ¬ Int32.ofNat 7 = 4), if_neg (by decide : ¬ Int32.ofNat 7 = 5), if_neg (by decide : ¬ Int32.ofNat 7 = 6), if_pos (by decide : Int32.ofNat 7 = 7), zb_ok (m_in2L (kl := 24) hm0 24 ht4 (by omega) rfl)]
          exact z_pair (congrArg s.2.1 (by omega))
        · rw [if_neg (by decide : ¬ Int32.ofNat 8 = 0), if_neg (by decide : ¬ Int32.ofNat 8 = 1), if_neg (by decide : ¬ Int32.ofNat 8 = 2), if_neg (by decide : ¬ Int32.ofNat 8 = 3), if_neg (by decide : ¬ Int32.ofNat 8 = 4), if_neg (by decide : ¬ Int32.ofNat 8 = 5), if_neg (by decide : ¬ Int32.ofNat 8 = 6), if_neg (by decide : ¬ Int32.ofNat 8 = 7), if_pos (by decide : Int32.ofNat 8 = 8), zb_ok (m_in2L (kl := 2) hm0 2 ht4 (by omega) rfl)]
          exact z_pair (congrArg s.2.1 (by omega))
        · rw [if_neg (by decide : ¬ Int32.ofNat 9 = 0), if_neg (by decide : ¬ Int32.ofNat 9 = 1), if_neg (by decide : ¬ Int32.ofNat 9 = 2), if_neg (by decide : ¬ Int32.ofNat 9 = 3), if_neg (by decide : ¬ Int32.ofNat 9 = 4), if_neg (by decide : ¬ Int32.ofNat 9 = 5), if_neg (by decide : ¬ Int32.ofNat 9 = 6), if_neg (by decide : ¬ Int32.ofNat 9 = 7), if_neg (by decide : ¬ Int32.ofNat 9 = 8), zb_ok (m_in2L (kl := 3) hm0 3 ht4 (by omega) rfl)]
          exact z_pair (congrArg s.2.1 (by omega))
    · refine k_taxi (y := .error 1) q_c1n hm h1 h2 (l_of' hc ?_ (fun e M1 he => by cases he; rfl)) (fun N hN => m_err hN (b := 0) (v := 1) rfl ?_)
      · rw [hp, hq]
        unfold F_Sys_taxi
        simp only [zxp, zb, (ct _).2 t ht rfl]
        have ne : ∀ t, t < 10 → ¬ q = Int32.ofNat t := fun t ht => q_badne (by omega) ht hb
        have n0 : ¬ q = (0 : Int32) := ne 0 (by omega)
        have n1 : ¬ q = (1 : Int32) := ne 1 (by omega)
        have n2 : ¬ q = (2 : Int32) := ne 2 (by omega)
        have n3 : ¬ q = (3 : Int32) := ne 3 (by omega)
        have n4 : ¬ q = (4 : Int32) := ne 4 (by omega)
        have n5 : ¬ q = (5 : Int32) := ne 5 (by omega)
        have n6 : ¬ q = (6 : Int32) := ne 6 (by omega)
        have n7 : ¬ q = (7 : Int32) := ne 7 (by omega)
        have n8 : ¬ q = (8 : Int32) := ne 8 (by omega)
        have n9 : ¬ q = (9 : Int32) := ne 9 (by omega)
        rw [if_neg n0, if_neg n1, if_neg n2, if_neg n3, if_neg n4, if_neg n5, if_neg n6, if_neg n7, if_neg n8, if_neg n9]
      · rw [hp, hq]
        unfold F_Model_taxi
        simp only [zl]
        rw [zb2_ok ((mt N hN _).2 gt)]
        rw [if_pos rfl, (p_upto (o + 548) 9 q 1 _ (by omega) (lo := 0) (hi := 9) (by decide) (by decide) _).1 hb]
        rfl
  · refine k_taxi (y := .error 1) q_c1n hm h1 h2 (l_of' hc ?_ (fun e M1 he => by cases he; rfl)) (fun N hN => m_err hN (b := 0) (v := 1) rfl ?_)
    · rw [hp, hq]
      unfold F_Sys_taxi
      simp only [zxp, zb, (ct _).1 hb]
    · rw [hp, hq]
      unfold F_Model_taxi
      simp only [zl]
      rw [zb2_ok ((mt N hN _).1 hb)]
      rfl
