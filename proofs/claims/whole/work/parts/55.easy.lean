/-! ===== PURE: what always holds (to be grown), zones, taxis and rides by their numbers ===== -/
def q_rowI (c A : q_R) : Prop := A 1 = Int32.ofNat (q_N A) ∧ q_N A ≤ 24
def q_conI (c : q_R) : Prop := (∃ Z, 2 ≤ Z ∧ Z ≤ 8 ∧ c 64 = Int32.ofNat Z) ∧ c 66 = Int32.ofNat (q_T c) ∧ q_T c ≤ 4
def q_I (s : q_S) : Prop := q_conI s.1 ∧ q_rowI s.1 s.2.1 ∧ (∀ B ∈ s.2.2.1, q_rowI s.1 B) ∧ ∀ B, s.2.2.2.1 = some B → q_rowI s.1 B
theorem q_I.zones {s : q_S} (h : q_I s) : ∃ Z, 2 ≤ Z ∧ Z ≤ 8 ∧ s.1 64 = Int32.ofNat Z := h.1.1
theorem q_I.taxis {s : q_S} (h : q_I s) : s.1 66 = Int32.ofNat (q_T s.1) := h.1.2.1
theorem q_I.taxis4 {s : q_S} (h : q_I s) : q_T s.1 ≤ 4 := h.1.2.2
theorem q_I.rides {s : q_S} (h : q_I s) : s.2.1 1 = Int32.ofNat (q_N s.2.1) := h.2.1.1
theorem q_I.rides24 {s : q_S} (h : q_I s) : q_N s.2.1 ≤ 24 := h.2.1.2
/-- p names none of n things -/
def q_bad (n : Nat) (p : Int32) : Prop := p < 0 ∨ ¬ p < Int32.ofNat n
theorem q_split (n : Nat) (hn : n < 2 ^ 31) (p : Int32) : (∃ t, t < n ∧ p = Int32.ofNat t) ∨ q_bad n p := by
  by_cases h0 : p < 0
  · exact Or.inr (Or.inl h0)
  · by_cases h1 : p < Int32.ofNat n
    · exact Or.inl (i_ex2 h0 h1 hn)
    · exact Or.inr (Or.inr h1)
theorem q_good {n t : Nat} (hn : n < 2 ^ 31) (ht : t < n) : ¬ q_bad n (Int32.ofNat t) := by
  rintro (h | h)
  · exact i_nn (by omega) h
  · exact h ((i_lt (by omega) hn).mpr ht)
theorem q_badle {n : Nat} (hn : n < 2 ^ 31) {p : Int32} (h0 : ¬ p < 0) : (¬ p < Int32.ofNat n) ↔ Int32.ofNat n ≤ p := by
  rw [Int32.lt_iff_toInt_lt, Int32.le_iff_toInt_le]
  omega
theorem q_badp {n : Nat} (hn : n < 2 ^ 31) {p : Int32} : (p < 0 ∨ Int32.ofNat n - 1 < p) ↔ q_bad n p := by
  by_cases h0 : p < 0
  · exact ⟨fun _ => Or.inl h0, fun _ => Or.inl h0⟩
  · obtain ⟨t, ht, rfl⟩ := i_ex h0
    have h1 := i_pred (n := n) hn h0
    rw [i_cl ht] at h1
    have h2 := i_lt ht hn
    unfold q_bad
    rw [h1, h2]
    constructor
    · rintro (q | q)
      · exact Or.inl q
      · exact Or.inr (by omega)
    · rintro (q | q)
      · exact Or.inl q
      · exact Or.inr (by omega)
/-! the class -/
theorem a_zone_c {o : Nat} {M : z_Mem} {s : q_S} (hc : c_all o M s) {Z : Nat} (hZ : s.1 64 = Int32.ofNat Z) (p : Int32) : (q_bad Z p → F_Sys_checkZone o p M = some (.error 1)) ∧ (¬ q_bad Z p → F_Sys_checkZone o p M = some (.ok ())) := by
  unfold F_Sys_checkZone F_Sys_checkZone_J15 q_bad
  rw [hc.1.1, hZ]
  by_cases h0 : p < 0
  · exact ⟨fun _ => if_pos h0, fun h => absurd (Or.inl h0) h⟩
  · rw [if_neg h0]
    by_cases h1 : p < Int32.ofNat Z
    · exact ⟨fun h => by rcases h with h | h <;> contradiction, fun _ => if_pos h1⟩
    · exact ⟨fun _ => if_neg h1, fun h => absurd (Or.inr h1) h⟩
theorem a_taxi_c {o : Nat} {M : z_Mem} {s : q_S} (hI : q_I s) (hc : c_all o M s) (p : Int32) : (q_bad (q_T s.1) p → F_Sys_existingTaxi o p M = some (.error 1)) ∧ ∀ t, t < q_T s.1 → p = Int32.ofNat t → F_Sys_existingTaxi o p M = some (.ok (o + 5 + 4 + 3 * t)) := by
  have hT := hI.taxis4
  unfold F_Sys_existingTaxi F_Desk_hasTaxi
  rw [hc.2.1.2.2.2.2.1, hI.taxis]
  constructor
  · intro h
    by_cases h0 : p < 0
    · rw [if_pos h0]
      rfl
    · have h1 : Int32.ofNat (q_T s.1) ≤ p := (q_badle (by omega) h0).mp (h.resolve_left h0)
      rw [if_neg h0, if_pos h1]
      rfl
  · rintro t ht rfl
    have h1 : ¬ Int32.ofNat (q_T s.1) ≤ Int32.ofNat t := fun q => by
      have := (i_le (by omega) (by omega)).mp q
      omega
    have h2 : ¬ (4 : Int32) ≤ Int32.ofNat t := fun q => by
      have := (i_le (a := 4) (by decide) (by omega)).mp q
      omega
    rw [if_neg (i_nn (by omega)), if_neg h1, if_neg h2]
    show (if z_inb (Int32.ofNat t) 4 then _ else _) = _
    rw [if_pos ((i_inb (by omega)).mpr (by omega)), i_cl (by omega)]
    rfl
theorem a_ride_c {o : Nat} {M : z_Mem} {s : q_S} (hI : q_I s) (hc : c_all o M s) (p : Int32) : (q_bad (q_N s.2.1) p → F_Sys_existingRide o p M = some (.error 1)) ∧ ∀ t, t < q_N s.2.1 → p = Int32.ofNat t → F_Sys_existingRide o p M = some (.ok (o + 5 + 16 + t)) := by
  have hN := hI.rides24
  unfold F_Sys_existingRide F_Sys_existingRide_J21
  rw [hc.2.1.2.2.2.2.2.1, hI.rides]
  constructor
  · intro h
    by_cases h0 : p < 0
    · rw [if_pos h0]
    · have h1 : Int32.ofNat (q_N s.2.1) ≤ p := (q_badle (by omega) h0).mp (h.resolve_left h0)
      rw [if_neg h0, if_pos h1]
  · rintro t ht rfl
    have h1 : ¬ Int32.ofNat (q_N s.2.1) ≤ Int32.ofNat t := fun q => by
      have := (i_le (by omega) (by omega)).mp q
      omega
    have h2 : Int32.ofNat t < (24 : Int32) := (i_lt (b := 24) (by omega) (by decide)).mpr (by omega)
    rw [if_neg (i_nn (by omega)), if_neg h1, if_pos h2, if_pos ((i_inb (by omega)).mpr (by omega)), i_cl (by omega)]
    simp only [zl, Nat.one_mul]
/-! the reference -/
theorem a_zone_m {m : Nat} {N : z_Mem} {s : q_S} {Z : Nat} (hn : Z < 2 ^ 31) (h : N.1 m 15 = Int32.ofNat Z) (p : Int32) : (q_bad Z p → F_Model_noZone m p N = some (1, z_wI N m 0 1)) ∧ (¬ q_bad Z p → F_Model_noZone m p N = some (0, N)) := by
  rw [p_noZone, h]
  exact ⟨fun q => by rw [if_pos ((q_badp hn).mpr q)], fun q => by rw [if_neg (fun z => q ((q_badp hn).mp z))]⟩
theorem a_taxi_m {m : Nat} {N : z_Mem} {T : Nat} (hn : T < 2 ^ 31) (h : N.1 m 17 = Int32.ofNat T) (p : Int32) : (q_bad T p → F_Model_noTaxi m p N = some (1, z_wI N m 0 1)) ∧ (¬ q_bad T p → F_Model_noTaxi m p N = some (0, N)) := by
  rw [p_noTaxi, h]
  exact ⟨fun q => by rw [if_pos ((q_badp hn).mpr q)], fun q => by rw [if_neg (fun z => q ((q_badp hn).mp z))]⟩
theorem a_ride_m {m : Nat} {N : z_Mem} {R : Nat} (hn : R < 2 ^ 31) (h : N.1 (m + 1) 1 = Int32.ofNat R) (p : Int32) : (q_bad R p → F_Model_noRide m p N = some (1, z_wI N m 0 1)) ∧ (¬ q_bad R p → F_Model_noRide m p N = some (0, N)) := by
  rw [p_noRide, h]
  exact ⟨fun q => by rw [if_pos ((q_badp hn).mpr q)], fun q => by rw [if_neg (fun z => q ((q_badp hn).mp z))]⟩
theorem m_zones {m : Nat} {N : z_Mem} {s : q_S} (hm : m_all m N s) {Z : Nat} (hZ : s.1 64 = Int32.ofNat Z) : N.1 m 15 = Int32.ofNat Z := hm.1.1.trans hZ
theorem m_taxis {m : Nat} {N : z_Mem} {s : q_S} (hI : q_I s) (hm : m_all m N s) : N.1 m 17 = Int32.ofNat (q_T s.1) := hm.1.2.2.1.trans hI.taxis
theorem m_rides {m : Nat} {N : z_Mem} {s : q_S} (hI : q_I s) (hm : m_all m N s) : N.1 (m + 1) 1 = Int32.ofNat (q_N s.2.1) := by
  have h := hm.2.1 1 (by omega)
  exact h.trans hI.rides
theorem m_at {m : Nat} {N : z_Mem} {s : q_S} (hm : m_all m N s) {k : Nat} (hk : k < 581) : N.1 (m + 1) k = s.2.1 k := by
  have h := hm.2.1 k hk
  rw [Nat.zero_add] at h
  exact h
/-- a number of a ride, of a taxi, in the reference's row -/
theorem m_of {m : Nat} {N : z_Mem} {s : q_S} (hm : m_all m N s) {r k : Nat} (hr : r < 24) (hk : k < 17) : F_Model_of m (Int32.ofNat r) (Int32.ofNat k) N = some (s.2.1 (173 + 17 * r + k)) := by
  unfold F_Model_of
  have e : (173 + (17 * Int32.ofNat r)) + Int32.ofNat k = Int32.ofNat (173 + 17 * r + k) := by
    rw [show (17 : Int32) = Int32.ofNat 17 from rfl, show (173 : Int32) = Int32.ofNat 173 from rfl, i_mul, i_add, i_add]
  rw [e, if_pos ((i_inb (by omega)).mpr (by omega)), i_cl (by omega), m_at hm (by omega)]
theorem m_in2 {m : Nat} {N : z_Mem} {s : q_S} (hm : m_all m N s) {t k : Nat} (ht : t < 4) (hk : k < 40) : F_Model_in2 m (Int32.ofNat t) (Int32.ofNat k) N = some (s.2.1 (13 + 40 * t + k)) := by
  unfold F_Model_in2
  have e : (13 + (40 * Int32.ofNat t)) + Int32.ofNat k = Int32.ofNat (13 + 40 * t + k) := by
    rw [show (40 : Int32) = Int32.ofNat 40 from rfl, show (13 : Int32) = Int32.ofNat 13 from rfl, i_mul, i_add, i_add]
  rw [e, if_pos ((i_inb (by omega)).mpr (by omega)), i_cl (by omega), m_at hm (by omega)]
/-! ===== PURE: rule, minutes, aloneFare ===== -/
def y_rule (s : q_S) (p : Int32) : q_Y := if p < 0 ∨ 9 < p then .error 1 else .ok (s.2.1 (3 + p.toNatClampNeg))
theorem i_lt10 {p : Int32} (h : ¬ p < 0) : p < 10 ↔ ¬ 9 < p := by
  rw [Int32.lt_iff_toInt_lt, Int32.lt_iff_toInt_lt]
  have h1 : (10 : Int32).toInt = 10 := rfl
  have h2 : (9 : Int32).toInt = 9 := rfl
  omega
theorem i_in10 {p : Int32} (h0 : ¬ p < 0) (h1 : ¬ 9 < p) : ∃ t : Nat, t < 10 ∧ p = Int32.ofNat t := i_ex2 h0 ((i_lt10 h0).mpr h1) (by decide)
theorem a_rule_c {o : Nat} {M : z_Mem} {s : q_S} (hc : c_all o M s) (p : Int32) : F_Sys_rule o p M = some (y_rule s p) := by
  unfold F_Sys_rule F_Sys_checkRule F_Sys_checkRule_J10 y_rule
  by_cases h0 : p < 0
  · simp only [if_pos h0, if_pos (Or.inl h0 : p < 0 ∨ 9 < p)]
    rfl
  · by_cases h1 : 9 < p
    · have h2 : ¬ p < 10 := fun q => (i_lt10 h0).mp q h1
      simp only [if_neg h0, if_neg h2, if_pos (Or.inr h1 : p < 0 ∨ 9 < p)]
      rfl
    · have h2 : p < 10 := (i_lt10 h0).mpr h1
      have h3 : ¬ (p < 0 ∨ 9 < p) := by rintro (q | q) <;> contradiction
      obtain ⟨t, ht, rfl⟩ := i_in10 h0 h1
      have h4 : ¬ (10 : Int32) ≤ Int32.ofNat t := fun q => by
        have := (i_le (a := 10) (b := t) (by decide) (by omega)).mp q
        omega
      have h5 : z_inb (Int32.ofNat t) 10 := (i_inb (by omega)).mpr ht
      simp only [if_neg h0, if_pos h2, if_neg h3, zxp, zb]
      unfold F_Desk_ruleValue
      rw [if_neg h0, if_neg h4, if_pos h5, i_cl (by omega)]
      exact congrArg some (congrArg Except.ok (hc.2.1.2.2.2.2.2.2.1 t ht))
theorem a_rule_m {o : Nat} {N : z_Mem} {s : q_S} (hm : m_all (o + 548) N s) (p : Int32) : m_does o N s (y_rule s p) q_c1 (F_Model_rule (o + 548) p N) := by
  unfold F_Model_rule y_rule
  simp only [zl]
  rw [p_infx (o + 548) p 0 9 1 _ (lo := 0) (hi := 9) (by decide) (by decide)]
  by_cases h0 : p < 0 ∨ 9 < p
  · rw [if_pos h0, if_pos h0, if_neg (by decide : ¬ (1 : Int32) = 0)]
    exact ⟨0, _, rfl, (hm.thr 0).thr 1, q_M.thr.tr q_M.thr, w_same _ _ _ _, fun v hv => by cases hv⟩
  · rw [if_neg h0, if_neg h0, if_pos rfl]
    obtain ⟨t, ht, rfl⟩ := i_in10 (fun q => h0 (Or.inl q)) (fun q => h0 (Or.inr q))
    unfold F_Model_ruled
    have h1 : (3 : Int32) + Int32.ofNat t = Int32.ofNat (3 + t) := i_add 3 t
    rw [h1, if_pos ((i_inb (by omega)).mpr (by omega : 3 + t < 581)), i_cl (by omega), i_cl (by omega)]
    refine ⟨_, _, rfl, hm.thr 0, q_M.thr, w_same _ _ _ _, fun v hv => ?_⟩
    cases hv
    rw [w_addr _ (by omega)]
    have := hm.2.1 (3 + t) (by omega)
    rw [Nat.zero_add] at this
    exact this
def q_oneE (y : q_Y) : Prop := ∀ e, y = .error e → e = 1
theorem g_one {y : q_Y} (h : q_oneE y) : ∀ e (M1 : z_Mem), y = .error e → (fun (e : Nat) (M1 : z_Mem) => if e = 1 then some ((1 : Int32), M1) else none) e M1 = some (q_c1 e, M1) := fun e M1 hy => if_pos (h e hy)
theorem y_rule_1 (s : q_S) (p : Int32) : q_oneE (y_rule s p) := fun e he => by
  unfold y_rule at he
  split at he <;> cases he
  rfl
theorem a_rule {o L : Nat} {S : Nat → Int32} {i : Int32} {M : z_Mem} {s : q_S} {c : z_Mem → Option (Int32 × z_Mem)} (hc : c_all o M s) (hm : m_all (o + 548) M s) (h1 : z_inb (i + (1 : Int32)) L) : ∃ M', Fc_398 o L S i M c = c M' ∧ c_all o M' s ∧ m_all (o + 548) M' s :=
  k_rule q_c1n hm h1 (l_of' hc (a_rule_c hc _) (g_one (y_rule_1 s _))) (fun N hN => a_rule_m hN _)
