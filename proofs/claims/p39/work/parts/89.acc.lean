/-! ===== the class's side (out of whole, by program) ===== -/
theorem c_ins1_L {a p n s : Nat} {l : Nat → Nat} (hn : n < 12) (hp : p ≤ n) : ∀ (k i f : Nat) (N : z_Mem), p + k = i → i ≤ n → k < f → N.1 a 7 = Int32.ofNat n → (∀ j, j ≤ i → j < n → N.1 (a + 1) j = Int32.ofNat (l j)) → (∀ j, i < j → j ≤ n → N.1 (a + 1) j = Int32.ofNat (l (j - 1))) →
    ∃ N', F_Taxi_insertStop_L34 a f (Int32.ofNat p) (Int32.ofNat s) (Int32.ofNat i) N = some N' ∧ N'.1 a 7 = Int32.ofNat (n + 1) ∧ (∀ j, j ≤ n → N'.1 (a + 1) j = Int32.ofNat (if j < p then l j else if j = p then s else l (j - 1))) ∧ (∀ j, j ≠ 7 → N'.1 a j = N.1 a j) ∧ (∀ x, x ≠ a → x ≠ a + 1 → N'.1 x = N.1 x) ∧ N'.2 = N.2 := by
  intro k
  induction k with
  | zero =>
    intro i f N hi hin hf h7 ha hb
    obtain ⟨f, rfl⟩ : ∃ g, f = g + 1 := ⟨f - 1, by omega⟩
    have hi' : i = p := by omega
    subst hi'
    unfold F_Taxi_insertStop_L34 F_Taxi_insertStop_B34
    rw [if_pos ((i_le (by omega) (by omega)).mpr (Nat.le_refl _)), if_pos ((i_inb (by omega)).mpr (by omega)), i_cl (by omega)]
    simp only [zl]
    refine ⟨_, rfl, ?_, fun j hj => ?_, fun j hj => (w_slot _ hj).trans (w_addr _ (by omega)), fun x h1 h2 => funext fun k => (w_addr k h1).trans (w_addr k h2), rfl⟩
    · rw [w_same, w_addr _ (by omega), h7, i_succ]
    · rw [w_addr _ (by omega)]
      by_cases q1 : j < i
      · rw [if_pos q1, w_slot _ (by omega)]
        exact ha j (by omega) (by omega)
      · by_cases q2 : j = i
        · rw [if_neg q1, if_pos q2, q2, w_same]
        · rw [if_neg q1, if_neg q2, w_slot _ q2]
          exact hb j (by omega) hj
  | succ k ih =>
    intro i f N hi hin hf h7 ha hb
    obtain ⟨f, rfl⟩ : ∃ g, f = g + 1 := ⟨f - 1, by omega⟩
    unfold F_Taxi_insertStop_L34 F_Taxi_insertStop_B34
    have e1 : Int32.ofNat i - 1 = Int32.ofNat (i - 1) := i_sub (b := 1) (by omega)
    have e2 : Int32.ofNat i + (-1) = Int32.ofNat (i - 1) := by rw [← Int32.sub_eq_add_neg, e1]
    have ci : (Int32.ofNat i).toNatClampNeg = i := i_cl (by omega)
    have ci1 : (Int32.ofNat (i - 1)).toNatClampNeg = i - 1 := i_cl (by omega)
    rw [if_neg (i_nle (by omega) (by omega) (by omega)), e1, e2, if_pos ((i_inb (by omega)).mpr (by omega)), if_pos ((i_inb (by omega)).mpr (by omega)), ci, ci1, ha (i - 1) (by omega) (by omega)]
    simp only [zl]
    obtain ⟨N', e, g1, g2, g3, g4, g5⟩ := ih (i - 1) f (z_wI N (a + 1) i (Int32.ofNat (l (i - 1)))) (by omega) (by omega) (by omega) ((w_addr _ (by omega)).trans h7) (fun j h1 h2 => (w_slot _ (by omega)).trans (ha j (by omega) h2)) (fun j h1 h2 => by
      by_cases hji : j = i
      · rw [hji, w_same]
      · rw [w_slot _ hji]
        exact hb j (by omega) h2)
    exact ⟨N', e, g1, g2, fun j hj => (g3 j hj).trans (w_addr _ (by omega)), fun x h1 h2 => (g4 x h1 h2).trans (funext fun k => w_addr k h2), g5⟩
theorem c_ins1 {a p n s : Nat} {l : Nat → Nat} {N : z_Mem} (hn : n < 12) (hp : p ≤ n) (h7 : N.1 a 7 = Int32.ofNat n) (hl : ∀ j, j < n → N.1 (a + 1) j = Int32.ofNat (l j)) :
    ∃ N', F_Taxi_insertStop a (Int32.ofNat p) (Int32.ofNat s) N = some N' ∧ N'.1 a 7 = Int32.ofNat (n + 1) ∧ (∀ j, j < n + 1 → N'.1 (a + 1) j = Int32.ofNat (if j < p then l j else if j = p then s else l (j - 1))) ∧ (∀ j, j ≠ 7 → N'.1 a j = N.1 a j) ∧ (∀ x, x ≠ a → x ≠ a + 1 → N'.1 x = N.1 x) ∧ N'.2 = N.2 := by
  obtain ⟨N', e, g1, g2, g3⟩ := c_ins1_L (a := a) (s := s) (l := l) hn hp (n - p) n 10000 N (by omega) (by omega) (by omega) h7 (fun j _ hj => hl j hj) (fun j h1 h2 => by omega)
  refine ⟨N', ?_, g1, fun j hj => g2 j (by omega), g3⟩
  unfold F_Taxi_insertStop
  rw [h7, if_neg (i_nn (by omega)), if_neg (show ¬ Int32.ofNat n < Int32.ofNat p from fun q => by
    have := (i_lt (by omega) (by omega)).mp q
    omega), if_neg (i_nn (by omega)), if_pos (show Int32.ofNat n < (12 : Int32) from (i_lt (b := 12) (by omega) (by decide)).mpr hn)]
  exact e
/-- a ride is put into the class's route -/
theorem c_ins2 {a r p d : Nat} {L : List Nat} {N : z_Mem} (hn : L.length + 2 ≤ 12) (h1 : p < d) (h2 : d ≤ L.length + 1) (h7 : N.1 a 7 = Int32.ofNat L.length) (hl : ∀ j, j < L.length → N.1 (a + 1) j = Int32.ofNat (g_l L j)) :
    ∃ N1 N2, F_Taxi_insertStop a (Int32.ofNat p) (Int32.ofNat (2 * r + 1)) N = some N1 ∧ F_Taxi_insertStop a (Int32.ofNat d) (Int32.ofNat (2 * r)) N1 = some N2 ∧ (∀ j, j ≠ 7 → N1.1 a j = N.1 a j) ∧ (∀ x, x ≠ a → x ≠ a + 1 → N1.1 x = N.1 x) ∧ N2.1 a 7 = Int32.ofNat (g_ins L r p d).length ∧ (∀ j, j < (g_ins L r p d).length → N2.1 (a + 1) j = Int32.ofNat (g_l (g_ins L r p d) j)) ∧ (∀ j, j ≠ 7 → N2.1 a j = N.1 a j) ∧ (∀ x, x ≠ a → x ≠ a + 1 → N2.1 x = N.1 x) ∧ N2.2 = N.2 := by
  obtain ⟨N1, e1, a1, a2, a3, a4, a5⟩ := c_ins1 (a := a) (p := p) (s := 2 * r + 1) (by omega) (by omega) h7 hl
  obtain ⟨N2, e2, b1, b2, b3, b4, b5⟩ := c_ins1 (a := a) (p := d) (s := 2 * r) (n := L.length + 1) (l := fun j => if j < p then g_l L j else if j = p then 2 * r + 1 else g_l L (j - 1)) (by omega) (by omega) a1 a2
  have hlen := g_ins_len (L := L) (r := r) h1 h2
  refine ⟨N1, N2, e1, e2, a3, a4, by rw [b1, hlen], fun j hj => ?_, fun j hj => (b3 j hj).trans (a3 j hj), fun x q1 q2 => (b4 x q1 q2).trans (a4 x q1 q2), b5.trans a5⟩
  rw [hlen] at hj
  rw [b2 j (by omega), g_ins_at h1 h2 hj]
  congr 1
  by_cases q1 : j < p
  · rw [if_pos (show j < d by omega), if_pos q1, if_pos q1]
  · by_cases q2 : j = p
    · rw [if_pos (show j < d by omega), if_neg q1, if_pos q2, if_neg q1, if_pos q2]
    · by_cases q3 : j < d
      · rw [if_pos q3, if_neg q1, if_neg q2, if_neg q1, if_neg q2, if_pos q3]
      · by_cases q4 : j = d
        · rw [if_neg q3, if_pos q4, if_neg q1, if_neg q2, if_neg q3, if_pos q4]
        · rw [if_neg q3, if_neg q4, if_neg (show ¬ j - 1 < p by omega), if_neg (show ¬ j - 1 = p by omega), if_neg q1, if_neg q2, if_neg q3, if_neg q4]
          rfl
