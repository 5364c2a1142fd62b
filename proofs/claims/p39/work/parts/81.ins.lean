/-! ===== the class's side (out of whole, by program) ===== -/
theorem q_ins_val {A : q_R} {L : List Nat} {r p d : Nat} (hL : ∀ s ∈ L, s < 2 * q_N A) (hr : r < q_N A) (h1 : p < d) (h2 : d ≤ L.length + 1) : q_val A (g_l (g_ins L r p d)) (L.length + 2) := fun k hk => by
  have hk' : k < (g_ins L r p d).length := by rw [g_ins_len h1 h2]; exact hk
  rcases g_ins_mem (g_l_mem hk') with h | h | h
  · exact hL _ h
  · omega
  · omega
/-- how many stops of the route lie ahead of a place of the longer list -/
def g_tk (p d i : Nat) : Nat := if i ≤ p then i else if i ≤ d then i - 1 else i - 2
theorem c_ins_L {o t r p d n : Nat} {s : q_S} {rt : List Nat} (hI : q_In s) (ht : t < q_T s.1) (hn : rt.length = n) (hn12 : n + 2 ≤ 12) (hr : r < 24) (h1 : p < d) (h2 : d ≤ n + 1) (hli : q_li s.2.1 (24 + 40 * t) (25 + 40 * t) rt) : ∀ (k i f : Nat) (N : z_Mem), i + k = n + 2 → k < f → c_all o N s → c_list N o (g_l (g_ins rt r p d)) i → ∃ N', F_Plan_planInsertion_L11 o f (o + 5 + 4 + 3 * t) (Int32.ofNat r) (Int32.ofNat p) (Int32.ofNat d) (Int32.ofNat (g_tk p d i)) (Int32.ofNat i) N = (zb (F_Plan_planTimes o (o + 5 + 4 + 3 * t) N') fun M2 => some M2) ∧ c_pl o N N' ∧ c_list N' o (g_l (g_ins rt r p d)) (n + 2) := by
  have h2' : d ≤ rt.length + 1 := by omega
  intro k
  induction k with
  | zero =>
    intro i f N hi hf hc hl
    obtain ⟨f, rfl⟩ : ∃ g, f = g + 1 := ⟨f - 1, by omega⟩
    have hi' : i = n + 2 := by omega
    subst hi'
    have x7 := (hc.2.1.2.2.2.2.2.2.2.1 t ht).2.2.2.2.2.2.2.1
    unfold F_Plan_planInsertion_L11 F_Plan_planInsertion_B11
    rw [x7, hli.1, hn, show Int32.ofNat n + 2 = Int32.ofNat (n + 2) from i_add n 2, if_pos ((i_le (by omega) (by omega)).mpr (Nat.le_refl _))]
    exact ⟨N, rfl, c_pl.rfl', hl⟩
  | succ k ih =>
    intro i f N hi hf hc hl
    obtain ⟨f, rfl⟩ : ∃ g, f = g + 1 := ⟨f - 1, by omega⟩
    have hin : i < n + 2 := by omega
    obtain ⟨x0, x1, x2, x3, x4, x5, x6, x7, x8, x11, x12, x13, x14, x15, x16, xr, xa⟩ := hc.2.1.2.2.2.2.2.2.2.1 t ht
    have h7 := x7.trans (hli.1.trans (congrArg Int32.ofNat hn))
    have eins := g_ins_at (L := rt) (r := r) h1 h2' (show i < rt.length + 2 by omega)
    obtain ⟨N1, e1, l1, p1⟩ := a_append (o := o) (N := N) (l := g_l (g_ins rt r p d)) (n := i) (by omega) hl
    have go : ∀ j, j = g_tk p d (i + 1) → ∃ N', F_Plan_planInsertion_L11 o f (o + 5 + 4 + 3 * t) (Int32.ofNat r) (Int32.ofNat p) (Int32.ofNat d) (Int32.ofNat j) (Int32.ofNat (i + 1)) N1 = (zb (F_Plan_planTimes o (o + 5 + 4 + 3 * t) N') fun M2 => some M2) ∧ c_pl o N N' ∧ c_list N' o (g_l (g_ins rt r p d)) (n + 2) := fun j hj => by
      subst hj
      obtain ⟨N', e, pp, l'⟩ := ih (i + 1) f N1 (by omega) (by omega) (p1.all hc) l1
      exact ⟨N', e, p1.tr pp, l'⟩
    unfold F_Plan_planInsertion_L11 F_Plan_planInsertion_B11
    rw [h7, show Int32.ofNat n + 2 = Int32.ofNat (n + 2) from i_add n 2, if_neg (i_nle (by omega) (by omega) hin)]
    by_cases q1 : i = p
    · rw [if_neg (show ¬ i < p by omega), if_pos q1] at eins
      rw [if_pos (by rw [q1])]
      have epk : F_Desk_pickupOf (Int32.ofNat r) N = some (Int32.ofNat (g_l (g_ins rt r p d) i)) := by
        unfold F_Desk_pickupOf
        rw [eins, show (2 : Int32) = Int32.ofNat 2 from rfl, show (1 : Int32) = Int32.ofNat 1 from rfl, i_mul, i_add, Nat.mul_comm]
      rw [zb_ok epk, zb_ok e1, i_succ]
      simp only [zl]
      exact go _ (by unfold g_tk; rw [if_pos (by omega), if_neg (by omega), if_pos (by omega)]; omega)
    · rw [if_neg (fun q => q1 ((i_eq (by omega) (by omega)).mp q))]
      by_cases q2 : i = d
      · rw [if_neg (show ¬ i < p by omega), if_neg q1, if_neg (show ¬ i < d by omega), if_pos q2] at eins
        rw [if_pos (by rw [q2])]
        have edr : F_Desk_dropOf (Int32.ofNat r) N = some (Int32.ofNat (g_l (g_ins rt r p d) i)) := by
          unfold F_Desk_dropOf
          rw [eins, show (2 : Int32) = Int32.ofNat 2 from rfl, i_mul, Nat.mul_comm]
        rw [zb_ok edr, zb_ok e1, i_succ]
        simp only [zl]
        exact go _ (by unfold g_tk; rw [if_neg (by omega), if_pos (by omega), if_neg (by omega), if_neg (by omega)]; omega)
      · rw [if_neg (fun q => q2 ((i_eq (by omega) (by omega)).mp q))]
        have htk : g_tk p d i < n ∧ g_l (g_ins rt r p d) i = g_l rt (g_tk p d i) ∧ g_tk p d i + 1 = g_tk p d (i + 1) := by
          rw [eins]
          unfold g_tk
          by_cases w1 : i < p
          · rw [if_pos (show i ≤ p by omega), if_pos w1, if_pos (show i + 1 ≤ p by omega)]
            exact ⟨by omega, rfl, rfl⟩
          · by_cases w2 : i < d
            · rw [if_neg (show ¬ i ≤ p by omega), if_pos (show i ≤ d by omega), if_neg w1, if_neg q1, if_pos w2, if_neg (show ¬ i + 1 ≤ p by omega), if_pos (show i + 1 ≤ d by omega)]
              exact ⟨by omega, rfl, by omega⟩
            · rw [if_neg (show ¬ i ≤ p by omega), if_neg (show ¬ i ≤ d by omega), if_neg w1, if_neg q1, if_neg w2, if_neg q2, if_neg (show ¬ i + 1 ≤ p by omega), if_neg (show ¬ i + 1 ≤ d by omega)]
              exact ⟨by omega, rfl, by omega⟩
        have hv : N.1 (o + 5 + 4 + 3 * t + 1) (g_tk p d i) = Int32.ofNat (g_l (g_ins rt r p d) i) := by
          rw [htk.2.1]
          exact (xr _ (by omega) (by rw [hli.1, hn]; exact (i_lt (by omega) (by omega)).mpr htk.1)).trans (hli.2 _ _ (g_l_get (by omega)))
        rw [zb_ok (a_stopAt h7 (by omega) htk.1), hv, zb_ok e1, i_succ, i_succ]
        simp only [zl]
        exact go _ htk.2.2
theorem c_insert {o t r p d : Nat} {s : q_S} {n : Nat} {rt pt : List Nat} {N : z_Mem} (hI : q_In s) (ht : t < q_T s.1) (hT : q_taxiL s.1 s.2.1 t n rt pt) (hr : r < q_N s.2.1) (hn : rt.length + 2 ≤ 12) (h1 : p < d) (h2 : d ≤ rt.length + 1) (hc : c_all o N s) : ∃ N', F_Plan_planInsertion o (o + 5 + 4 + 3 * t) (Int32.ofNat r) (Int32.ofNat p) (Int32.ofNat d) N = some N' ∧ c_pl o N N' ∧ c_plan N' o s.1 s.2.1 t (g_l (g_ins rt r p d)) (rt.length + 2) := by
  have hN := hI.I.rides24
  have p1 : c_pl o N (z_wI N (o + 487) 3 0) := c_pl.rfl'.w (by omega) (by omega)
  obtain ⟨N1, e1, p2, l1⟩ := c_ins_L (o := o) (r := r) hI ht rfl hn (by omega) h1 h2 hT.1.1 (rt.length + 2) 0 10000 (z_wI N (o + 487) 3 0) (by omega) (by omega) (p1.all hc) ⟨w_same _ _ _ _, fun k hk => by omega⟩
  obtain ⟨N', e2, p3, h⟩ := a_times (o := o) (N := N1) hI ht hn (q_ins_val hT.1.2.2.1 hr h1 h2) ((p1.tr p2).all hc) l1
  refine ⟨N', ?_, (p1.tr p2).tr p3, h⟩
  unfold F_Plan_planInsertion
  simp only [zl]
  rw [i_0]
  have e0 : g_tk p d 0 = 0 := by unfold g_tk; rw [if_pos (by omega)]
  rw [e0] at e1
  exact e1.trans (by rw [zb_ok e2])
