/-! ===== the class's side (out of whole, by program) ===== -/
def s_close (A : q_R) (till : Int32) : Nat → q_R
  | 0 => A
  | i + 1 => if (s_close A till i) (173 + 17 * i) = 0 ∧ ¬ till ≤ (s_close A till i) (189 + 17 * i) then q_w (s_close A till i) (173 + 17 * i) 4 else s_close A till i
theorem s_close_inv {s : q_S} {till : Int32} (h : q_Inv s) : ∀ i, i ≤ q_N s.2.1 → q_Inv (q_row s (s_close s.2.1 till i)) ∧ q_N (s_close s.2.1 till i) = q_N s.2.1 ∧ s_close s.2.1 till i 0 = s.2.1 0 := by
  intro i
  induction i with
  | zero => exact fun _ => ⟨h, rfl, rfl⟩
  | succ i ih =>
    intro hi
    obtain ⟨i1, i2, i3⟩ := ih (by omega)
    show q_Inv (q_row s (if _ then _ else _)) ∧ q_N (if _ then _ else _) = _ ∧ (if _ then _ else _ : q_R) 0 = _
    by_cases hc : (s_close s.2.1 till i) (173 + 17 * i) = 0 ∧ ¬ till ≤ (s_close s.2.1 till i) (189 + 17 * i)
    · rw [if_pos hc]
      refine ⟨?_, by rw [q_N_w (by omega)]; exact i2, by rw [q_w_ne (by omega)]; exact i3⟩
      exact i1.close (by show i < q_N (s_close s.2.1 till i); rw [i2]; omega) (by
        show ¬ (s_close s.2.1 till i (173 + 17 * i) = 1 ∨ s_close s.2.1 till i (173 + 17 * i) = 2)
        rw [hc.1]
        decide) (by decide)
    · rw [if_neg hc]
      exact ⟨i1, i2, i3⟩
theorem c_close_L {o : Nat} {s : q_S} {till : Int32} (hI : q_Inv s) (h0 : s.2.1 0 = till) : ∀ (k i f : Nat) (N : z_Mem), i + k = q_N s.2.1 → k < f → c_all o N (q_row s (s_close s.2.1 till i)) → ∃ N', F_Traffic_closeOffers_L2 o f (Int32.ofNat i) N = some N' ∧ c_all o N' (q_row s (s_close s.2.1 till (q_N s.2.1))) ∧ c_go o N N' := by
  have hN := hI.1.I.rides24
  intro k
  induction k with
  | zero =>
    intro i f N hi hf hc
    obtain ⟨f, rfl⟩ : ∃ g, f = g + 1 := ⟨f - 1, by omega⟩
    have hi' : i = q_N s.2.1 := by omega
    subst hi'
    obtain ⟨j1, j2, j3⟩ := s_close_inv (till := till) hI (q_N s.2.1) (Nat.le_refl _)
    have r4 : N.1 (o + 5) 4 = Int32.ofNat (q_N s.2.1) := by
      refine hc.2.1.2.2.2.2.2.1.trans (j1.1.I.rides.trans ?_)
      exact congrArg Int32.ofNat j2
    unfold F_Traffic_closeOffers_L2 F_Traffic_closeOffers_B2
    rw [r4, if_pos ((i_le (by omega) (by omega)).mpr (Nat.le_refl _))]
    exact ⟨N, rfl, hc, c_go.rfl'⟩
  | succ k ih =>
    intro i f N hi hf hc
    obtain ⟨f, rfl⟩ : ∃ g, f = g + 1 := ⟨f - 1, by omega⟩
    have hiN : i < q_N s.2.1 := by omega
    obtain ⟨j1, j2, j3⟩ := s_close_inv (till := till) hI i (by omega)
    have r4 : N.1 (o + 5) 4 = Int32.ofNat (q_N s.2.1) := by
      refine hc.2.1.2.2.2.2.2.1.trans (j1.1.I.rides.trans ?_)
      exact congrArg Int32.ofNat j2
    have r0 : N.1 (o + 5) 0 = till := hc.2.1.2.1.trans (j3.trans h0)
    have hiN' : i < q_N (s_close s.2.1 till i) := by rw [j2]; exact hiN
    obtain ⟨x0, -, -, -, -, -, -, -, -, -, -, -, -, -, -, x18⟩ := hc.2.1.2.2.2.2.2.2.2.2 i hiN'
    have ci : (Int32.ofNat i).toNatClampNeg = i := i_cl (by omega)
    have estep : s_close s.2.1 till (i + 1) = if (s_close s.2.1 till i) (173 + 17 * i) = 0 ∧ ¬ till ≤ (s_close s.2.1 till i) (189 + 17 * i) then q_w (s_close s.2.1 till i) (173 + 17 * i) 4 else s_close s.2.1 till i := rfl
    have x0' : N.1 (o + 5 + 16 + i) 0 = s_close s.2.1 till i (173 + 17 * i) := x0
    have x18' : N.1 (o + 5 + 16 + i) 18 = s_close s.2.1 till i (189 + 17 * i) := x18
    unfold F_Traffic_closeOffers_L2 F_Traffic_closeOffers_B2
    rw [r4, if_neg (i_nle (by omega) (by omega) hiN), if_neg (i_nle24 (by omega)), if_pos ((i_inb (by omega)).mpr (by omega)), ci]
    simp only [zl, Nat.one_mul]
    rw [x0', r0, x18', i_succ]
    by_cases h1 : s_close s.2.1 till i (173 + 17 * i) = 0
    · rw [if_pos h1]
      by_cases h2 : till ≤ s_close s.2.1 till i (189 + 17 * i)
      · rw [if_pos h2]
        rw [if_neg (fun q => q.2 h2)] at estep
        rw [← estep] at hc
        exact ih (i + 1) f N (by omega) (by omega) hc
      · rw [if_neg h2]
        rw [if_pos ⟨h1, h2⟩] at estep
        have c2 := hc.wr (r := i) (k := 0) (v := 4) hiN' (Or.inr ⟨rfl, by decide⟩)
        have c2' : c_all o (z_wI N (o + 5 + 16 + i) 0 4) (q_row s (s_close s.2.1 till (i + 1))) := by rw [estep]; exact c2
        obtain ⟨N', e, g1, g2⟩ := ih (i + 1) f _ (by omega) (by omega) c2'
        exact ⟨N', e, g1, c_go.tr ⟨fun x hx => funext fun j => w_addr j (by omega), rfl⟩ g2⟩
    · rw [if_neg h1]
      rw [if_neg (fun q => h1 q.1)] at estep
      rw [← estep] at hc
      exact ih (i + 1) f N (by omega) (by omega) hc
theorem q_Inv.now {s : q_S} {v : Int32} (h : q_Inv s) : q_Inv (q_up s 0 v) := h.up (by omega) (fun t ht => by omega) (fun r hr j hj => by omega) (h.1.2.1.2.1.w (by omega) (by omega))
