/-! ===== PURE: the law's check of a taxi ===== -/
theorem i_S.D {w n : Nat} {s : q_S} {t : Nat} (h : i_X w n s) (ht : t < q_T s.1) : i_S s.1 s.2.1 t ∧ i_D n s.2.1 t := ⟨(h.2.2.2.2 t ht).1, (h.2.2.2.2 t ht).2.1⟩
theorem l_settled_L {o a t w n : Nat} {s : q_S} {M : z_Mem} (hI : q_Inv s) (hX : i_X w n s) (hn : 25344 * n < 2 ^ 31) (ht : t < q_T s.1) (hc : c_all o M s) (h4 : M.1 a 4 = s.1 67) (h5 : M.1 a 5 = s.2.1 7) (h6 : M.1 a 6 = Int32.ofNat (q_N s.2.1)) :
    ∀ (k r f : Nat), r + k = q_N s.2.1 → k < f → F_Law_isSettled_L11 o a f (Int32.ofNat t) (k_sum (i_P s.2.1 t) r) (k_sum (i_F (s.1 67) s.2.1 t) r) (k_sum (i_E s.2.1 t) r) (Int32.ofNat r) M = some 1 := by
  have hN24 := hI.1.I.rides24
  have hT4 := hI.1.I.taxis4
  intro k
  induction k with
  | zero =>
    intro r f hr hf
    obtain ⟨f, rfl⟩ : ∃ g, f = g + 1 := ⟨f - 1, by omega⟩
    have hr' : r = q_N s.2.1 := by omega
    subst hr'
    obtain ⟨⟨s1, s2⟩, x, y, z, b1, b2, b3, e1, e2, e3⟩ := i_S.D hX ht
    have a0 : F_Sys_account o (Int32.ofNat t) 0 M = some (s.2.1 (18 + 40 * t)) := e_acc (k := 0) hI.1.I hc ht (by omega)
    have a1 : F_Sys_account o (Int32.ofNat t) 1 M = some (s.2.1 (19 + 40 * t)) := e_acc (k := 1) hI.1.I hc ht (by omega)
    have a2 : F_Sys_account o (Int32.ofNat t) 2 M = some (Int32.ofNat x) := (e_acc (k := 2) hI.1.I hc ht (by omega)).trans (congrArg some e1)
    have a3 : F_Sys_account o (Int32.ofNat t) 3 M = some (Int32.ofNat y) := (e_acc (k := 3) hI.1.I hc ht (by omega)).trans (congrArg some e2)
    have a4 : F_Sys_account o (Int32.ofNat t) 4 M = some (Int32.ofNat z) := (e_acc (k := 4) hI.1.I hc ht (by omega)).trans (congrArg some e3)
    have a5 : F_Sys_account o (Int32.ofNat t) 5 M = some (s.2.1 (23 + 40 * t)) := e_acc (k := 5) hI.1.I hc ht (by omega)
    unfold F_Law_isSettled_L11 F_Law_isSettled_B11
    rw [h6, if_pos ((i_le (by omega) (by omega)).mpr (Nat.le_refl _)), zb_ok a5, if_pos s2, zb_ok a0, zb_ok a1, if_pos s1.symm, zb_ok a4, zb_ok a3, if_neg (fun q => by have := (i_lt (by omega) (by omega)).mp q; omega), zb_ok a3, zb_ok a2, if_neg (fun q => by have := (i_lt (by omega) (by omega)).mp q; omega)]
  | succ k ih =>
    intro r f hr hf
    obtain ⟨f, rfl⟩ : ∃ g, f = g + 1 := ⟨f - 1, by omega⟩
    have hrN : r < q_N s.2.1 := by omega
    have ih' := ih (r + 1) f (by omega) (by omega)
    obtain ⟨d0, d9, d10, d11, d12⟩ := e_rd hI.1.I hc hrN
    obtain ⟨-, ⟨j, hj, ej⟩, g0, g1, g2, g3⟩ := hX.2.2.2.1 r hrN
    have nle : ¬ Int32.ofNat (q_N s.2.1) ≤ Int32.ofNat r := i_nle (by omega) (by omega) hrN
    unfold F_Law_isSettled_L11 F_Law_isSettled_B11
    rw [h6, if_neg nle, zb_ok d9]
    by_cases hq : s.2.1 (180 + 17 * r) = Int32.ofNat t
    · have eP : k_sum (i_P s.2.1 t) (r + 1) = k_sum (i_P s.2.1 t) r + s.2.1 (183 + 17 * r) := by
        show _ + i_P s.2.1 t r = _
        unfold i_P
        rw [if_pos hq]
      have eF : k_sum (i_F (s.1 67) s.2.1 t) (r + 1) = k_sum (i_F (s.1 67) s.2.1 t) r + (if s.2.1 (173 + 17 * r) = 2 then s.1 67 else if s.2.1 (173 + 17 * r) = 3 then s.1 67 else 0) := by
        show _ + i_F (s.1 67) s.2.1 t r = _
        unfold i_F
        rw [if_pos hq]
      have eE : k_sum (i_E s.2.1 t) (r + 1) = k_sum (i_E s.2.1 t) r + (if s.2.1 (173 + 17 * r) = 5 then s.2.1 7 else 0) := by
        show _ + i_E s.2.1 t r = _
        unfold i_E
        rw [if_pos hq]
      rw [eP, eF, eE, ← i_succ] at ih'
      rw [if_pos hq, zb_ok d0, zb_ok d12]
      have J116 : ∀ v5, F_Law_isSettled_L11 o a f (Int32.ofNat t) (k_sum (i_P s.2.1 t) r + s.2.1 (183 + 17 * r)) (k_sum (i_F (s.1 67) s.2.1 t) r + (if s.2.1 (173 + 17 * r) = 2 then s.1 67 else if s.2.1 (173 + 17 * r) = 3 then s.1 67 else 0)) v5 (Int32.ofNat r + 1) M = some 1 → F_Law_isSettled_J116 o a (F_Law_isSettled_L11 o a f) (Int32.ofNat t) (k_sum (i_P s.2.1 t) r + s.2.1 (183 + 17 * r)) (k_sum (i_F (s.1 67) s.2.1 t) r + (if s.2.1 (173 + 17 * r) = 2 then s.1 67 else if s.2.1 (173 + 17 * r) = 3 then s.1 67 else 0)) v5 (Int32.ofNat r) (s.2.1 (173 + 17 * r)) M = some 1 := fun v5 h => by
        unfold F_Law_isSettled_J116
        by_cases h3 : s.2.1 (173 + 17 * r) = 3
        · obtain ⟨p, a', q1, q2, q3, q4⟩ := g3 h3
          rw [if_pos h3, zb_ok d11, zb_ok d10, q1, q2, if_pos ((i_le (by omega) (by omega)).mpr q3)]
          exact h
        · rw [if_neg h3]
          exact h
      have J77 : ∀ s0, s0 = (if s.2.1 (173 + 17 * r) = 2 then s.1 67 else if s.2.1 (173 + 17 * r) = 3 then s.1 67 else 0) → F_Law_isSettled_J77 o a (F_Law_isSettled_L11 o a f) (Int32.ofNat t) (k_sum (i_P s.2.1 t) r + s.2.1 (183 + 17 * r)) (k_sum (i_E s.2.1 t) r) (Int32.ofNat r) (s.2.1 (173 + 17 * r)) s0 (k_sum (i_F (s.1 67) s.2.1 t) r) M = some 1 := fun s0 hs0 => by
        rw [hs0]
        unfold F_Law_isSettled_J77
        simp only [zl]
        have J96 : ∀ e0, e0 = (if s.2.1 (173 + 17 * r) = 5 then s.2.1 7 else 0) → F_Law_isSettled_J96 o a (F_Law_isSettled_L11 o a f) (Int32.ofNat t) (k_sum (i_P s.2.1 t) r + s.2.1 (183 + 17 * r)) (k_sum (i_F (s.1 67) s.2.1 t) r + (if s.2.1 (173 + 17 * r) = 2 then s.1 67 else if s.2.1 (173 + 17 * r) = 3 then s.1 67 else 0)) (Int32.ofNat r) (s.2.1 (173 + 17 * r)) e0 (k_sum (i_E s.2.1 t) r) M = some 1 := fun e0 he0 => by
          rw [he0]
          unfold F_Law_isSettled_J96
          simp only [zl]
          by_cases h2 : (2 : Int32) ≤ s.2.1 (173 + 17 * r)
          · rw [if_pos h2]
            exact J116 _ ih'
          · have h01 : s.2.1 (183 + 17 * r) = 0 := by
              rw [ej] at h2
              have : ¬ 2 ≤ j := fun q => h2 ((i_le (a := 2) (by decide) (by omega)).mpr q)
              rcases (show j = 0 ∨ j = 1 by omega) with rfl | rfl
              · exact (g0 ej).2
              · exact g1 ej
            rw [if_neg h2, zb_ok d12, if_pos h01]
            exact J116 _ ih'
        by_cases h5' : s.2.1 (173 + 17 * r) = 5
        · rw [if_pos h5']
          exact J96 _ (by rw [h5, if_pos h5'])
        · rw [if_neg h5']
          exact J96 _ (by rw [if_neg h5'])
      have e69 : ∀ v2 v3 v5 v6 v7 s0, F_Law_isSettled_J69 o a (F_Law_isSettled_L11 o a f) v2 v3 v5 v6 v7 s0 M = F_Law_isSettled_J77 o a (F_Law_isSettled_L11 o a f) v2 v3 v5 v6 v7 (M.1 a 4) s0 M := fun _ _ _ _ _ _ => rfl
      simp only [zl]
      by_cases h2 : s.2.1 (173 + 17 * r) = 2
      · rw [if_pos h2, e69]
        exact J77 _ (by rw [h4, if_pos h2])
      · rw [if_neg h2]
        by_cases h3 : s.2.1 (173 + 17 * r) = 3
        · rw [if_pos h3, e69]
          exact J77 _ (by rw [h4, if_neg h2, if_pos h3])
        · rw [if_neg h3]
          exact J77 _ (by rw [if_neg h2, if_neg h3])
    · have eP : k_sum (i_P s.2.1 t) (r + 1) = k_sum (i_P s.2.1 t) r := by
        show _ + i_P s.2.1 t r = _
        unfold i_P
        rw [if_neg hq, Int32.add_zero]
      have eF : k_sum (i_F (s.1 67) s.2.1 t) (r + 1) = k_sum (i_F (s.1 67) s.2.1 t) r := by
        show _ + i_F (s.1 67) s.2.1 t r = _
        unfold i_F
        rw [if_neg hq, Int32.add_zero]
      have eE : k_sum (i_E s.2.1 t) (r + 1) = k_sum (i_E s.2.1 t) r := by
        show _ + i_E s.2.1 t r = _
        unfold i_E
        rw [if_neg hq, Int32.add_zero]
      rw [eP, eF, eE, ← i_succ] at ih'
      rw [if_neg hq]
      exact ih'
theorem l_settled {o a t w n : Nat} {s : q_S} {M : z_Mem} (hI : q_Inv s) (hX : i_X w n s) (hn : 25344 * n < 2 ^ 31) (ht : t < q_T s.1) (hc : c_all o M s) (h4 : M.1 a 4 = s.1 67) (h5 : M.1 a 5 = s.2.1 7) (h6 : M.1 a 6 = Int32.ofNat (q_N s.2.1)) : F_Law_isSettled o a (Int32.ofNat t) M = some 1 := by
  have hN24 := hI.1.I.rides24
  exact l_settled_L hI hX hn ht hc h4 h5 h6 (q_N s.2.1) 0 10000 (by omega) (by omega)
