/-! ===== PURE: ask ===== -/
theorem d_offers {o a b p : Nat} {s : q_S} {rd la de : Int32} (hI : q_In s) (hr : q_N s.2.1 < 24) (ha : a < 8) (hb : b < 8) (hp1 : 1 ≤ p) (hp6 : p ≤ 6) : ∀ (k i : Nat) (st : Option q_O), i + k = q_T s.1 → (∀ g, st = some g → g.1 < q_T s.1) → ∀ (f : Nat) (M : z_Mem), k < f → c_all o M (q_row s (q_rowC s.2.1 (q_N s.2.1) (Int32.ofNat a) (Int32.ofNat b) (Int32.ofNat p) rd la de st (-1))) →
    ∃ st' : Option q_O, (∀ g, st' = some g → g.1 < q_T s.1) ∧ (∃ M', F_Sys_findOffer_L2 o f (o + 5 + 16 + q_N s.2.1) (Int32.ofNat (q_N s.2.1)) (Int32.ofNat i) M = some M' ∧ c_all o M' (q_row s (q_rowM s.2.1 (q_N s.2.1) (Int32.ofNat a) (Int32.ofNat b) (Int32.ofNat p) rd la de st' (s.2.1 0 + s.2.1 5))) ∧ c_go2 o M M') := by
  have hT4 := hI.I.taxis4
  intro k
  induction k with
  | zero =>
    intro i st hi hst f M hf hc
    obtain ⟨f, rfl⟩ : ∃ g, f = g + 1 := ⟨f - 1, by omega⟩
    have hi' : i = q_T s.1 := by omega
    subst hi'
    refine ⟨st, hst, ?_⟩
    · -- the class
      have r3 : M.1 (o + 5) 3 = Int32.ofNat (q_T s.1) := hc.2.1.2.2.2.2.1.trans hI.I.taxis
      have r0 : M.1 (o + 5) 0 = s.2.1 0 := by
        exact hc.2.1.2.1.trans (q_rowC_out (by omega) (by omega))
      have r5 : F_Desk_ruleValue (o + 5) 2 M = some (s.2.1 5) := by
        rw [a_ruleV (kl := 2) (k := 2) hc (by omega) rfl]
        exact congrArg some (q_rowC_out (k := 5) (by omega) (by omega))
      unfold F_Sys_findOffer_L2 F_Sys_findOffer_B2 F_Sys_findOffer_J108 F_Sys_findOffer_J142
      rw [r3, if_pos ((i_le (by omega) (by omega)).mpr (Nat.le_refl _)), zb_ok r5, r0]
      simp only [zl]
      rw [w_slot _ (show (14 : Nat) ≠ 18 by decide)]
      cases st with
      | none =>
        have hcr := hc.2.1.2.2.2.2.2.2.2.2 (q_N s.2.1) (by show q_N s.2.1 < q_N (q_new _ _ _); rw [q_new_N hr]; omega)
        obtain ⟨⟨x0, x1, x2, x3, x4, x5, x6⟩, ⟨x7, x8⟩, ⟨x9, x10, x11, x12, x13⟩, xo, x18⟩ := c_ride.un hcr
        rw [(xo rfl).1, if_pos rfl]
        refine ⟨_, rfl, hc.newv (v' := q_v (Int32.ofNat a) (Int32.ofNat b) (Int32.ofNat p) rd la de 4 0 0 0 0 (s.2.1 0 + s.2.1 5)) hr (fun x h1 h2 => funext fun j => (w_addr j h1).trans (w_addr j h1)) (c_ride.mk (w_same _ _ _ _) ?_ ?_ ?_ ?_ ?_ ?_ ?_ ?_ ?_ ?_ ?_ ?_ ?_ (fun q => absurd q (by decide)) ?_), ⟨fun x hx => funext fun j => (w_addr j (by omega)).trans (w_addr j (by omega)), rfl⟩⟩
        all_goals rw [w_slot _ (by decide)]
        · rw [w_slot _ (by decide), x1]
        · rw [w_slot _ (by decide), x2]
        · rw [w_slot _ (by decide), x3]
        · rw [w_slot _ (by decide), x4]
        · rw [w_slot _ (by decide), x5]
        · rw [w_slot _ (by decide), x6]
        · rw [w_slot _ (by decide)]
          exact x7
        · rw [w_slot _ (by decide)]
          exact x8
        · rw [w_slot _ (by decide), x9]
        · rw [w_slot _ (by decide), x10]
        · rw [w_slot _ (by decide), x11]
        · rw [w_slot _ (by decide), x12]
        · rw [w_slot _ (by decide), x13]
        · rw [w_same]
      | some g =>
        have hcr := hc.2.1.2.2.2.2.2.2.2.2 (q_N s.2.1) (by show q_N s.2.1 < q_N (q_new _ _ _); rw [q_new_N hr]; omega)
        obtain ⟨⟨x0, x1, x2, x3, x4, x5, x6⟩, ⟨x7, x8⟩, ⟨x9, x10, x11, x12, x13⟩, xo, x18⟩ := c_ride.un hcr
        obtain ⟨y1, y2, y3, y4⟩ := xo rfl
        have hg := hst g rfl
        rw [y1, if_neg (i_nm1 (by omega))]
        refine ⟨_, rfl, hc.newv (v' := q_v (Int32.ofNat a) (Int32.ofNat b) (Int32.ofNat p) rd la de 0 (Int32.ofNat g.1) g.2.1 g.2.2.1 g.2.2.2 (s.2.1 0 + s.2.1 5)) hr (fun x h1 h2 => funext fun j => (w_addr j h1).trans (w_addr j h1)) (c_ride.mk (w_same _ _ _ _) ?_ ?_ ?_ ?_ ?_ ?_ ?_ ?_ ?_ ?_ ?_ ?_ ?_ (fun q => ⟨?_, ?_, ?_, ?_⟩) ?_), ⟨fun x hx => funext fun j => (w_addr j (by omega)).trans (w_addr j (by omega)), rfl⟩⟩
        all_goals rw [w_slot _ (by decide)]
        · rw [w_slot _ (by decide), x1]
        · rw [w_slot _ (by decide), x2]
        · rw [w_slot _ (by decide), x3]
        · rw [w_slot _ (by decide), x4]
        · rw [w_slot _ (by decide), x5]
        · rw [w_slot _ (by decide), x6]
        · rw [w_slot _ (by decide)]
          exact x7
        · rw [w_slot _ (by decide)]
          exact x8
        · rw [w_slot _ (by decide), x9]
        · rw [w_slot _ (by decide), x10]
        · rw [w_slot _ (by decide), x11]
        · rw [w_slot _ (by decide), x12]
        · rw [w_slot _ (by decide), x13]
        · rw [w_slot _ (by decide), y1]
        · rw [w_slot _ (by decide), y2]
        · rw [w_slot _ (by decide), y3]
        · rw [w_slot _ (by decide), y4]
        · rw [w_same]
  | succ k ih =>
    intro i st hi hst f M hf hc
    obtain ⟨f, rfl⟩ : ∃ g, f = g + 1 := ⟨f - 1, by omega⟩
    have hiT : i < q_T s.1 := by omega
    have ci : (Int32.ofNat i).toNatClampNeg = i := i_cl (by omega)
    obtain ⟨n, rt, pt, hn, en, hL⟩ := hI.L hiT
    have hIc : q_In (q_row s (q_rowC s.2.1 (q_N s.2.1) (Int32.ofNat a) (Int32.ofNat b) (Int32.ofNat p) rd la de st (-1))) := by
      cases st <;> exact hI.new hr ha hb hp1 hp6 (by decide)
    have hLc : q_taxiL s.1 (q_rowC s.2.1 (q_N s.2.1) (Int32.ofNat a) (Int32.ofNat b) (Int32.ofNat p) rd la de st (-1)) i n rt pt := by
      cases st <;> exact hL.new hr (by omega) (by show (0 : Int32) ≠ 1 ∧ (0 : Int32) ≠ 2; decide)
    have hIm : q_In (q_row s (q_rowM s.2.1 (q_N s.2.1) (Int32.ofNat a) (Int32.ofNat b) (Int32.ofNat p) rd la de st 0)) := by
      cases st <;> exact hI.new hr ha hb hp1 hp6 (by decide)
    have hLm : q_taxiL s.1 (q_rowM s.2.1 (q_N s.2.1) (Int32.ofNat a) (Int32.ofNat b) (Int32.ofNat p) rd la de st 0) i n rt pt := by
      cases st with
      | none => exact hL.new hr (by omega) (by show (4 : Int32) ≠ 1 ∧ (4 : Int32) ≠ 2; decide)
      | some g => exact hL.new hr (by omega) (by show (0 : Int32) ≠ 1 ∧ (0 : Int32) ≠ 2; decide)
    have hp37 : (q_rowC s.2.1 (q_N s.2.1) (Int32.ofNat a) (Int32.ofNat b) (Int32.ofNat p) rd la de st (-1) (37 + 40 * i)).toNatClampNeg ≤ 6 := by
      rw [hLc.2.1.1.1, i_cl (by have := hLc.2.1.2.1; omega)]
      exact hLc.2.1.2.1
    have ebest : s_best s.1 (q_rowM s.2.1 (q_N s.2.1) (Int32.ofNat a) (Int32.ofNat b) (Int32.ofNat p) rd la de st 0) i (q_N s.2.1) rt = s_best s.1 (q_rowC s.2.1 (q_N s.2.1) (Int32.ofNat a) (Int32.ofNat b) (Int32.ofNat p) rd la de st (-1)) i (q_N s.2.1) rt := by
      refine e_best ?_ (by omega) hp37 rt
      cases st with
      | none => exact q_new_sim (by decide) (by decide)
      | some g => exact q_new_sim (by decide) (by decide)
    have hrC : q_N s.2.1 < q_N (q_rowC s.2.1 (q_N s.2.1) (Int32.ofNat a) (Int32.ofNat b) (Int32.ofNat p) rd la de st (-1)) := by rw [q_rowC_N hr]; omega
    have hrM : q_N s.2.1 < q_N (q_rowM s.2.1 (q_N s.2.1) (Int32.ofNat a) (Int32.ofNat b) (Int32.ofNat p) rd la de st 0) := by rw [q_rowM_N hr]; omega
    obtain ⟨M3, v, e3, p3, b3⟩ := c_findBest (o := o) (r := q_N s.2.1) hIc hiT hLc hrC hc
    have c3 := p3.all hc
    have hway : s_best s.1 (q_rowC s.2.1 (q_N s.2.1) (Int32.ofNat a) (Int32.ofNat b) (Int32.ofNat p) rd la de st (-1)) i (q_N s.2.1) rt ≠ none → q_way s.1 (Int32.ofNat a) (Int32.ofNat b) ≠ -1 := fun q => by
      have st0 : q_rowC s.2.1 (q_N s.2.1) (Int32.ofNat a) (Int32.ofNat b) (Int32.ofNat p) rd la de st (-1) (173 + 17 * q_N s.2.1) = 0 := by
        cases st <;> exact q_new_in (j := 0) (by omega)
      have := s_best_way hIc.2.1 hIc.1.2 hiT hLc hrC (fun z => absurd (st0.symm.trans z) (by decide)) (fun z => absurd (st0.symm.trans z) (by decide)) q
      have f1 : q_rowC s.2.1 (q_N s.2.1) (Int32.ofNat a) (Int32.ofNat b) (Int32.ofNat p) rd la de st (-1) (174 + 17 * q_N s.2.1) = Int32.ofNat a := by
        rw [show 174 + 17 * q_N s.2.1 = 173 + 17 * q_N s.2.1 + 1 by omega]
        cases st <;> exact q_new_in (by omega)
      have f2 : q_rowC s.2.1 (q_N s.2.1) (Int32.ofNat a) (Int32.ofNat b) (Int32.ofNat p) rd la de st (-1) (175 + 17 * q_N s.2.1) = Int32.ofNat b := by
        rw [show 175 + 17 * q_N s.2.1 = 173 + 17 * q_N s.2.1 + 2 by omega]
        cases st <;> exact q_new_in (by omega)
      have e : q_way s.1 (Int32.ofNat a) (Int32.ofNat b) = q_way s.1 (q_rowC s.2.1 (q_N s.2.1) (Int32.ofNat a) (Int32.ofNat b) (Int32.ofNat p) rd la de st (-1) (174 + 17 * q_N s.2.1)) (q_rowC s.2.1 (q_N s.2.1) (Int32.ofNat a) (Int32.ofNat b) (Int32.ofNat p) rd la de st (-1) (175 + 17 * q_N s.2.1)) := by rw [f1, f2]
      rw [e]
      exact this
    have b3 : c_best M3 o (s_best s.1 (q_rowC s.2.1 (q_N s.2.1) (Int32.ofNat a) (Int32.ofNat b) (Int32.ofNat p) rd la de st (-1)) i (q_N s.2.1) rt) v := b3
    generalize hbest : s_best s.1 (q_rowC s.2.1 (q_N s.2.1) (Int32.ofNat a) (Int32.ofNat b) (Int32.ofNat p) rd la de st (-1)) i (q_N s.2.1) rt = best at b3 ebest hway
    have hst2 : ∀ g, q_pick2 st i best = some g → g.1 < q_T s.1 := fun g hg => by
      unfold q_pick2 at hg
      cases best with
      | none => exact hst g hg
      | some f' =>
        cases st with
        | none =>
          have : (i, f'.1, f'.2.1, f'.2.2.1) = g := Option.some.inj hg
          rw [← this]
          exact hiT
        | some g0 =>
          have hg : (if f'.1 < g0.2.1 ∨ (f'.1 = g0.2.1 ∧ f'.2.1 < g0.2.2.1) then some (i, f'.1, f'.2.1, f'.2.2.1) else some g0) = some g := hg
          split at hg
          · rw [← Option.some.inj hg]
            exact hiT
          · exact hst g hg
    -- what the class writes
    have hcr := c3.2.1.2.2.2.2.2.2.2.2 (q_N s.2.1) hrC
    have hJ64 : ∀ f', best = some f' → ∃ M4, F_Sys_findOffer_J64 o (F_Sys_findOffer_L2 o f) (o + 5 + 16 + q_N s.2.1) (Int32.ofNat (q_N s.2.1)) (Int32.ofNat i) M3 = F_Sys_findOffer_L2 o f (o + 5 + 16 + q_N s.2.1) (Int32.ofNat (q_N s.2.1)) (Int32.ofNat (i + 1)) M4 ∧ c_all o M4 (q_row s (q_rowC s.2.1 (q_N s.2.1) (Int32.ofNat a) (Int32.ofNat b) (Int32.ofNat p) rd la de (some (i, f'.1, f'.2.1, f'.2.2.1)) (-1))) ∧ c_go2 o M3 M4 := fun f' hf' => by
      rw [hf'] at b3
      obtain ⟨-, g0, g1, g2, g3, g4⟩ := b3
      have un : ∀ j, j ≠ 14 → j ≠ 15 → j ≠ 16 → j ≠ 17 → (z_wI (z_wI (z_wI (z_wI M3 (o + 5 + 16 + q_N s.2.1) 14 (Int32.ofNat i)) (o + 5 + 16 + q_N s.2.1) 15 f'.1) (o + 5 + 16 + q_N s.2.1) 16 f'.2.1) (o + 5 + 16 + q_N s.2.1) 17 f'.2.2.1).1 (o + 5 + 16 + q_N s.2.1) j = M3.1 (o + 5 + 16 + q_N s.2.1) j := fun j q1 q2 q3 q4 => by
        rw [w_slot _ q4, w_slot _ q3, w_slot _ q2, w_slot _ q1]
      have cr4 : c_ride (z_wI (z_wI (z_wI (z_wI M3 (o + 5 + 16 + q_N s.2.1) 14 (Int32.ofNat i)) (o + 5 + 16 + q_N s.2.1) 15 f'.1) (o + 5 + 16 + q_N s.2.1) 16 f'.2.1) (o + 5 + 16 + q_N s.2.1) 17 f'.2.2.1) (o + 5 + 16 + q_N s.2.1) s.1 (q_new s.2.1 (q_N s.2.1) (q_v (Int32.ofNat a) (Int32.ofNat b) (Int32.ofNat p) rd la de 0 (Int32.ofNat i) f'.1 f'.2.1 f'.2.2.1 (-1))) (q_N s.2.1) := by
        have ho4 : (z_wI (z_wI (z_wI (z_wI M3 (o + 5 + 16 + q_N s.2.1) 14 (Int32.ofNat i)) (o + 5 + 16 + q_N s.2.1) 15 f'.1) (o + 5 + 16 + q_N s.2.1) 16 f'.2.1) (o + 5 + 16 + q_N s.2.1) 17 f'.2.2.1).1 (o + 5 + 16 + q_N s.2.1) 14 = Int32.ofNat i ∧ (z_wI (z_wI (z_wI (z_wI M3 (o + 5 + 16 + q_N s.2.1) 14 (Int32.ofNat i)) (o + 5 + 16 + q_N s.2.1) 15 f'.1) (o + 5 + 16 + q_N s.2.1) 16 f'.2.1) (o + 5 + 16 + q_N s.2.1) 17 f'.2.2.1).1 (o + 5 + 16 + q_N s.2.1) 15 = f'.1 ∧ (z_wI (z_wI (z_wI (z_wI M3 (o + 5 + 16 + q_N s.2.1) 14 (Int32.ofNat i)) (o + 5 + 16 + q_N s.2.1) 15 f'.1) (o + 5 + 16 + q_N s.2.1) 16 f'.2.1) (o + 5 + 16 + q_N s.2.1) 17 f'.2.2.1).1 (o + 5 + 16 + q_N s.2.1) 16 = f'.2.1 ∧ (z_wI (z_wI (z_wI (z_wI M3 (o + 5 + 16 + q_N s.2.1) 14 (Int32.ofNat i)) (o + 5 + 16 + q_N s.2.1) 15 f'.1) (o + 5 + 16 + q_N s.2.1) 16 f'.2.1) (o + 5 + 16 + q_N s.2.1) 17 f'.2.2.1).1 (o + 5 + 16 + q_N s.2.1) 17 = f'.2.2.1 :=
          ⟨by rw [w_slot _ (by decide), w_slot _ (by decide), w_slot _ (by decide), w_same], by rw [w_slot _ (by decide), w_slot _ (by decide), w_same], by rw [w_slot _ (by decide), w_same], w_same _ _ _ _⟩
        cases st with
        | none =>
          obtain ⟨⟨x0, x1, x2, x3, x4, x5, x6⟩, ⟨x7, x8⟩, ⟨x9, x10, x11, x12, x13⟩, xo, x18⟩ := c_ride.un hcr
          exact c_ride.mk ((un 0 (by decide) (by decide) (by decide) (by decide)).trans x0) ((un 1 (by decide) (by decide) (by decide) (by decide)).trans x1) ((un 2 (by decide) (by decide) (by decide) (by decide)).trans x2) ((un 3 (by decide) (by decide) (by decide) (by decide)).trans x3) ((un 4 (by decide) (by decide) (by decide) (by decide)).trans x4) ((un 5 (by decide) (by decide) (by decide) (by decide)).trans x5) ((un 6 (by decide) (by decide) (by decide) (by decide)).trans x6) ((un 7 (by decide) (by decide) (by decide) (by decide)).trans x7) ((un 8 (by decide) (by decide) (by decide) (by decide)).trans x8) ((un 9 (by decide) (by decide) (by decide) (by decide)).trans x9) ((un 10 (by decide) (by decide) (by decide) (by decide)).trans x10) ((un 11 (by decide) (by decide) (by decide) (by decide)).trans x11) ((un 12 (by decide) (by decide) (by decide) (by decide)).trans x12) ((un 13 (by decide) (by decide) (by decide) (by decide)).trans x13) (fun _ => ho4) ((un 18 (by decide) (by decide) (by decide) (by decide)).trans x18)
        | some g =>
          obtain ⟨⟨x0, x1, x2, x3, x4, x5, x6⟩, ⟨x7, x8⟩, ⟨x9, x10, x11, x12, x13⟩, xo, x18⟩ := c_ride.un hcr
          exact c_ride.mk ((un 0 (by decide) (by decide) (by decide) (by decide)).trans x0) ((un 1 (by decide) (by decide) (by decide) (by decide)).trans x1) ((un 2 (by decide) (by decide) (by decide) (by decide)).trans x2) ((un 3 (by decide) (by decide) (by decide) (by decide)).trans x3) ((un 4 (by decide) (by decide) (by decide) (by decide)).trans x4) ((un 5 (by decide) (by decide) (by decide) (by decide)).trans x5) ((un 6 (by decide) (by decide) (by decide) (by decide)).trans x6) ((un 7 (by decide) (by decide) (by decide) (by decide)).trans x7) ((un 8 (by decide) (by decide) (by decide) (by decide)).trans x8) ((un 9 (by decide) (by decide) (by decide) (by decide)).trans x9) ((un 10 (by decide) (by decide) (by decide) (by decide)).trans x10) ((un 11 (by decide) (by decide) (by decide) (by decide)).trans x11) ((un 12 (by decide) (by decide) (by decide) (by decide)).trans x12) ((un 13 (by decide) (by decide) (by decide) (by decide)).trans x13) (fun _ => ho4) ((un 18 (by decide) (by decide) (by decide) (by decide)).trans x18)
      refine ⟨z_wI (z_wI (z_wI (z_wI M3 (o + 5 + 16 + q_N s.2.1) 14 (Int32.ofNat i)) (o + 5 + 16 + q_N s.2.1) 15 f'.1) (o + 5 + 16 + q_N s.2.1) 16 f'.2.1) (o + 5 + 16 + q_N s.2.1) 17 f'.2.2.1, ?_, ?_, ⟨fun x hx => ?_, rfl⟩⟩
      · unfold F_Sys_findOffer_J64
        simp only [zl]
        rw [w_addr (M := M3) _ (show o + 494 ≠ o + 5 + 16 + q_N s.2.1 by omega), g0, w_addr _ (show o + 494 ≠ o + 5 + 16 + q_N s.2.1 by omega), w_addr _ (show o + 494 ≠ o + 5 + 16 + q_N s.2.1 by omega), g1, w_addr _ (show o + 494 ≠ o + 5 + 16 + q_N s.2.1 by omega), w_addr _ (show o + 494 ≠ o + 5 + 16 + q_N s.2.1 by omega), w_addr _ (show o + 494 ≠ o + 5 + 16 + q_N s.2.1 by omega), g2, i_succ]
      · cases st with
        | none => exact c3.newv hr (fun x h1 h2 => funext fun j => (w_addr j h1).trans ((w_addr j h1).trans ((w_addr j h1).trans (w_addr j h1)))) cr4
        | some g => exact c3.newv hr (fun x h1 h2 => funext fun j => (w_addr j h1).trans ((w_addr j h1).trans ((w_addr j h1).trans (w_addr j h1)))) cr4
      · exact funext fun j => (w_addr j (by omega)).trans ((w_addr j (by omega)).trans ((w_addr j (by omega)).trans (w_addr j (by omega))))
    have keyC : ∃ M4, F_Sys_findOffer_L2 o (f + 1) (o + 5 + 16 + q_N s.2.1) (Int32.ofNat (q_N s.2.1)) (Int32.ofNat i) M = F_Sys_findOffer_L2 o f (o + 5 + 16 + q_N s.2.1) (Int32.ofNat (q_N s.2.1)) (Int32.ofNat (i + 1)) M4 ∧ c_all o M4 (q_row s (q_rowC s.2.1 (q_N s.2.1) (Int32.ofNat a) (Int32.ofNat b) (Int32.ofNat p) rd la de (q_pick2 st i best) (-1))) ∧ c_go2 o M M4 := by
      have r3 : M.1 (o + 5) 3 = Int32.ofNat (q_T s.1) := hc.2.1.2.2.2.2.1.trans hI.I.taxis
      have eB : F_Sys_findOffer_L2 o (f + 1) (o + 5 + 16 + q_N s.2.1) (Int32.ofNat (q_N s.2.1)) (Int32.ofNat i) M = (if v = 0 then F_Sys_findOffer_L2 o f (o + 5 + 16 + q_N s.2.1) (Int32.ofNat (q_N s.2.1)) (Int32.ofNat (i + 1)) M3 else if (M3.1 (o + 5 + 16 + q_N s.2.1) 14) = -1 then F_Sys_findOffer_J64 o (F_Sys_findOffer_L2 o f) (o + 5 + 16 + q_N s.2.1) (Int32.ofNat (q_N s.2.1)) (Int32.ofNat i) M3 else zb (F_Insertion_isBetterThan o (M3.1 (o + 5 + 16 + q_N s.2.1) 15) (M3.1 (o + 5 + 16 + q_N s.2.1) 16) M3) fun x6 => if x6 = 0 then F_Sys_findOffer_L2 o f (o + 5 + 16 + q_N s.2.1) (Int32.ofNat (q_N s.2.1)) (Int32.ofNat (i + 1)) M3 else F_Sys_findOffer_J64 o (F_Sys_findOffer_L2 o f) (o + 5 + 16 + q_N s.2.1) (Int32.ofNat (q_N s.2.1)) (Int32.ofNat i) M3) := by
        rw [← i_succ]
        conv => lhs; unfold F_Sys_findOffer_L2 F_Sys_findOffer_B2
        rw [r3, if_neg (i_nle (by omega) (by omega) hiT), if_neg (show ¬ (4 : Int32) ≤ Int32.ofNat i from i_nle (a := 4) (by decide) (by omega) (by omega)), if_pos ((i_inb (by omega)).mpr (by omega)), ci]
        simp only [zl]
        rw [zb2_ok e3]
      rw [eB]
      cases best with
      | none =>
        rw [if_pos (show v = 0 from b3)]
        exact ⟨M3, rfl, c3, p3.go⟩
      | some f' =>
        have hv1 : ¬ v = 0 := by rw [b3.1]; decide
        have b30 := b3.2.1
        have b31 := b3.2.2.1
        obtain ⟨M4, e4, c4, g4⟩ := hJ64 f' rfl
        rw [if_neg hv1]
        cases st with
        | none =>
          obtain ⟨-, -, -, xo, -⟩ := c_ride.un hcr
          rw [(xo rfl).1, if_pos rfl]
          exact ⟨M4, e4, c4, p3.go.tr g4⟩
        | some g =>
          obtain ⟨-, -, -, xo, -⟩ := c_ride.un hcr
          obtain ⟨y1, y2, y3, y4⟩ := xo rfl
          have hg := hst g rfl
          rw [y1, if_neg (i_nm1 (by omega)), y2, y3]
          unfold F_Insertion_isBetterThan F_Insertion_isBetterThan_J24
          rw [b30, b31]
          have ep : q_pick2 (some g) i (some f') = if f'.1 < g.2.1 ∨ (f'.1 = g.2.1 ∧ f'.2.1 < g.2.2.1) then some (i, f'.1, f'.2.1, f'.2.2.1) else some g := rfl
          rw [ep]
          by_cases q1 : f'.1 < g.2.1
          · rw [if_pos q1, if_pos (show f'.1 < g.2.1 ∨ _ from Or.inl q1)]
            exact ⟨M4, e4, c4, p3.go.tr g4⟩
          · rw [if_neg q1]
            by_cases q2 : f'.1 = g.2.1
            · rw [if_pos q2]
              by_cases q3 : g.2.2.1 ≤ f'.2.1
              · rw [if_pos q3, if_neg (show ¬ (f'.1 < g.2.1 ∨ (f'.1 = g.2.1 ∧ f'.2.1 < g.2.2.1)) from fun z => by
                  rcases z with z | z
                  · exact q1 z
                  · exact (i_nltle _ _).mpr q3 z.2)]
                exact ⟨M3, rfl, c3, p3.go⟩
              · rw [if_neg q3, if_pos (show f'.1 < g.2.1 ∨ (f'.1 = g.2.1 ∧ f'.2.1 < g.2.2.1) from Or.inr ⟨q2, Decidable.byContradiction fun z => q3 ((i_nltle _ _).mp z)⟩)]
                exact ⟨M4, e4, c4, p3.go.tr g4⟩
            · rw [if_neg q2, if_neg (show ¬ (f'.1 < g.2.1 ∨ (f'.1 = g.2.1 ∧ f'.2.1 < g.2.2.1)) from fun z => by
                rcases z with z | z
                · exact q1 z
                · exact q2 z.1)]
              exact ⟨M3, rfl, c3, p3.go⟩
    obtain ⟨M4, eC, c4, g4⟩ := keyC
    obtain ⟨st', hst', ⟨M', e', c', g'⟩⟩ := ih (i + 1) (q_pick2 st i best) (by omega) hst2 f M4 (by omega) c4
    exact ⟨st', hst', ⟨M', eC.trans e', c', g4.tr g'⟩⟩
theorem i_X.new {s : q_S} {w n : Nat} {v : Nat → Int32} (h : i_X w n s) (hT4 : q_T s.1 ≤ 4) (hr : q_N s.2.1 < 24) (h0 : v 0 = 0 ∨ v 0 = 4) (h4 : ∃ x, x ≤ 2 ^ 20 ∧ v 4 = Int32.ofNat x) (h7 : v 7 = -1) (h10 : v 10 = 0) : i_X w n (q_row s (q_new s.2.1 (q_N s.2.1) v)) := by
  have eN := q_new_N (A := s.2.1) (v := v) hr
  have o : ∀ k, k ≠ 1 → (k < 173 + 17 * q_N s.2.1 ∨ 190 + 17 * q_N s.2.1 ≤ k) → q_new s.2.1 (q_N s.2.1) v k = s.2.1 k := fun k h1 h2 => q_new_out h1 h2
  have e173 : q_new s.2.1 (q_N s.2.1) v (173 + 17 * q_N s.2.1) = v 0 := q_new_in (j := 0) (by omega)
  have e177 : q_new s.2.1 (q_N s.2.1) v (177 + 17 * q_N s.2.1) = v 4 := by
    rw [show 177 + 17 * q_N s.2.1 = 173 + 17 * q_N s.2.1 + 4 by omega]
    exact q_new_in (by omega)
  have e180 : q_new s.2.1 (q_N s.2.1) v (180 + 17 * q_N s.2.1) = -1 := by
    rw [show 180 + 17 * q_N s.2.1 = 173 + 17 * q_N s.2.1 + 7 by omega, ← h7]
    exact q_new_in (by omega)
  have e183 : q_new s.2.1 (q_N s.2.1) v (183 + 17 * q_N s.2.1) = 0 := by
    rw [show 183 + 17 * q_N s.2.1 = 173 + 17 * q_N s.2.1 + 10 by omega, ← h10]
    exact q_new_in (by omega)
  generalize hB : q_new s.2.1 (q_N s.2.1) v = B at eN o e173 e177 e180 e183 ⊢
  obtain ⟨⟨a, ha, ea⟩, ⟨b, hb, eb⟩, ⟨c, hc, ec⟩, hxR, hxT⟩ := h
  refine ⟨⟨a, ha, (o 0 (by omega) (by omega)).trans ea⟩, ⟨b, hb, (o 4 (by omega) (by omega)).trans eb⟩, ⟨c, hc, (o 6 (by omega) (by omega)).trans ec⟩, fun r hr2 => ?_, fun t ht => ?_⟩
  · have hr2 : r < q_N B := hr2
    rw [eN] at hr2
    by_cases hrr : r = q_N s.2.1
    · rw [hrr]
      show i_R B (q_N s.2.1)
      unfold i_R
      rw [e177, e173, e180, e183]
      rcases h0 with h0 | h0
      · rw [h0]
        exact ⟨h4, ⟨0, by omega, rfl⟩, fun _ => ⟨rfl, rfl⟩, fun q => absurd q (by decide), fun q => absurd q (by decide), fun q => absurd q (by decide)⟩
      · rw [h0]
        exact ⟨h4, ⟨4, by omega, rfl⟩, fun q => absurd q (by decide), fun q => absurd q (by decide), fun q => absurd q (by decide), fun q => absurd q (by decide)⟩
    · exact (hxR r (by omega)).same (fun u hu => o _ (by omega) (by omega)) (fun j hj => o _ (by omega) (by omega))
  · have ht : t < q_T s.1 := ht
    obtain ⟨⟨s1, s2⟩, d, e⟩ := hxT t ht
    have hne : ¬ (-1 : Int32) = Int32.ofNat t := fun q => by
      have h1 := congrArg Int32.toInt q
      rw [i_toInt (by omega)] at h1
      have : ((-1 : Int32)).toInt = -1 := by decide
      omega
    have eP : k_sum (i_P B t) (q_N B) = k_sum (i_P s.2.1 t) (q_N s.2.1) := by
      rw [eN]
      show k_sum (i_P B t) (q_N s.2.1) + i_P B t (q_N s.2.1) = _
      have z : i_P B t (q_N s.2.1) = 0 := by
        unfold i_P
        rw [e180, if_neg hne]
      rw [z, Int32.add_zero]
      exact k_sum_eq _ (fun r hr => by
        unfold i_P
        rw [o (180 + 17 * r) (by omega) (by omega), o (183 + 17 * r) (by omega) (by omega)])
    have eF : k_sum (i_F (s.1 67) B t) (q_N B) = k_sum (i_F (s.1 67) s.2.1 t) (q_N s.2.1) := by
      rw [eN]
      show k_sum (i_F (s.1 67) B t) (q_N s.2.1) + i_F (s.1 67) B t (q_N s.2.1) = _
      have z : i_F (s.1 67) B t (q_N s.2.1) = 0 := by
        unfold i_F
        rw [e180, if_neg hne]
      rw [z, Int32.add_zero]
      exact k_sum_eq _ (fun r hr => by
        unfold i_F
        rw [o (180 + 17 * r) (by omega) (by omega), o (173 + 17 * r) (by omega) (by omega)])
    have eE : k_sum (i_E B t) (q_N B) = k_sum (i_E s.2.1 t) (q_N s.2.1) := by
      rw [eN]
      show k_sum (i_E B t) (q_N s.2.1) + i_E B t (q_N s.2.1) = _
      have z : i_E B t (q_N s.2.1) = 0 := by
        unfold i_E
        rw [e180, if_neg hne]
      rw [z, Int32.add_zero]
      exact k_sum_eq _ (fun r hr => by
        unfold i_E
        rw [o (180 + 17 * r) (by omega) (by omega), o (173 + 17 * r) (by omega) (by omega), o 7 (by omega) (by omega)])
    refine ⟨?_, d.same (fun j g1 g2 => o _ (by omega) (by omega)), e.same (o _ (by omega) (by omega)) (o _ (by omega) (by omega))⟩
    show i_S s.1 B t
    unfold i_S
    rw [eP, eF, eE, o (19 + 40 * t) (by omega) (by omega), o (18 + 40 * t) (by omega) (by omega), o (23 + 40 * t) (by omega) (by omega)]
    exact ⟨s1, s2⟩
theorem d_ask {o a b p dl dt Z w n : Nat} {s : q_S} {M : z_Mem} (hI : q_Inv s) (hX : i_X w n s) (hw : w ≤ 2 ^ 19) (hZ : s.1 64 = Int32.ofNat Z) (hZ8 : Z ≤ 8) (ha : a < Z) (hbz : b < Z) (hab : a ≠ b) (hp1' : 1 ≤ p) (hp6 : p ≤ 6) (hdl : dl ≤ 600) (hdt : dt ≤ 200) (hc : c_all o M s) :
    ∃ s' v M', F_Sys_ask o (Int32.ofNat a) (Int32.ofNat b) (Int32.ofNat p) (Int32.ofNat dl) (Int32.ofNat dt) M = some (v, M') ∧ c_all o M' s' ∧ i_lo o M M' ∧ q_Inv s' ∧ i_X w n s' ∧ s'.1 = s.1 ∧ s'.2.1 7 = s.2.1 7 ∧ ((v = -2 ∧ s'.2.1 1 = s.2.1 1) ∨ (v = Int32.ofNat (q_N s.2.1) ∧ q_N s.2.1 < 24 ∧ s'.2.1 1 = Int32.ofNat (q_N s.2.1 + 1))) := by
  have hN24 := hI.1.I.rides24
  have hT4 := hI.1.I.taxis4
  have q4 : ¬ Int32.ofNat a = Int32.ofNat b := i_ne (by omega) (by omega) hab
  have rN : M.1 (o + 5) 4 = Int32.ofNat (q_N s.2.1) := hc.2.1.2.2.2.2.2.1.trans hI.1.I.rides
  have c1 : F_Sys_checkRange (Int32.ofNat p) 1 6 M = some () := e_rangeN (p := p) (lo := 1) (hi := 6) M (by omega) (by decide) (by decide) hp1' hp6
  have c2 : F_Sys_checkRange (Int32.ofNat dl) 0 600 M = some () := e_rangeN (p := dl) (lo := 0) (hi := 600) M (by omega) (by decide) (by decide) (by omega) hdl
  have c3 : F_Sys_checkRange (Int32.ofNat dt) 0 200 M = some () := e_rangeN (p := dt) (lo := 0) (hi := 200) M (by omega) (by decide) (by decide) (by omega) hdt
  by_cases hfull : 24 ≤ q_N s.2.1
  · have h24 : q_N s.2.1 = 24 := by omega
    refine ⟨s, -2, M, ?_, hc, fun _ _ => rfl, hI, hX, rfl, rfl, Or.inl ⟨rfl, rfl⟩⟩
    unfold F_Sys_ask
    rw [zb_ok (e_zone hc hZ ha hZ8), zb_ok (e_zone hc hZ hbz hZ8), zb_ok c1, zb_ok c2, zb_ok c3, if_neg q4]
    simp only [zl]
    rw [rN, h24, if_neg (by decide), if_neg (by decide)]
  have hr : q_N s.2.1 < 24 := by omega
  obtain ⟨M12, e12, c12, k12, l12⟩ := a_note_c (o := o) hI.1.I hI.1.2.1.abs hc
  have hIn := hI.noted
  have hXn : i_X w n (q_noted s) := hX
  generalize hsn : q_noted s = sn at c12 hIn hXn
  have row : s.2.1 = sn.2.1 := by rw [← hsn]; rfl
  have con : s.1 = sn.1 := by rw [← hsn]; rfl
  rw [row] at hr rN
  have hdir : q_way sn.1 (Int32.ofNat a) (Int32.ofNat b) = sn.1 (8 * a + b) := by
    unfold q_way
    rw [i_cl (by omega), i_cl (by omega)]
  -- the class makes the ride
  obtain ⟨M15, e15, hM15⟩ : ∃ M15, F_Ride_begin (o + 5 + 16 + q_N sn.2.1) (Int32.ofNat a) (Int32.ofNat b) (Int32.ofNat p) (Int32.ofNat dt) M12 = some M15 ∧ M15 = z_wI (z_wI (z_wI (z_wI (z_wI (z_wI (z_wI (z_wI (z_wI (z_wI (z_wI (z_wI (z_wI (z_wI (z_wI M12 (o + 5 + 16 + q_N sn.2.1) 0 0) (o + 5 + 16 + q_N sn.2.1) 1 (Int32.ofNat a)) (o + 5 + 16 + q_N sn.2.1) 2 (Int32.ofNat b)) (o + 5 + 16 + q_N sn.2.1) 3 (Int32.ofNat p)) (o + 5 + 16 + q_N sn.2.1) 6 (Int32.ofNat dt)) (o + 5 + 16 + q_N sn.2.1) 9 (-1)) (o + 5 + 16 + q_N sn.2.1) 10 (-1)) (o + 5 + 16 + q_N sn.2.1) 11 (-1)) (o + 5 + 16 + q_N sn.2.1) 12 0) (o + 5 + 16 + q_N sn.2.1) 13 0) (o + 5 + 16 + q_N sn.2.1) 14 (-1)) (o + 5 + 16 + q_N sn.2.1) 15 (-1)) (o + 5 + 16 + q_N sn.2.1) 16 (-1)) (o + 5 + 16 + q_N sn.2.1) 17 (-1)) (o + 5 + 16 + q_N sn.2.1) 18 (-1) := ⟨_, rfl, rfl⟩
  have r15 : ∀ x, x ≠ o + 5 + 16 + q_N sn.2.1 → M15.1 x = M12.1 x := fun x hx => by
    rw [hM15]
    exact funext fun k => by simp (disch := exact hx) only [w_addr]
  have r15' : M15.2 = M12.2 := by rw [hM15]; rfl
  have c15 := c12.spare (M' := M15) (Nat.le_refl _) hr r15
  have now15 : M15.1 (o + 5) 0 = sn.2.1 0 := c15.2.1.2.1
  have c16 := c15.spare (M' := z_wI M15 (o + 5 + 16 + q_N sn.2.1) 4 (sn.2.1 0 + (Int32.ofNat dl))) (Nat.le_refl _) hr (fun x hx => funext fun k => w_addr k hx)
  have c18 := c16.spare (M' := z_wI (z_wI M15 (o + 5 + 16 + q_N sn.2.1) 4 (sn.2.1 0 + (Int32.ofNat dl))) (o + 5 + 16 + q_N sn.2.1) 5 (sn.2.1 0 + (Int32.ofNat dl) + sn.2.1 3)) (Nat.le_refl _) hr (fun x hx => funext fun k => w_addr k hx)
  generalize hM18 : z_wI (z_wI M15 (o + 5 + 16 + q_N sn.2.1) 4 (sn.2.1 0 + (Int32.ofNat dl))) (o + 5 + 16 + q_N sn.2.1) 5 (sn.2.1 0 + (Int32.ofNat dl) + sn.2.1 3) = M18 at c18
  have eway := a_way_c c18 (show a < 8 by omega) (show b < 8 by omega)
  have s6 : M18.1 (o + 5 + 16 + q_N sn.2.1) 6 = (Int32.ofNat dt) := by
    rw [← hM18, hM15]
    simp (disch := decide) only [w_slot, w_same]
  have edir : F_Ride_setDirect (o + 5 + 16 + q_N sn.2.1) (sn.1 (8 * a + b)) M18 = some (z_wI (z_wI M18 (o + 5 + 16 + q_N sn.2.1) 7 (sn.1 (8 * a + b))) (o + 5 + 16 + q_N sn.2.1) 8 (q_most (sn.1 (8 * a + b)) (Int32.ofNat dt))) := by
    unfold F_Ride_setDirect F_Ride_setDirect_J27 q_most
    simp only [zl]
    by_cases hd : sn.1 (8 * a + b) = -1
    · rw [if_pos hd, if_pos hd]
    · rw [if_neg hd, if_neg hd, w_slot _ (by decide), s6]
  generalize hM20 : z_wI (z_wI M18 (o + 5 + 16 + q_N sn.2.1) 7 (sn.1 (8 * a + b))) (o + 5 + 16 + q_N sn.2.1) 8 (q_most (sn.1 (8 * a + b)) (Int32.ofNat dt)) = M20 at edir
  have r20 : ∀ x, x ≠ o + 5 + 16 + q_N sn.2.1 → M20.1 x = M12.1 x := fun x hx => by
    rw [← hM20, ← hM18, ← r15 x hx]
    exact funext fun k => by simp (disch := exact hx) only [w_addr]
  have r20' : M20.2 = M12.2 := by rw [← hM20, ← hM18, ← r15']; rfl
  have cnt20 : M20.1 (o + 5) 4 = Int32.ofNat (q_N sn.2.1) := by
    rw [r20 _ (by omega)]
    exact c12.2.1.2.2.2.2.2.1.trans hIn.1.I.rides
  have ev : ∀ j, (z_wI M20 (o + 5) 4 (Int32.ofNat (q_N sn.2.1 + 1))).1 (o + 5 + 16 + q_N sn.2.1) j = M20.1 (o + 5 + 16 + q_N sn.2.1) j := fun j => w_addr j (by omega)
  have cr21 : c_ride (z_wI M20 (o + 5) 4 (Int32.ofNat (q_N sn.2.1 + 1))) (o + 5 + 16 + q_N sn.2.1) sn.1 (q_new sn.2.1 (q_N sn.2.1) (q_v (Int32.ofNat a) (Int32.ofNat b) (Int32.ofNat p) (sn.2.1 0 + (Int32.ofNat dl)) (sn.2.1 0 + (Int32.ofNat dl) + sn.2.1 3) (Int32.ofNat dt) 0 (-1) (-1) (-1) (-1) (-1))) (q_N sn.2.1) := by
    refine c_ride.mk ?_ ?_ ?_ ?_ ?_ ?_ ?_ ?_ ?_ ?_ ?_ ?_ ?_ ?_ (fun _ => ⟨?_, ?_, ?_, ?_⟩) ?_
    all_goals rw [ev, ← hM20, ← hM18, hM15]
    all_goals simp (disch := decide) only [w_slot, w_same]
    · exact hdir.symm
    · rw [hdir]
  have c21 := c12.more (M' := z_wI M20 (o + 5) 4 (Int32.ofNat (q_N sn.2.1 + 1))) hr (fun x hx1 hx2 => (funext fun k => w_addr k hx1).trans (r20 x hx2)) (w_same _ _ _ _) (fun k hk => (w_slot _ hk).trans (congrFun (r20 _ (by omega)) k)) cr21
  obtain ⟨st', hst', ⟨M', eF, cF, gF⟩⟩ := d_offers (o := o) (a := a) (b := b) (p := p) (rd := sn.2.1 0 + (Int32.ofNat dl)) (la := sn.2.1 0 + (Int32.ofNat dl) + sn.2.1 3) (de := (Int32.ofNat dt)) hIn.1 hr (by omega) (by omega) hp1' (by omega) (q_T sn.1) 0 none (by omega) (fun g hg => by cases hg) 10000 _ (by rw [← con]; omega) c21
  have hI2 : q_Inv (q_row sn (q_rowM sn.2.1 (q_N sn.2.1) (Int32.ofNat a) (Int32.ofNat b) (Int32.ofNat p) (sn.2.1 0 + (Int32.ofNat dl)) (sn.2.1 0 + (Int32.ofNat dl) + sn.2.1 3) (Int32.ofNat dt) st' (sn.2.1 0 + sn.2.1 5))) := by
    have hq : q_In (q_row sn (q_rowM sn.2.1 (q_N sn.2.1) (Int32.ofNat a) (Int32.ofNat b) (Int32.ofNat p) (sn.2.1 0 + (Int32.ofNat dl)) (sn.2.1 0 + (Int32.ofNat dl) + sn.2.1 3) (Int32.ofNat dt) st' (sn.2.1 0 + sn.2.1 5))) := by
      cases st' <;> exact hIn.1.new hr (by omega) (by omega) hp1' (by omega) (by decide)
    refine ⟨hq, fun u hu hu0 => ?_, hIn.2.2.1, hIn.2.2.2⟩
    have hu : u < q_N (q_rowM sn.2.1 (q_N sn.2.1) (Int32.ofNat a) (Int32.ofNat b) (Int32.ofNat p) (sn.2.1 0 + (Int32.ofNat dl)) (sn.2.1 0 + (Int32.ofNat dl) + sn.2.1 3) (Int32.ofNat dt) st' (sn.2.1 0 + sn.2.1 5)) := hu
    rw [q_rowM_N hr] at hu
    have hu0 : q_rowM sn.2.1 (q_N sn.2.1) (Int32.ofNat a) (Int32.ofNat b) (Int32.ofNat p) (sn.2.1 0 + (Int32.ofNat dl)) (sn.2.1 0 + (Int32.ofNat dl) + sn.2.1 3) (Int32.ofNat dt) st' (sn.2.1 0 + sn.2.1 5) (173 + 17 * u) = 0 := hu0
    show (∃ t, t < q_T sn.1 ∧ q_rowM sn.2.1 (q_N sn.2.1) (Int32.ofNat a) (Int32.ofNat b) (Int32.ofNat p) (sn.2.1 0 + (Int32.ofNat dl)) (sn.2.1 0 + (Int32.ofNat dl) + sn.2.1 3) (Int32.ofNat dt) st' (sn.2.1 0 + sn.2.1 5) (185 + 17 * u) = Int32.ofNat t) ∧ q_rowM sn.2.1 (q_N sn.2.1) (Int32.ofNat a) (Int32.ofNat b) (Int32.ofNat p) (sn.2.1 0 + (Int32.ofNat dl)) (sn.2.1 0 + (Int32.ofNat dl) + sn.2.1 3) (Int32.ofNat dt) st' (sn.2.1 0 + sn.2.1 5) (184 + 17 * u) = 0
    by_cases hur : u = q_N sn.2.1
    · subst hur
      rw [show 173 + 17 * q_N sn.2.1 = 173 + 17 * q_N sn.2.1 + 0 from rfl] at hu0
      rw [show 185 + 17 * q_N sn.2.1 = 173 + 17 * q_N sn.2.1 + 12 by omega, show 184 + 17 * q_N sn.2.1 = 173 + 17 * q_N sn.2.1 + 11 by omega]
      cases st' with
      | none =>
        have : (4 : Int32) = 0 := (q_new_in (A := sn.2.1) (v := q_v (Int32.ofNat a) (Int32.ofNat b) (Int32.ofNat p) (sn.2.1 0 + (Int32.ofNat dl)) (sn.2.1 0 + (Int32.ofNat dl) + sn.2.1 3) (Int32.ofNat dt) 4 0 0 0 0 (sn.2.1 0 + sn.2.1 5)) (r := q_N sn.2.1) (j := 0) (by omega)).symm.trans hu0
        exact absurd this (by decide)
      | some g => exact ⟨⟨g.1, hst' g rfl, q_new_in (by omega)⟩, q_new_in (by omega)⟩
    · rw [q_rowM_out (by omega) (by omega)] at hu0
      rw [q_rowM_out (by omega) (by omega), q_rowM_out (by omega) (by omega)]
      exact hIn.2.1 u (by omega) hu0
  have hX2 : i_X w n (q_row sn (q_rowM sn.2.1 (q_N sn.2.1) (Int32.ofNat a) (Int32.ofNat b) (Int32.ofNat p) (sn.2.1 0 + (Int32.ofNat dl)) (sn.2.1 0 + (Int32.ofNat dl) + sn.2.1 3) (Int32.ofNat dt) st' (sn.2.1 0 + sn.2.1 5))) := by
    obtain ⟨x, hx, ex⟩ := hXn.1
    have hrd : ∃ y, y ≤ 2 ^ 20 ∧ sn.2.1 0 + Int32.ofNat dl = Int32.ofNat y := ⟨x + dl, by omega, by rw [ex, i_add]⟩
    cases st' with
    | none => exact hXn.new (by rw [← con]; exact hT4) hr (Or.inr rfl) hrd rfl rfl
    | some g => exact hXn.new (by rw [← con]; exact hT4) hr (Or.inl rfl) hrd rfl rfl
  refine ⟨_, Int32.ofNat (q_N sn.2.1), M', ?_, cF, fun y hy => ?_, hI2, hX2, con.symm, ?_, Or.inr ⟨by rw [row], by rw [row]; exact hr, ?_⟩⟩
  · have ck : (Int32.ofNat (q_N sn.2.1)).toNatClampNeg = q_N sn.2.1 := i_cl (by omega)
    unfold F_Sys_ask
    rw [zb_ok (e_zone hc hZ ha hZ8), zb_ok (e_zone hc hZ hbz hZ8), zb_ok c1, zb_ok c2, zb_ok c3, if_neg q4]
    simp only [zl]
    rw [rN, if_neg (i_nn (by omega)), if_pos (i_ltN24 hr), zb_ok e12, if_pos ((i_inb (by omega)).mpr hr)]
    simp only [ck, Nat.one_mul]
    rw [zb_ok e15, now15, zb_ok (a_ruleV (kl := 0) (k := 0) c16 (by omega) rfl), w_same, show sn.2.1 (3 + 0) = sn.2.1 3 from rfl, hM18, zb_ok eway, zb_ok edir, cnt20, i_succ]
    have eF' : F_Sys_findOffer o (o + 5 + 16 + q_N sn.2.1) (Int32.ofNat (q_N sn.2.1)) (z_wI M20 (o + 5) 4 (Int32.ofNat (q_N sn.2.1 + 1))) = some M' := eF
    rw [zb_ok eF']
  · exact (gF.1 y (by omega)).trans ((funext fun k => w_addr k (by omega)).trans ((r20 y (by omega)).trans (l12 y (by omega))))
  · show q_rowM sn.2.1 (q_N sn.2.1) (Int32.ofNat a) (Int32.ofNat b) (Int32.ofNat p) (sn.2.1 0 + (Int32.ofNat dl)) (sn.2.1 0 + (Int32.ofNat dl) + sn.2.1 3) (Int32.ofNat dt) st' (sn.2.1 0 + sn.2.1 5) 7 = _
    rw [q_rowM_out (by omega) (by omega), row]
  · rw [row]
    show q_rowM sn.2.1 (q_N sn.2.1) (Int32.ofNat a) (Int32.ofNat b) (Int32.ofNat p) (sn.2.1 0 + (Int32.ofNat dl)) (sn.2.1 0 + (Int32.ofNat dl) + sn.2.1 3) (Int32.ofNat dt) st' (sn.2.1 0 + sn.2.1 5) 1 = _
    cases st' <;> (show q_new _ _ _ 1 = _; unfold q_new; rw [if_pos rfl])
