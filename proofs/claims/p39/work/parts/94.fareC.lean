/-! ===== the class's side (out of whole, by program) ===== -/
theorem i_min4 {n : Nat} : (7 + Int32.ofNat (if n < 4 then n else 4) : Int32) - 2 = Int32.ofNat (5 + (if n < 4 then n else 4)) := by
  rw [show (7 : Int32) = Int32.ofNat 7 from rfl, i_add, show (2 : Int32) = Int32.ofNat 2 from rfl, i_sub (by omega)]
  congr 1
  omega
theorem c_amt {o n : Nat} {N : z_Mem} {s : q_S} {w : Int32} (hc : c_all o N s) (hn : n ≤ 6) : F_Traffic_amountOfWay o w (Int32.ofNat n) N = some (if n = 0 then 0 else f_amt s.2.1 w n) := by
  have r2 : N.1 (o + 5) 2 = s.2.1 2 := hc.2.1.2.2.2.1
  unfold F_Traffic_amountOfWay F_Traffic_amountOfWay_J43
  by_cases h0 : n = 0
  · rw [if_neg (show ¬ (1 : Int32) ≤ Int32.ofNat n from i_nle (a := 1) (by decide) (by omega) (by omega)), if_pos h0]
  · rw [if_pos (show (1 : Int32) ≤ Int32.ofNat n from (i_le (a := 1) (by decide) (by omega)).mpr (by omega)), if_neg h0, r2]
    simp only [zl]
    unfold f_amt f_disc
    by_cases h1 : n = 1
    · rw [if_pos (show Int32.ofNat n = 1 by rw [h1]; rfl), if_pos (show n < 2 by omega)]
    · rw [if_neg (i_ne1 (by omega) h1), if_neg (show ¬ n < 2 by omega)]
      have e4 : (if (4 : Int32) < Int32.ofNat n then (4 : Int32) else Int32.ofNat n) = Int32.ofNat (if n < 4 then n else 4) := by
        by_cases h4 : n < 4
        · rw [if_pos h4, if_neg (show ¬ (4 : Int32) < Int32.ofNat n from fun q => by
            have := (i_lt (a := 4) (by decide) (by omega)).mp q
            omega)]
        · rw [if_neg h4]
          by_cases h5 : n = 4
          · rw [if_neg (show ¬ (4 : Int32) < Int32.ofNat n from fun q => by
              have := (i_lt (a := 4) (by decide) (by omega)).mp q
              omega), h5]
          · rw [if_pos (show (4 : Int32) < Int32.ofNat n from (i_lt (a := 4) (by decide) (by omega)).mpr (by omega))]
            rfl
      have hm : (if n < 4 then n else 4) ≤ 4 ∧ 2 ≤ (if n < 4 then n else 4) := by split <;> omega
      rw [e4, i_min4, zb_ok (a_ruleV (k := 5 + (if n < 4 then n else 4)) hc (by omega) rfl), show 3 + (5 + (if n < 4 then n else 4)) = 8 + (if n < 4 then n else 4) by omega]
theorem c_part {amt : Int32} {n j : Nat} {N : z_Mem} (h1 : 1 ≤ n) (hn : n < 2 ^ 31) : F_Traffic_shareOf amt (Int32.ofNat n) (Int32.ofNat j) N = some (f_part amt n j) := by
  have h0 : ¬ Int32.ofNat n = 0 := i_ne0 hn (by omega)
  unfold F_Traffic_shareOf F_Traffic_shareOf_J22 f_part
  rw [if_pos (show (1 : Int32) ≤ Int32.ofNat n from (i_le (a := 1) (by decide) hn).mpr h1), if_pos h0, if_pos h0]
  by_cases h : amt - amt / Int32.ofNat n * Int32.ofNat n ≤ Int32.ofNat j
  · rw [if_pos h, if_pos h]
  · rw [if_neg h, if_neg h]
def c_pty (N : z_Mem) (a : Nat) (P : List Nat) : Prop := N.1 a 8 = Int32.ofNat P.length ∧ ∀ j, j < P.length → N.1 (a + 2) j = Int32.ofNat (g_l P j)
theorem c_partyAt {a k n : Nat} {M : z_Mem} (h : M.1 a 8 = Int32.ofNat n) (hn : n ≤ 6) (hk : k < n) : F_Taxi_partyAt a (Int32.ofNat k) M = some (M.1 (a + 2) k) := by
  unfold F_Taxi_partyAt
  rw [h, if_neg (i_nn (by omega)), if_neg (i_nle (by omega) (by omega) hk), if_neg (i_nle6 (by omega)), if_pos ((i_inb (by omega)).mpr (by omega)), i_cl (by omega)]
theorem c_take {a u n : Nat} {N : z_Mem} {P : List Nat} (hp : c_pty N a P) (hn : P.length = n) (hn6 : n < 6) : ∃ N', F_Taxi_takeAboard a (Int32.ofNat u) N = some N' ∧ c_pty N' a (P ++ [u]) ∧ (∀ j, j ≠ 8 → N'.1 a j = N.1 a j) ∧ (∀ x, x ≠ a → x ≠ a + 2 → N'.1 x = N.1 x) ∧ N'.2 = N.2 := by
  have hl : (P ++ [u]).length = P.length + 1 := by rw [List.length_append]; rfl
  unfold F_Taxi_takeAboard
  rw [hp.1, hn, if_neg (i_nn (by omega)), if_neg (i_nle6 hn6), if_pos ((i_inb (by omega)).mpr hn6), i_cl (by omega)]
  simp only [zl]
  refine ⟨_, rfl, ⟨?_, fun j hj => ?_⟩, fun j hj => (w_slot _ hj).trans (w_addr _ (by omega)), fun x h1 h2 => funext fun k => (w_addr k h1).trans (w_addr k h2), rfl⟩
  · rw [w_same, w_addr _ (by omega), hp.1, i_succ, hl]
  · rw [w_addr _ (by omega)]
    by_cases hjn : j = n
    · rw [hjn, w_same, ← hn, g_l_app2]
    · rw [w_slot _ hjn, g_l_app1 (by omega)]
      exact hp.2 j (by omega)
/-- what the fancied drive writes -/
def c_fr (o : Nat) (M M' : z_Mem) : Prop := (∀ x, (x < o + 496 ∨ o + 499 ≤ x) → M'.1 x = M.1 x) ∧ M'.2 = M.2
theorem c_fr.all {o : Nat} {M M' : z_Mem} {s : q_S} (h : c_fr o M M') (hc : c_all o M s) : c_all o M' s := hc.scr (fun x hx => h.1 x (by omega))
theorem c_fr.tr {o : Nat} {M M' M'' : z_Mem} (h : c_fr o M M') (h' : c_fr o M' M'') : c_fr o M M'' := ⟨fun x hx => (h'.1 x hx).trans (h.1 x hx), h'.2.trans h.2⟩
theorem c_fr.C {o : Nat} {M M' : z_Mem} (h : c_fr o M M') : q_C o M M' := fun a ha => ⟨h.1 a (by unfold q_inM at ha; omega), by rw [h.2]⟩
