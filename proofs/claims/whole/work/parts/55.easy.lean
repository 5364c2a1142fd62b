/-! ===== PURE: rule, minutes, aloneFare ===== -/
def y_rule (s : q_S) (p : Int32) : q_Y := if p < 0 ∨ 9 < p then .error 1 else .ok (s.2.1 (3 + p.toNatClampNeg))
theorem i_lt10 {p : Int32} (h : ¬ p < 0) : p < 10 ↔ ¬ 9 < p := by
  rw [Int32.lt_iff_toInt_lt, Int32.lt_iff_toInt_lt]
  have h1 : (10 : Int32).toInt = 10 := rfl
  have h2 : (9 : Int32).toInt = 9 := rfl
  omega
theorem i_in10 {p : Int32} (h0 : ¬ p < 0) (h1 : ¬ 9 < p) : ∃ t : Nat, t < 10 ∧ p = Int32.ofNat t := i_ex2 h0 ((i_lt10 h0).mpr h1) (by decide)
theorem a_rule_c {o : Nat} {M : z_Mem} {s : q_S} (hc : c_all o M s) (p : Int32) : F_Sys_rule o p M = some (y_rule s p) := by
  unfold F_Sys_rule F_Sys_checkRule F_Sys_checkRule_J10 y_rule
  by_cases h0 : p < 0
  · simp only [if_pos h0, if_pos (Or.inl h0 : p < 0 ∨ 9 < p)]
    rfl
  · by_cases h1 : 9 < p
    · have h2 : ¬ p < 10 := fun q => (i_lt10 h0).mp q h1
      simp only [if_neg h0, if_neg h2, if_pos (Or.inr h1 : p < 0 ∨ 9 < p)]
      rfl
    · have h2 : p < 10 := (i_lt10 h0).mpr h1
      have h3 : ¬ (p < 0 ∨ 9 < p) := by rintro (q | q) <;> contradiction
      obtain ⟨t, ht, rfl⟩ := i_in10 h0 h1
      have h4 : ¬ (10 : Int32) ≤ Int32.ofNat t := fun q => by
        have := (i_le (a := 10) (b := t) (by decide) (by omega)).mp q
        omega
      have h5 : z_inb (Int32.ofNat t) 10 := (i_inb (by omega)).mpr ht
      simp only [if_neg h0, if_pos h2, if_neg h3, zxp, zb]
      unfold F_Desk_ruleValue
      rw [if_neg h0, if_neg h4, if_pos h5, i_cl (by omega)]
      exact congrArg some (congrArg Except.ok (hc.2.1.2.2.2.2.2.2.1 t ht))
theorem a_rule_m {o : Nat} {N : z_Mem} {s : q_S} (hm : m_all (o + 548) N s) (p : Int32) : m_does o N s (y_rule s p) q_c1 (F_Model_rule (o + 548) p N) := by
  unfold F_Model_rule y_rule
  simp only [zl]
  rw [p_infx (o + 548) p 0 9 1 _ (lo := 0) (hi := 9) (by decide) (by decide)]
  by_cases h0 : p < 0 ∨ 9 < p
  · rw [if_pos h0, if_pos h0, if_neg (by decide : ¬ (1 : Int32) = 0)]
    exact ⟨0, _, rfl, (hm.thr 0).thr 1, q_M.thr.tr q_M.thr, w_same _ _ _ _, fun v hv => by cases hv⟩
  · rw [if_neg h0, if_neg h0, if_pos rfl]
    obtain ⟨t, ht, rfl⟩ := i_in10 (fun q => h0 (Or.inl q)) (fun q => h0 (Or.inr q))
    unfold F_Model_ruled
    have h1 : (3 : Int32) + Int32.ofNat t = Int32.ofNat (3 + t) := i_add 3 t
    rw [h1, if_pos ((i_inb (by omega)).mpr (by omega : 3 + t < 581)), i_cl (by omega), i_cl (by omega)]
    refine ⟨_, _, rfl, hm.thr 0, q_M.thr, w_same _ _ _ _, fun v hv => ?_⟩
    cases hv
    rw [w_addr _ (by omega)]
    have := hm.2.1 (3 + t) (by omega)
    rw [Nat.zero_add] at this
    exact this
def q_oneE (y : q_Y) : Prop := ∀ e, y = .error e → e = 1
theorem g_one {y : q_Y} (h : q_oneE y) : ∀ e (M1 : z_Mem), y = .error e → (fun (e : Nat) (M1 : z_Mem) => if e = 1 then some ((1 : Int32), M1) else none) e M1 = some (q_c1 e, M1) := fun e M1 hy => if_pos (h e hy)
theorem y_rule_1 (s : q_S) (p : Int32) : q_oneE (y_rule s p) := fun e he => by
  unfold y_rule at he
  split at he <;> cases he
  rfl
theorem a_rule {o L : Nat} {S : Nat → Int32} {i : Int32} {M : z_Mem} {s : q_S} {c : z_Mem → Option (Int32 × z_Mem)} (hc : c_all o M s) (hm : m_all (o + 548) M s) (h1 : z_inb (i + (1 : Int32)) L) : ∃ M', Fc_398 o L S i M c = c M' ∧ c_all o M' s ∧ m_all (o + 548) M' s :=
  k_rule q_c1n hm h1 (l_of' hc (a_rule_c hc _) (g_one (y_rule_1 s _))) (fun N hN => a_rule_m hN _)
