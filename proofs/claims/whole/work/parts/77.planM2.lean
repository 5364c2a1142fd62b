/-! ===== PURE: the reference's plan of times and limits ===== -/
def m_times (N : z_Mem) (m : Nat) (c A : q_R) (t : Nat) (l : Nat → Nat) (i n : Nat) : Prop := ∀ k, i ≤ k → k < n → N.1 (m + 14) k = s_o c A t l k ∧ N.1 (m + 15) k = s_a c A t l k ∧ N.1 (m + 16) k = s_f c A t l (k + 1) ∧ N.1 (m + 17) k = s_st c A t l (k + 1) ∧ N.1 (m + 18) k = s_w c A t l k
theorem q_b.of {x : Int32} {P Q : Prop} (h : q_b x P) (hPQ : P ↔ Q) : q_b x Q := by
  rcases h with h | h
  · exact Or.inl ⟨h.1, hPQ.mp h.2⟩
  · exact Or.inr ⟨h.1, fun q => h.2 (hPQ.mpr q)⟩
theorem m_greater (a b : Int32) (N : z_Mem) : F_Model_greater a b N = some (i_mx a b) := by
  unfold F_Model_greater
  rw [← i_mx_le]
  split <;> rfl
section PLM
variable {m t i r : Nat} {s : q_S} {l : Nat → Nat} {N : z_Mem} {rec : Int32 → Int32 → Int32 → Int32 → Int32 → Int32 → Int32 → z_Mem → Option (Int32 × z_Mem)} {st p b fr : Int32}
theorem m_J459 (hI : q_In s) (hm : m_all m N s) (hs : l i < 2 * q_N s.2.1) (hi : i < 14) (hl : N.1 (m + 13) i = Int32.ofNat (l i)) : F_Model_plans_J459 m rec (Int32.ofNat t) st p b (Int32.ofNat i) N = rec (Int32.ofNat t) (Int32.ofNat (q_zo s.2.1 (l i))) (N.1 (m + 16) i) st p b (Int32.ofNat (i + 1)) N := by
  unfold F_Model_plans_J459
  have hz : z_inb (Int32.ofNat i) 14 := (i_inb (by omega)).mpr hi
  have ci : (Int32.ofNat i).toNatClampNeg = i := i_cl (by omega)
  simp only [ci]
  simp only [zl]
  rw [if_pos hz, if_pos hz, hl, zb_ok (m_zoneOf hI hm hs).1, i_succ]
theorem m_J311 {g : q_R} {P : Prop} {x : Int32} (hI : q_In s) (hm : m_all m N s) (hs : l i < 2 * q_N s.2.1) (hi : i < 14) (hl : N.1 (m + 13) i = Int32.ofNat (l i)) (ha : N.1 (m + 15) i = s_a s.1 s.2.1 t l i) (hf : N.1 (m + 16) i = s_f s.1 s.2.1 t l (i + 1)) (hg : ∀ r, r < 24 → N.1 (m + 19) r = s_pk s.1 s.2.1 t l g i r) (hb : q_b b P) (hx : x = if l i % 2 = 1 ∧ s.2.1 (184 + 17 * (l i / 2)) = 1 then 1 else 0) :
    ∃ b' N', F_Model_plans_J311 m rec (Int32.ofNat t) st p (Int32.ofNat i) (Int32.ofNat (l i / 2)) (if l i % 2 = 1 then 1 else 0) x b N = rec (Int32.ofNat t) (Int32.ofNat (q_zo s.2.1 (l i))) (s_f s.1 s.2.1 t l (i + 1)) st (p + s_pc s.2.1 (l i)) b' (Int32.ofNat (i + 1)) N' ∧ q_b b' (P ∧ s_tm s.1 s.2.1 t l g i) ∧ m_pl m N N' ∧ (∀ x, x ≠ m + 19 → N'.1 x = N.1 x) ∧ ∀ r, r < 24 → N'.1 (m + 19) r = s_pk s.1 s.2.1 t l g (i + 1) r := by
  have hN := hI.I.rides24
  have hr : l i / 2 < q_N s.2.1 := by omega
  have hz : z_inb (Int32.ofNat i) 14 := (i_inb (by omega)).mpr hi
  have hz8 : z_inb (Int32.ofNat (l i / 2)) 24 := (i_inb (by omega)).mpr (by omega)
  have ci : (Int32.ofNat i).toNatClampNeg = i := i_cl (by omega)
  have cr : (Int32.ofNat (l i / 2)).toNatClampNeg = l i / 2 := i_cl (by omega)
  have hrI := (hI.2.1.2.2.1 _ hr).1
  have of8 : F_Model_of m (Int32.ofNat (l i / 2)) 8 N = some (s.2.1 (181 + 17 * (l i / 2))) := by
    rw [m_ofL (kl := 8) hm 8 (by omega) (by omega) rfl]
    exact congrArg some (congrArg s.2.1 (by omega))
  have of3 : ∀ N, m_all m N s → F_Model_of m (Int32.ofNat (l i / 2)) 3 N = some (s.2.1 (176 + 17 * (l i / 2))) := fun N hm => by
    rw [m_ofL (kl := 3) hm 3 (by omega) (by omega) rfl]
    exact congrArg some (congrArg s.2.1 (by omega))
  have of5 : F_Model_of m (Int32.ofNat (l i / 2)) 5 N = some (s.2.1 (178 + 17 * (l i / 2))) := by
    rw [m_ofL (kl := 5) hm 5 (by omega) (by omega) rfl]
    exact congrArg some (congrArg s.2.1 (by omega))
  have of0 : F_Model_of m (Int32.ofNat (l i / 2)) 0 N = some (s.2.1 (173 + 17 * (l i / 2))) := m_ofL (kl := 0) hm 0 (by omega) (by omega) rfl
  by_cases ho : l i % 2 = 1
  · -- a pickup
    have h345 : ∀ b', F_Model_plans_J345 m rec (Int32.ofNat t) st p (Int32.ofNat i) (Int32.ofNat (l i / 2)) x b' N = rec (Int32.ofNat t) (Int32.ofNat (q_zo s.2.1 (l i))) (s_f s.1 s.2.1 t l (i + 1)) st (p + s_pc s.2.1 (l i)) b' (Int32.ofNat (i + 1)) (z_wI N (m + 19) (l i / 2) (s_f s.1 s.2.1 t l (i + 1))) := fun b' => by
      unfold F_Model_plans_J345 F_Model_plans_J379
      rw [if_pos hz, if_pos hz8, ci, cr, hf]
      simp only [zl]
      have p1 : m_pl m N (z_wI N (m + 19) (l i / 2) (s_f s.1 s.2.1 t l (i + 1))) := m_pl.rfl'.w (by omega) (by omega)
      have e13 : (z_wI N (m + 19) (l i / 2) (s_f s.1 s.2.1 t l (i + 1))).1 (m + 13) i = Int32.ofNat (l i) := (w_addr _ (by omega)).trans hl
      have e16 : (z_wI N (m + 19) (l i / 2) (s_f s.1 s.2.1 t l (i + 1))).1 (m + 16) i = s_f s.1 s.2.1 t l (i + 1) := (w_addr _ (by omega)).trans hf
      by_cases hx1 : s.2.1 (184 + 17 * (l i / 2)) = 1
      · have ex : ¬ x = 0 := by rw [hx, if_pos ⟨ho, hx1⟩]; decide
        rw [if_neg ex, m_J459 hI (p1.all hm) hs hi e13, e16, show s_pc s.2.1 (l i) = 0 by unfold s_pc; rw [if_pos ho, if_pos hx1]]
      · have ex : x = 0 := by rw [hx, if_neg (fun q => hx1 q.2)]
        rw [if_pos ex, zb_ok (of3 _ (p1.all hm)), m_J459 hI (p1.all hm) hs hi e13, e16, show s_pc s.2.1 (l i) = s.2.1 (176 + 17 * (l i / 2)) by unfold s_pc; rw [if_pos ho, if_neg hx1]]
    have hk : ∀ r, r < 24 → (z_wI N (m + 19) (l i / 2) (s_f s.1 s.2.1 t l (i + 1))).1 (m + 19) r = s_pk s.1 s.2.1 t l g (i + 1) r := fun r hr' => by
      show _ = (if l i = 2 * r + 1 then s_f s.1 s.2.1 t l (i + 1) else s_pk s.1 s.2.1 t l g i r)
      by_cases hrr : r = l i / 2
      · rw [hrr, w_same, if_pos (by omega)]
      · rw [w_slot _ hrr, if_neg (by omega), hg r hr']
    suffices hh : ∃ b', q_b b' (P ∧ s_tm s.1 s.2.1 t l g i) ∧ F_Model_plans_J311 m rec (Int32.ofNat t) st p (Int32.ofNat i) (Int32.ofNat (l i / 2)) (if l i % 2 = 1 then 1 else 0) x b N = F_Model_plans_J345 m rec (Int32.ofNat t) st p (Int32.ofNat i) (Int32.ofNat (l i / 2)) x b' N by
      obtain ⟨b', h1, h2⟩ := hh
      exact ⟨b', z_wI N (m + 19) (l i / 2) (s_f s.1 s.2.1 t l (i + 1)), h2.trans (h345 b'), h1, m_pl.rfl'.w (by omega) (by omega), fun x hx => funext fun k => w_addr k hx, hk⟩
    have htm : s_tm s.1 s.2.1 t l g i ↔ ¬ s.2.1 (178 + 17 * (l i / 2)) < s_a s.1 s.2.1 t l i := by
      unfold s_tm
      rw [if_pos ho]
    rcases hb with ⟨hb1, hP⟩ | ⟨hb0, hP⟩
    · by_cases hlt : s.2.1 (178 + 17 * (l i / 2)) < s_a s.1 s.2.1 t l i
      · refine ⟨0, Or.inr ⟨rfl, fun q => htm.mp q.2 hlt⟩, ?_⟩
        unfold F_Model_plans_J311 F_Model_plans_J344
        rw [if_pos ho, if_neg (by decide), hb1, if_neg (by decide), if_pos hz, ci, zb_ok of5, ha, if_pos hlt]
      · refine ⟨1, Or.inl ⟨rfl, hP, htm.mpr hlt⟩, ?_⟩
        unfold F_Model_plans_J311 F_Model_plans_J344
        rw [if_pos ho, if_neg (by decide), hb1, if_neg (by decide), if_pos hz, ci, zb_ok of5, ha, if_neg hlt]
    · refine ⟨0, Or.inr ⟨rfl, fun q => hP q.1⟩, ?_⟩
      unfold F_Model_plans_J311 F_Model_plans_J344
      rw [if_pos ho, if_neg (by decide), hb0, if_pos rfl]
  · -- a drop
    have h445 : ∀ b', F_Model_plans_J445 m rec (Int32.ofNat t) st p (Int32.ofNat i) (Int32.ofNat (l i / 2)) b' N = rec (Int32.ofNat t) (Int32.ofNat (q_zo s.2.1 (l i))) (s_f s.1 s.2.1 t l (i + 1)) st (p + s_pc s.2.1 (l i)) b' (Int32.ofNat (i + 1)) N := fun b' => by
      unfold F_Model_plans_J445
      rw [zb_ok (of3 _ hm)]
      simp only [zl]
      rw [m_J459 hI hm hs hi hl, hf, show s_pc s.2.1 (l i) = - s.2.1 (176 + 17 * (l i / 2)) by unfold s_pc; rw [if_neg ho], Int32.sub_eq_add_neg]
    have hk : ∀ r, r < 24 → N.1 (m + 19) r = s_pk s.1 s.2.1 t l g (i + 1) r := fun r hr' => by
      show _ = (if l i = 2 * r + 1 then s_f s.1 s.2.1 t l (i + 1) else s_pk s.1 s.2.1 t l g i r)
      rw [if_neg (by omega), hg r hr']
    have h414 : ∀ y, y = s_since s.1 s.2.1 t l g i (l i / 2) → ∃ b', q_b b' (P ∧ s_tm s.1 s.2.1 t l g i) ∧ F_Model_plans_J414 m rec (Int32.ofNat t) st p b (Int32.ofNat i) (Int32.ofNat (l i / 2)) y N = F_Model_plans_J445 m rec (Int32.ofNat t) st p (Int32.ofNat i) (Int32.ofNat (l i / 2)) b' N := fun y hy => by
      have htm : s_tm s.1 s.2.1 t l g i ↔ ¬ y + s_mo s.1 s.2.1 (l i / 2) < s_a s.1 s.2.1 t l i := by
        unfold s_tm
        rw [if_neg ho, hy]
      unfold F_Model_plans_J414 F_Model_plans_J444
      rcases hb with ⟨hb1, hP⟩ | ⟨hb0, hP⟩
      · rw [hb1, if_neg (by decide), if_pos hz, ci, zb_ok (a_most_m hm (by omega) hrI), ha]
        by_cases hlt : y + s_mo s.1 s.2.1 (l i / 2) < s_a s.1 s.2.1 t l i
        · exact ⟨0, Or.inr ⟨rfl, fun q => htm.mp q.2 hlt⟩, if_pos hlt⟩
        · exact ⟨1, Or.inl ⟨rfl, hP, htm.mpr hlt⟩, if_neg hlt⟩
      · rw [hb0, if_pos rfl]
        exact ⟨0, Or.inr ⟨rfl, fun q => hP q.1⟩, rfl⟩
    obtain ⟨b', hb', e⟩ := h414 _ rfl
    refine ⟨b', N, ?_, hb', m_pl.rfl', fun _ _ => rfl, hk⟩
    rw [← h445 b', ← e]
    unfold F_Model_plans_J311 s_since
    rw [if_neg ho, if_pos rfl, zb_ok of0]
    by_cases h2 : s.2.1 (173 + 17 * (l i / 2)) = 2
    · rw [if_pos h2, zb_ok of8, if_pos h2]
    · rw [if_neg h2, if_pos hz8, cr, hg _ (by omega), if_neg h2]
end PLM
