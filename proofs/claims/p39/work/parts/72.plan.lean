/-! ===== the class's side (out of whole, by program) ===== -/
def i_mx (a b : Int32) : Int32 := if a < b then b else a
def s_stay (A : q_R) (s : Nat) : Int32 := if s % 2 = 1 ∧ A (184 + 17 * (s / 2)) = 1 then A 6 else A 4
def s_lv (A : q_R) (t k s : Nat) (w f : Int32) : Int32 := if k = 0 ∧ A (16 + 40 * t) ≠ -1 then A (16 + 40 * t) else if s % 2 = 1 then i_mx (if k = 0 then i_mx f (A 0) else f) (A (177 + 17 * (s / 2)) - w) else if k = 0 then i_mx f (A 0) else f
def s_z (A : q_R) (t : Nat) (l : Nat → Nat) : Nat → Nat
  | 0 => (A (13 + 40 * t)).toNatClampNeg
  | k + 1 => q_zo A (l k)
def s_m (c A : q_R) (t : Nat) (l : Nat → Nat) (k : Nat) : Int32 := c (8 * s_z A t l k + q_zo A (l k))
def s_w (c A : q_R) (t : Nat) (l : Nat → Nat) (k : Nat) : Int32 := if s_m c A t l k < 0 then 0 else s_m c A t l k
def s_f (c A : q_R) (t : Nat) (l : Nat → Nat) : Nat → Int32
  | 0 => A (14 + 40 * t)
  | k + 1 => s_lv A t k (l k) (s_w c A t l k) (s_f c A t l k) + s_w c A t l k + s_stay A (l k)
def s_o (c A : q_R) (t : Nat) (l : Nat → Nat) (k : Nat) : Int32 := s_lv A t k (l k) (s_w c A t l k) (s_f c A t l k)
def s_a (c A : q_R) (t : Nat) (l : Nat → Nat) (k : Nat) : Int32 := s_o c A t l k + s_w c A t l k
def s_st (c A : q_R) (t : Nat) (l : Nat → Nat) : Nat → Int32
  | 0 => A (15 + 40 * t)
  | k + 1 => if s_o c A t l k - s_f c A t l k < A 9 then s_st c A t l k + s_w c A t l k else s_w c A t l k
def s_ways (c A : q_R) (t : Nat) (l : Nat → Nat) : Nat → Int32
  | 0 => 0
  | k + 1 => s_ways c A t l k + s_w c A t l k
def s_con (c A : q_R) (t : Nat) (l : Nat → Nat) (k : Nat) : Prop := ∀ j, j < k → s_m c A t l j ≠ -1
def s_pc (A : q_R) (s : Nat) : Int32 := if s % 2 = 1 then (if A (184 + 17 * (s / 2)) = 1 then 0 else A (176 + 17 * (s / 2))) else - A (176 + 17 * (s / 2))
def s_p (A : q_R) (l : Nat → Nat) (p : Int32) : Nat → Int32
  | 0 => p
  | k + 1 => s_p A l p k + s_pc A (l k)
def s_pk (c A : q_R) (t : Nat) (l : Nat → Nat) (g : q_R) : Nat → q_R
  | 0 => g
  | k + 1 => fun r => if l k = 2 * r + 1 then s_f c A t l (k + 1) else s_pk c A t l g k r
def s_mo (c A : q_R) (r : Nat) : Int32 := q_most (q_way c (A (174 + 17 * r)) (A (175 + 17 * r))) (A (179 + 17 * r))
def s_since (c A : q_R) (t : Nat) (l : Nat → Nat) (g : q_R) (k r : Nat) : Int32 := if A (173 + 17 * r) = 2 then A (181 + 17 * r) else s_pk c A t l g k r
def s_tm (c A : q_R) (t : Nat) (l : Nat → Nat) (g : q_R) (k : Nat) : Prop := if l k % 2 = 1 then ¬ A (178 + 17 * (l k / 2)) < s_a c A t l k else ¬ s_since c A t l g k (l k / 2) + s_mo c A (l k / 2) < s_a c A t l k
def s_k1 (c A : q_R) (t : Nat) (l : Nat → Nat) (p : Int32) (g : q_R) (k : Nat) : Prop := ¬ c (70 + t) < s_p A l p k ∧ ¬ A 8 < s_st c A t l (k + 1) ∧ s_tm c A t l g k
def s_ok (c A : q_R) (t : Nat) (l : Nat → Nat) (p : Int32) (g : q_R) (n : Nat) : Prop := s_con c A t l n ∧ (n = 0 ∨ ¬ A (17 + 40 * t) < s_f c A t l n) ∧ ∀ k, k < n → s_k1 c A t l p g k
/-- each drop has its pickup ahead of it, or its party is aboard -/
def s_fresh (A : q_R) (l : Nat → Nat) (n : Nat) : Prop := ∀ k, k < n → l k % 2 = 0 → A (173 + 17 * (l k / 2)) = 2 ∨ ∃ j, j < k ∧ l j = l k + 1
theorem s_pk_ahead {c A : q_R} {t : Nat} {l : Nat → Nat} (g g' : q_R) (r : Nat) : ∀ k, (∃ j, j < k ∧ l j = 2 * r + 1) → s_pk c A t l g k r = s_pk c A t l g' k r := by
  intro k
  induction k with
  | zero => rintro ⟨j, hj, -⟩; omega
  | succ k ih =>
    rintro ⟨j, hj, e⟩
    show (if l k = 2 * r + 1 then _ else _) = (if l k = 2 * r + 1 then _ else _)
    by_cases h : l k = 2 * r + 1
    · rw [if_pos h, if_pos h]
    · rw [if_neg h, if_neg h]
      refine ih ⟨j, ?_, e⟩
      by_cases hjk : j = k
      · subst hjk
        contradiction
      · omega
theorem s_since_ahead {c A : q_R} {t n : Nat} {l : Nat → Nat} (hf : s_fresh A l n) (g g' : q_R) {k : Nat} (hk : k < n) (he : l k % 2 = 0) : s_since c A t l g k (l k / 2) = s_since c A t l g' k (l k / 2) := by
  unfold s_since
  rcases hf k hk he with h | ⟨j, hj, e⟩
  · rw [if_pos h, if_pos h]
  · rw [s_pk_ahead g g' (l k / 2) k ⟨j, hj, by omega⟩]
theorem s_tm_any {c A : q_R} {t n : Nat} {l : Nat → Nat} (hf : s_fresh A l n) (g g' : q_R) {k : Nat} (hk : k < n) : s_tm c A t l g k ↔ s_tm c A t l g' k := by
  unfold s_tm
  by_cases h : l k % 2 = 1
  · rw [if_pos h, if_pos h]
  · rw [if_neg h, if_neg h, s_since_ahead hf g g' hk (by omega)]
theorem s_ok_any {c A : q_R} {t n : Nat} {l : Nat → Nat} {p : Int32} (hf : s_fresh A l n) (g g' : q_R) : s_ok c A t l p g n ↔ s_ok c A t l p g' n := by
  unfold s_ok s_k1
  refine and_congr Iff.rfl (and_congr Iff.rfl ⟨fun h k hk => ?_, fun h k hk => ?_⟩)
  · exact ⟨(h k hk).1, (h k hk).2.1, (s_tm_any hf g g' hk).mp (h k hk).2.2⟩
  · exact ⟨(h k hk).1, (h k hk).2.1, (s_tm_any hf g g' hk).mpr (h k hk).2.2⟩
theorem s_m_w {c A : q_R} {t : Nat} {l : Nat → Nat} {k : Nat} (hJ : q_conJ c) (hz : s_z A t l k < 8) (hz' : q_zo A (l k) < 8) (h : s_m c A t l k ≠ -1) : s_m c A t l k = s_w c A t l k ∧ ∃ w, w ≤ 25344 ∧ s_w c A t l k = Int32.ofNat w := by
  obtain ⟨W, h1, h2, -⟩ := hJ
  have e := h1 _ _ hz hz'
  unfold s_w
  unfold s_m at h ⊢
  cases hW : W (s_z A t l k) (q_zo A (l k)) with
  | none =>
    rw [hW] at e
    exact absurd e h
  | some w =>
    rw [hW] at e
    have hw := h2 _ _ w hz hz' hW
    rw [e]
    have e2 : (if q_oi (some w) < 0 then 0 else q_oi (some w)) = Int32.ofNat w := if_neg (i_nn (by omega))
    exact ⟨e2.symm, w, hw, e2⟩
