/-! ===== the class's side (out of whole, by program) ===== -/
def x_kd (t : Nat) : Nat := if t = 32 ∨ t = 10 then 0 else if 97 ≤ t ∧ t ≤ 122 then 1 else if 48 ≤ t ∧ t ≤ 57 then 2 else 3
/-- is there a token's start at q, the bytes' kinds being known up to q -/
def x_st (T : Nat → Nat) (q : Nat) : Bool := decide (x_kd (T q) ≠ 0) && (decide (x_kd (T q) = 3) || decide (q = 0) || decide (x_kd (T (q - 1)) ≠ x_kd (T q)))
/-- how many starts below i -/
def x_cn (T : Nat → Nat) : Nat → Nat
  | 0 => 0
  | i + 1 => x_cn T i + (if x_st T i then 1 else 0)
/-- the start of the token to which byte i belongs -/
def x_ow (T : Nat → Nat) : Nat → Nat
  | 0 => 0
  | i + 1 => if x_st T (i + 1) then i + 1 else x_ow T i
/-- what a token is worth when byte i is the last of it that was read -/
def x_vl (T : Nat → Nat) : Nat → Nat
  | 0 => if x_kd (T 0) = 2 then T 0 - 48 else T 0
  | i + 1 => if x_kd (T (i + 1)) = 2 then (if x_st T (i + 1) then T (i + 1) - 48 else min 1000000 (10 * x_vl T i + T (i + 1) - 48)) else T (i + 1)
/-- how far the bytes of kind k reach from p, in at most f steps -/
def x_rn (T : Nat → Nat) (n k : Nat) : Nat → Nat → Nat
  | 0, p => p
  | f + 1, p => if p < n ∧ x_kd (T p) = k then x_rn T n k f (p + 1) else p
/-- past the blanks from p -/
def x_sk (T : Nat → Nat) (n p : Nat) : Nat := x_rn T n 0 (n - p) p
/-- the end of the token that starts at q -/
def x_en (T : Nat → Nat) (n q : Nat) : Nat := if x_kd (T q) = 3 then q + 1 else x_rn T n (x_kd (T q)) (n - q) q
theorem x_kd_le (t : Nat) : x_kd t ≤ 3 := by
  unfold x_kd
  split
  · omega
  · split
    · omega
    · split <;> omega
theorem x_st_iff {T : Nat → Nat} {q : Nat} : x_st T q = true ↔ x_kd (T q) ≠ 0 ∧ (x_kd (T q) = 3 ∨ q = 0 ∨ x_kd (T (q - 1)) ≠ x_kd (T q)) := by
  unfold x_st
  simp only [Bool.and_eq_true, Bool.or_eq_true, decide_eq_true_eq, or_assoc]
theorem x_rn_spec {T : Nat → Nat} {n k : Nat} : ∀ (f p : Nat), n - p ≤ f → p ≤ n → p ≤ x_rn T n k f p ∧ x_rn T n k f p ≤ n ∧ (∀ r, p ≤ r → r < x_rn T n k f p → x_kd (T r) = k) ∧ (x_rn T n k f p < n → x_kd (T (x_rn T n k f p)) ≠ k)
  | 0, p, hf, hp => ⟨Nat.le_refl _, hp, fun r h1 h2 => absurd h2 (Nat.not_lt.mpr h1), fun h => by
    have h : p < n := h
    omega⟩
  | f + 1, p, hf, hp => by
    unfold x_rn
    by_cases h : p < n ∧ x_kd (T p) = k
    · rw [if_pos h]
      obtain ⟨h1, h2, h3, h4⟩ := x_rn_spec (T := T) (n := n) (k := k) f (p + 1) (by omega) (by omega)
      refine ⟨by omega, h2, fun r hr hr2 => ?_, h4⟩
      by_cases hrp : r = p
      · rw [hrp]
        exact h.2
      · exact h3 r (by omega) hr2
    · rw [if_neg h]
      exact ⟨Nat.le_refl _, hp, fun r h1 h2 => absurd h2 (Nat.not_lt.mpr h1), fun hn hk => h ⟨hn, hk⟩⟩
theorem x_sk_spec {T : Nat → Nat} {n p : Nat} (hp : p ≤ n) : p ≤ x_sk T n p ∧ x_sk T n p ≤ n ∧ (∀ r, p ≤ r → r < x_sk T n p → x_kd (T r) = 0) ∧ (x_sk T n p < n → x_kd (T (x_sk T n p)) ≠ 0) := x_rn_spec _ _ (Nat.le_refl _) hp
theorem x_en_spec {T : Nat → Nat} {n q : Nat} (hq : q < n) : q < x_en T n q ∧ x_en T n q ≤ n ∧ (∀ r, q ≤ r → r < x_en T n q → x_kd (T r) = x_kd (T q)) ∧ (x_en T n q < n → x_kd (T (x_en T n q)) = x_kd (T q) → x_kd (T q) = 3) ∧ (x_kd (T q) = 3 → x_en T n q = q + 1) := by
  unfold x_en
  by_cases h : x_kd (T q) = 3
  · rw [if_pos h]
    exact ⟨by omega, by omega, fun r h1 h2 => by rw [show r = q by omega], fun _ _ => h, fun _ => rfl⟩
  · rw [if_neg h]
    obtain ⟨h1, h2, h3, h4⟩ := x_rn_spec (T := T) (n := n) (k := x_kd (T q)) (n - q) q (Nat.le_refl _) (by omega)
    refine ⟨?_, h2, h3, fun a b => absurd b (h4 a), fun a => absurd a h⟩
    rcases Nat.lt_or_ge q (x_rn T n (x_kd (T q)) (n - q) q) with g | g
    · exact g
    · have e : x_rn T n (x_kd (T q)) (n - q) q = q := Nat.le_antisymm g h1
      rw [e] at h4
      exact absurd rfl (h4 hq)
/-- inside a token no other starts -/
theorem x_in_st {T : Nat → Nat} {n q r : Nat} (hq : q < n) (h1 : q < r) (h2 : r < x_en T n q) (hz : x_kd (T q) ≠ 0) : x_st T r = false := by
  obtain ⟨-, -, h3, -, h5⟩ := x_en_spec (T := T) hq
  have n3 : x_kd (T q) ≠ 3 := fun e => by
    have := h5 e
    omega
  cases hs : x_st T r with
  | false => rfl
  | true =>
    have e := x_st_iff.mp hs
    have a1 := h3 r (by omega) h2
    have a2 := h3 (r - 1) (by omega) (by omega)
    rcases e.2 with g | g | g
    · exact absurd (a1.symm.trans g) n3
    · omega
    · exact absurd (a2.trans a1.symm) g
theorem x_cn_same {T : Nat → Nat} {p : Nat} : ∀ d, (∀ r, p ≤ r → r < p + d → x_st T r = false) → x_cn T (p + d) = x_cn T p
  | 0, _ => rfl
  | d + 1, h => by
    show x_cn T (p + d) + (if x_st T (p + d) then 1 else 0) = _
    rw [h (p + d) (by omega) (by omega), x_cn_same d (fun r h1 h2 => h r h1 (by omega))]
    rfl
theorem x_cn_le (T : Nat → Nat) : ∀ i, x_cn T i ≤ i
  | 0 => Nat.le_refl _
  | i + 1 => by
    have := x_cn_le T i
    show x_cn T i + (if x_st T i then 1 else 0) ≤ i + 1
    split <;> omega
theorem x_cn_mono {T : Nat → Nat} {i : Nat} : ∀ d, x_cn T i ≤ x_cn T (i + d)
  | 0 => Nat.le_refl _
  | d + 1 => Nat.le_trans (x_cn_mono d) (Nat.le_add_right _ _)
theorem x_cn_st {T : Nat → Nat} {q : Nat} (h : x_st T q = true) : x_cn T (q + 1) = x_cn T q + 1 := by
  show x_cn T q + (if x_st T q then 1 else 0) = _
  rw [h]
  rfl
theorem x_cn_lt {T : Nat → Nat} {q i : Nat} (h : x_st T q = true) (hi : q < i) : x_cn T q < x_cn T i := by
  have := x_cn_mono (T := T) (i := q + 1) (i - (q + 1))
  rw [x_cn_st h, show q + 1 + (i - (q + 1)) = i by omega] at this
  omega
/-- the start of a token, what lies before it being a token or blank: where the scanner stops, a token starts -/
theorem x_sk_st {T : Nat → Nat} {n p : Nat} (hp : p ≤ n) (h : x_sk T n p < n) (hb : p = 0 ∨ x_kd (T (p - 1)) = 3 ∨ (p < n → x_kd (T (p - 1)) ≠ x_kd (T p))) : x_st T (x_sk T n p) = true := by
  obtain ⟨h1, h2, h3, h4⟩ := x_sk_spec (T := T) hp
  refine x_st_iff.mpr ⟨h4 h, ?_⟩
  by_cases e : x_sk T n p = p
  · rw [e] at h4 h ⊢
    rcases hb with g | g | g
    · exact Or.inr (Or.inl g)
    · by_cases g3 : x_kd (T p) = 3
      · exact Or.inl g3
      · exact Or.inr (Or.inr (fun q => g3 (q.symm.trans g)))
    · exact Or.inr (Or.inr (g h))
  · refine Or.inr (Or.inr (fun q => ?_))
    rw [h3 (x_sk T n p - 1) (by omega) (by omega)] at q
    exact h4 h q.symm
/-- the token behind the one that starts at q: its number is the next one -/
theorem x_next {T : Nat → Nat} {n q : Nat} (hq : q < n) (hs : x_st T q = true) : x_cn T (x_sk T n (x_en T n q)) = x_cn T q + 1 ∧ (x_sk T n (x_en T n q) < n → x_st T (x_sk T n (x_en T n q)) = true) ∧ q < x_sk T n (x_en T n q) ∧ x_sk T n (x_en T n q) ≤ n := by
  obtain ⟨e1, e2, e3, e4, e5⟩ := x_en_spec (T := T) hq
  obtain ⟨s1, s2, s3, s4⟩ := x_sk_spec (T := T) e2
  have hz := (x_st_iff.mp hs).1
  refine ⟨?_, fun h => x_sk_st e2 h ?_, by omega, s2⟩
  · have c1 := x_cn_same (T := T) (p := q + 1) (x_sk T n (x_en T n q) - (q + 1)) (fun r h1 h2 => by
      by_cases hr : r < x_en T n q
      · exact x_in_st hq (by omega) hr hz
      · have k0 := s3 r (by omega) (by omega)
        cases hh : x_st T r with
        | false => rfl
        | true => exact absurd k0 (x_st_iff.mp hh).1)
    rw [show q + 1 + (x_sk T n (x_en T n q) - (q + 1)) = x_sk T n (x_en T n q) by omega, x_cn_st hs] at c1
    exact c1
  · by_cases k3 : x_kd (T q) = 3
    · refine Or.inr (Or.inl ?_)
      rw [e3 _ (by omega) (by omega)]
      exact k3
    · refine Or.inr (Or.inr (fun h => fun g => ?_))
      rw [e3 _ (by omega) (by omega)] at g
      exact k3 (e4 h g.symm)
