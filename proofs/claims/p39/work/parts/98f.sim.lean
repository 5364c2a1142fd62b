/-! ===== the class's side (out of whole, by program) ===== -/
def q_sim (B B' : q_R) (r : Nat) : Prop := (∀ k, k ≠ 173 + 17 * r → ¬ (185 + 17 * r ≤ k ∧ k < 190 + 17 * r) → B' k = B k) ∧ B (173 + 17 * r) ≠ 2 ∧ B' (173 + 17 * r) ≠ 2
section SIM
variable {c B B' : q_R} {r : Nat}
theorem e_T (h : q_sim B B' r) {k : Nat} (hk : k < 173) : B' k = B k := h.1 k (by omega) (by omega)
theorem e_R (h : q_sim B B' r) (j u : Nat) (hj : 174 ≤ j ∧ j < 185) : B' (j + 17 * u) = B (j + 17 * u) := h.1 _ (by omega) (by omega)
theorem e_2 (h : q_sim B B' r) (u : Nat) : B' (173 + 17 * u) = 2 ↔ B (173 + 17 * u) = 2 := by
  by_cases hu : u = r
  · subst hu
    exact ⟨fun q => absurd q h.2.2, fun q => absurd q h.2.1⟩
  · rw [h.1 _ (by omega) (by omega)]
theorem e_zo (h : q_sim B B' r) (s : Nat) : q_zo B' s = q_zo B s := by
  unfold q_zo
  split
  · rw [e_R h 174 _ (by omega)]
  · rw [e_R h 175 _ (by omega)]
theorem e_stay (h : q_sim B B' r) (s : Nat) : s_stay B' s = s_stay B s := by
  unfold s_stay
  rw [e_R h 184 _ (by omega), e_T h (k := 6) (by omega), e_T h (k := 4) (by omega)]
theorem e_lv (h : q_sim B B' r) {t : Nat} (ht : t < 4) (k s : Nat) (w f : Int32) : s_lv B' t k s w f = s_lv B t k s w f := by
  unfold s_lv
  rw [e_T h (k := 16 + 40 * t) (by omega), e_R h 177 _ (by omega), e_T h (k := 0) (by omega)]
theorem e_z (h : q_sim B B' r) {t : Nat} (ht : t < 4) (l : Nat → Nat) (k : Nat) : s_z B' t l k = s_z B t l k := by
  cases k with
  | zero =>
    show (B' (13 + 40 * t)).toNatClampNeg = (B (13 + 40 * t)).toNatClampNeg
    rw [e_T h (by omega)]
  | succ k => exact e_zo h _
theorem e_m (h : q_sim B B' r) {t : Nat} (ht : t < 4) (l : Nat → Nat) (k : Nat) : s_m c B' t l k = s_m c B t l k := by
  unfold s_m
  rw [e_z h ht, e_zo h]
theorem e_w (h : q_sim B B' r) {t : Nat} (ht : t < 4) (l : Nat → Nat) (k : Nat) : s_w c B' t l k = s_w c B t l k := by
  unfold s_w
  rw [e_m h ht]
theorem e_f (h : q_sim B B' r) {t : Nat} (ht : t < 4) (l : Nat → Nat) (k : Nat) : s_f c B' t l k = s_f c B t l k := by
  induction k with
  | zero => exact e_T h (by omega)
  | succ k ih =>
    show s_lv B' t k (l k) (s_w c B' t l k) (s_f c B' t l k) + s_w c B' t l k + s_stay B' (l k) = _
    rw [ih, e_w h ht, e_lv h ht, e_stay h]
    rfl
theorem e_o (h : q_sim B B' r) {t : Nat} (ht : t < 4) (l : Nat → Nat) (k : Nat) : s_o c B' t l k = s_o c B t l k := by
  unfold s_o
  rw [e_f h ht, e_w h ht, e_lv h ht]
theorem e_a (h : q_sim B B' r) {t : Nat} (ht : t < 4) (l : Nat → Nat) (k : Nat) : s_a c B' t l k = s_a c B t l k := by
  unfold s_a
  rw [e_o h ht, e_w h ht]
theorem e_st (h : q_sim B B' r) {t : Nat} (ht : t < 4) (l : Nat → Nat) (k : Nat) : s_st c B' t l k = s_st c B t l k := by
  induction k with
  | zero => exact e_T h (by omega)
  | succ k ih =>
    show (if s_o c B' t l k - s_f c B' t l k < B' 9 then s_st c B' t l k + s_w c B' t l k else s_w c B' t l k) = _
    rw [ih, e_w h ht, e_o h ht, e_f h ht, e_T h (k := 9) (by omega)]
    rfl
theorem e_ways (h : q_sim B B' r) {t : Nat} (ht : t < 4) (l : Nat → Nat) (k : Nat) : s_ways c B' t l k = s_ways c B t l k := by
  induction k with
  | zero => rfl
  | succ k ih =>
    show s_ways c B' t l k + s_w c B' t l k = _
    rw [ih, e_w h ht]
    rfl
theorem e_pc (h : q_sim B B' r) (s : Nat) : s_pc B' s = s_pc B s := by
  unfold s_pc
  rw [e_R h 184 _ (by omega), e_R h 176 _ (by omega)]
theorem e_p (h : q_sim B B' r) (l : Nat → Nat) (p : Int32) (k : Nat) : s_p B' l p k = s_p B l p k := by
  induction k with
  | zero => rfl
  | succ k ih =>
    show s_p B' l p k + s_pc B' (l k) = _
    rw [ih, e_pc h]
    rfl
theorem e_pk (h : q_sim B B' r) {t : Nat} (ht : t < 4) (l : Nat → Nat) (g : q_R) (k : Nat) : s_pk c B' t l g k = s_pk c B t l g k := by
  induction k with
  | zero => rfl
  | succ k ih =>
    show (fun u => if l k = 2 * u + 1 then s_f c B' t l (k + 1) else s_pk c B' t l g k u) = _
    rw [ih, e_f h ht]
    rfl
theorem e_tm (h : q_sim B B' r) {t : Nat} (ht : t < 4) (l : Nat → Nat) (g : q_R) (k : Nat) : s_tm c B' t l g k ↔ s_tm c B t l g k := by
  have e : s_since c B' t l g k (l k / 2) = s_since c B t l g k (l k / 2) := by
    unfold s_since
    rw [e_pk h ht, e_R h 181 _ (by omega)]
    by_cases q : B (173 + 17 * (l k / 2)) = 2
    · rw [if_pos ((e_2 h _).mpr q), if_pos q]
    · rw [if_neg (fun z => q ((e_2 h _).mp z)), if_neg q]
  have e2 : s_mo c B' (l k / 2) = s_mo c B (l k / 2) := by
    unfold s_mo
    rw [e_R h 174 _ (by omega), e_R h 175 _ (by omega), e_R h 179 _ (by omega)]
  unfold s_tm
  rw [e, e2, e_a h ht, e_R h 178 _ (by omega)]
theorem e_ok (h : q_sim B B' r) {t : Nat} (ht : t < 4) (l : Nat → Nat) (p : Int32) (g : q_R) (n : Nat) : s_ok c B' t l p g n ↔ s_ok c B t l p g n := by
  unfold s_ok s_k1 s_con
  rw [e_T h (k := 17 + 40 * t) (by omega), e_f h ht]
  refine and_congr ⟨fun q j hj => ?_, fun q j hj => ?_⟩ (and_congr Iff.rfl ⟨fun q k hk => ?_, fun q k hk => ?_⟩)
  · rw [← e_m h ht]
    exact q j hj
  · rw [e_m h ht]
    exact q j hj
  · obtain ⟨q1, q2, q3⟩ := q k hk
    rw [e_p h] at q1
    rw [e_st h ht, e_T h (k := 8) (by omega)] at q2
    exact ⟨q1, q2, (e_tm h ht l g k).mp q3⟩
  · obtain ⟨q1, q2, q3⟩ := q k hk
    rw [e_p h, e_st h ht, e_T h (k := 8) (by omega)]
    exact ⟨q1, q2, (e_tm h ht l g k).mpr q3⟩
theorem e_per (h : q_sim B B' r) {t : Nat} (ht : t < 4) (hp : (B (37 + 40 * t)).toNatClampNeg ≤ 6) : y_per B' t = y_per B t := by
  have go : ∀ (k i : Nat) (acc : Int32), i + k ≤ 6 → s_per B' t k i acc = s_per B t k i acc := by
    intro k
    induction k with
    | zero => intros; rfl
    | succ k ih =>
      intro i acc hi
      show s_per B' t k (i + 1) (acc + B' (176 + 17 * (B' (38 + 40 * t + i)).toNatClampNeg)) = _
      rw [ih (i + 1) _ (by omega), e_T h (k := 38 + 40 * t + i) (by omega), e_R h 176 _ (by omega)]
      rfl
  unfold y_per
  rw [e_T h (k := 37 + 40 * t) (by omega)]
  exact go _ 0 0 (by omega)
theorem e_best (h : q_sim B B' r) {t : Nat} (ht : t < 4) (hp : (B (37 + 40 * t)).toNatClampNeg ≤ 6) (L : List Nat) : s_best c B' t r L = s_best c B t r L := by
  have etry : ∀ st p d, s_try c B' t r L st p d = s_try c B t r L st p d := fun st p d => by
    have ec : s_cand c B' t r L p d = s_cand c B t r L p d := by
      unfold s_cand
      rw [e_ways h ht, e_ways h ht, e_a h ht, e_a h ht]
    unfold s_try
    rw [ec, e_per h ht hp]
    by_cases q : s_ok c B t (g_l (g_ins L r p d)) (y_per B t) (fun _ => 0) (L.length + 2)
    · rw [if_pos q, if_pos ((e_ok h ht _ _ _ _).mpr q)]
    · rw [if_neg q, if_neg (fun z => q ((e_ok h ht _ _ _ _).mp z))]
  have einner : ∀ k st p d, s_inner c B' t r L st p d k = s_inner c B t r L st p d k := by
    intro k
    induction k with
    | zero => intros; rfl
    | succ k ih =>
      intro st p d
      show s_inner c B' t r L (s_try c B' t r L st p d) p (d + 1) k = _
      rw [etry, ih]
      rfl
  have eouter : ∀ k st p, s_outer c B' t r L st p k = s_outer c B t r L st p k := by
    intro k
    induction k with
    | zero => intros; rfl
    | succ k ih =>
      intro st p
      show s_outer c B' t r L (s_inner c B' t r L st p (p + 1) (L.length + 1 - p)) (p + 1) k = _
      rw [einner, ih]
      rfl
  unfold s_best
  rw [e_T h (k := 16 + 40 * t) (by omega), eouter]
end SIM
def q_v (f t p rd la de st ot ox op od oe : Int32) (j : Nat) : Int32 := match j with
  | 0 => st
  | 1 => f
  | 2 => t
  | 3 => p
  | 4 => rd
  | 5 => la
  | 6 => de
  | 7 => -1
  | 8 => -1
  | 9 => -1
  | 10 => 0
  | 11 => 0
  | 12 => ot
  | 13 => ox
  | 14 => op
  | 15 => od
  | _ => oe
def q_new (A : q_R) (r : Nat) (v : Nat → Int32) : q_R := fun k => if k = 1 then Int32.ofNat (r + 1) else if 173 + 17 * r ≤ k ∧ k < 190 + 17 * r then v (k - (173 + 17 * r)) else A k
theorem q_new_in {A : q_R} {r j : Nat} {v : Nat → Int32} (hj : j < 17) : q_new A r v (173 + 17 * r + j) = v j := by
  unfold q_new
  rw [if_neg (by omega), if_pos ⟨by omega, by omega⟩, show 173 + 17 * r + j - (173 + 17 * r) = j by omega]
theorem q_new_out {A : q_R} {r k : Nat} {v : Nat → Int32} (h1 : k ≠ 1) (h : k < 173 + 17 * r ∨ 190 + 17 * r ≤ k) : q_new A r v k = A k := by
  unfold q_new
  rw [if_neg h1, if_neg (by omega)]
theorem q_new_N {A : q_R} {r : Nat} {v : Nat → Int32} (hr : r < 24) : q_N (q_new A r v) = r + 1 := by
  unfold q_N q_new
  rw [if_pos rfl, i_cl (by omega)]
theorem q_new_w {A : q_R} {r j : Nat} {v v' : Nat → Int32} {x : Int32} (hj : j < 17) (h1 : v' j = x) (h2 : ∀ i, i < 17 → i ≠ j → v' i = v i) : q_w (q_new A r v) (173 + 17 * r + j) x = q_new A r v' := funext fun k => by
  by_cases hk : k = 173 + 17 * r + j
  · subst hk
    rw [q_w_same, q_new_in hj, h1]
  · rw [q_w_ne hk]
    unfold q_new
    by_cases h3 : k = 1
    · rw [if_pos h3, if_pos h3]
    · rw [if_neg h3, if_neg h3]
      by_cases h4 : 173 + 17 * r ≤ k ∧ k < 190 + 17 * r
      · rw [if_pos h4, if_pos h4, h2 _ (by omega) (by omega)]
      · rw [if_neg h4, if_neg h4]
theorem q_new_sim {A : q_R} {r : Nat} {f t p rd la de st ot ox op od oe st' ot' ox' op' od' oe' : Int32} (h : st ≠ 2) (h' : st' ≠ 2) : q_sim (q_new A r (q_v f t p rd la de st ot ox op od oe)) (q_new A r (q_v f t p rd la de st' ot' ox' op' od' oe')) r := by
  refine ⟨fun k h1 h2 => ?_, ?_, ?_⟩
  · unfold q_new
    by_cases h3 : k = 1
    · rw [if_pos h3, if_pos h3]
    · rw [if_neg h3, if_neg h3]
      by_cases h4 : 173 + 17 * r ≤ k ∧ k < 190 + 17 * r
      · rw [if_pos h4, if_pos h4]
        obtain ⟨j, hj, rfl⟩ : ∃ j, (0 < j ∧ j < 12) ∧ k = 173 + 17 * r + j := ⟨k - (173 + 17 * r), by omega, by omega⟩
        rw [show 173 + 17 * r + j - (173 + 17 * r) = j by omega]
        rcases (show j = 1 ∨ j = 2 ∨ j = 3 ∨ j = 4 ∨ j = 5 ∨ j = 6 ∨ j = 7 ∨ j = 8 ∨ j = 9 ∨ j = 10 ∨ j = 11 by omega) with rfl | rfl | rfl | rfl | rfl | rfl | rfl | rfl | rfl | rfl | rfl <;> rfl
      · rw [if_neg h4, if_neg h4]
  · rw [show 173 + 17 * r = 173 + 17 * r + 0 from rfl, q_new_in (by omega)]
    exact h
  · rw [show 173 + 17 * r = 173 + 17 * r + 0 from rfl, q_new_in (by omega)]
    exact h'
/-- a ride more, of no taxi -/
theorem q_In.new {s : q_S} {a b p : Nat} {rd la de st ot ox op od oe : Int32} (h : q_In s) (hr : q_N s.2.1 < 24) (ha : a < 8) (hb : b < 8) (hp1 : 1 ≤ p) (hp6 : p ≤ 6) (hst : st ≠ 1 ∧ st ≠ 2) : q_In (q_row s (q_new s.2.1 (q_N s.2.1) (q_v (Int32.ofNat a) (Int32.ofNat b) (Int32.ofNat p) rd la de st ot ox op od oe))) := by
  have hT4 := h.I.taxis4
  generalize hv : q_v (Int32.ofNat a) (Int32.ofNat b) (Int32.ofNat p) rd la de st ot ox op od oe = v
  have eN := q_new_N (A := s.2.1) (v := v) hr
  have f0 : q_new s.2.1 (q_N s.2.1) v (173 + 17 * q_N s.2.1) = st := by
    rw [show 173 + 17 * q_N s.2.1 = 173 + 17 * q_N s.2.1 + 0 from rfl, q_new_in (by omega), ← hv]
    rfl
  have fj : ∀ j, j < 17 → q_new s.2.1 (q_N s.2.1) v (173 + j + 17 * q_N s.2.1) = v j := fun j hj => by
    rw [show 173 + j + 17 * q_N s.2.1 = 173 + 17 * q_N s.2.1 + j by omega, q_new_in hj]
  suffices hJ : q_J s.1 (q_new s.2.1 (q_N s.2.1) v) from ⟨h.1, hJ, h.2.2.1, h.2.2.2⟩
  refine h.2.1.quiet ⟨?_, by rw [eN]; omega⟩ ?_ (by rw [eN]; omega) (fun t ht => ?_) (fun u hu => ?_)
  · rw [eN]
    unfold q_new
    rw [if_pos rfl]
  · obtain ⟨⟨x, hx, ex⟩, h3⟩ := h.2.1.2.1
    refine ⟨⟨x, hx, (q_new_out (by omega) (by omega)).trans ex⟩, fun k hk => ?_⟩
    obtain ⟨y, hy, ey⟩ := h3 k hk
    exact ⟨y, hy, (q_new_out (by omega) (by omega)).trans ey⟩
  · exact ⟨q_new_out (by omega) (by omega), q_new_out (by omega) (by omega), fun j q1 q2 => q_new_out (by omega) (by omega)⟩
  · rw [eN] at hu
    by_cases hur : u = q_N s.2.1
    · subst hur
      refine Or.inr ⟨⟨⟨⟨a, ha, ?_⟩, ⟨b, hb, ?_⟩, Or.inl ?_⟩, ⟨p, hp1, hp6, ?_⟩, fun q => ?_⟩, ?_, fun q => absurd q (Nat.lt_irrefl _)⟩
      · rw [fj 1 (by omega), ← hv]
        rfl
      · rw [fj 2 (by omega), ← hv]
        rfl
      · rw [fj 11 (by omega), ← hv]
        rfl
      · rw [fj 3 (by omega), ← hv]
        rfl
      · rw [f0] at q
        rcases q with q | q
        · exact absurd q hst.1
        · exact absurd q hst.2
      · rw [f0]
        rintro (q | q)
        · exact hst.1 q
        · exact hst.2 q
    · exact Or.inl ⟨by omega, fun j q1 q2 => q_new_out (by omega) (by omega), q_new_out (by omega) (by omega), q_new_out (by omega) (by omega)⟩
