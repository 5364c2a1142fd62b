/-! ===== the class's side (out of whole, by program) ===== -/
def g_run (A : q_R) (p : Int) (l : Nat → Nat) : Nat → Int
  | 0 => p
  | k + 1 => g_run A p l k + q_chg A (l k)
theorem g_run_cons {A : q_R} {s : Nat} {L : List Nat} (p : Int) : ∀ k, g_run A p (g_l (s :: L)) (k + 1) = g_run A (p + q_chg A s) (g_l L) k := by
  intro k
  induction k with
  | zero => rfl
  | succ k ih =>
    show g_run A p (g_l (s :: L)) (k + 1) + q_chg A (g_l (s :: L) (k + 1)) = g_run A (p + q_chg A s) (g_l L) k + q_chg A (g_l L k)
    rw [ih]
    rfl
theorem q_prof_run {A : q_R} {n : Int} : ∀ (L : List Nat) (p : Int), q_prof A n p L ↔ ∀ k, k < L.length → g_run A p (g_l L) k ≤ n
  | [], p => ⟨fun _ k hk => absurd hk (Nat.not_lt_zero k), fun _ => trivial⟩
  | s :: L, p => by
    have ih := q_prof_run (A := A) (n := n) L (p + q_chg A s)
    constructor
    · rintro ⟨h1, h2⟩ k hk
      cases k with
      | zero => exact h1
      | succ k =>
        rw [g_run_cons]
        exact ih.mp h2 k (by rw [List.length_cons] at hk; omega)
    · intro h
      refine ⟨h 0 (by rw [List.length_cons]; omega), ih.mpr fun k hk => ?_⟩
      have := h (k + 1) (by rw [List.length_cons]; omega)
      rw [g_run_cons] at this
      exact this
theorem i_addI {a b : Int32} (h1 : -1000 ≤ a.toInt) (h2 : a.toInt ≤ 1000) (h3 : -1000 ≤ b.toInt) (h4 : b.toInt ≤ 1000) : (a + b).toInt = a.toInt + b.toInt := by
  rw [Int32.toInt_add]
  exact Int.bmod_eq_of_le (by omega) (by omega)
theorem i_negI {a : Int32} (h1 : -1000 ≤ a.toInt) (h2 : a.toInt ≤ 1000) : (-a).toInt = - a.toInt := by
  rw [Int32.toInt_neg]
  exact Int.bmod_eq_of_le (by omega) (by omega)
def q_per6 (A : q_R) (r : Nat) : Prop := ∃ p, 1 ≤ p ∧ p ≤ 6 ∧ A (176 + 17 * r) = Int32.ofNat p
theorem q_per6.pe {A : q_R} {r : Nat} (h : q_per6 A r) : (A (176 + 17 * r)).toInt = q_pe A r ∧ 1 ≤ q_pe A r ∧ q_pe A r ≤ 6 := by
  obtain ⟨p, h1, h2, e⟩ := h
  unfold q_pe
  rw [e, i_toInt (by omega), i_cl (by omega)]
  exact ⟨rfl, by omega, by omega⟩
theorem s_pc_I {A : q_R} {s : Nat} (h : q_per6 A (s / 2)) : (s_pc A s).toInt = q_chg A s ∧ -6 ≤ q_chg A s ∧ q_chg A s ≤ 6 := by
  obtain ⟨e, h1, h2⟩ := h.pe
  unfold s_pc q_chg
  by_cases ho : s % 2 = 1
  · rw [if_pos ho, if_pos ho]
    by_cases ha : A (184 + 17 * (s / 2)) = 1
    · rw [if_pos ha, if_pos ha]
      exact ⟨rfl, by omega, by omega⟩
    · rw [if_neg ha, if_neg ha]
      exact ⟨e, by omega, by omega⟩
  · rw [if_neg ho, if_neg ho, i_negI (by omega) (by omega), e]
    exact ⟨rfl, by omega, by omega⟩
theorem s_p_I {A : q_R} {l : Nat → Nat} {p0 : Int32} {n : Nat} (hn : n ≤ 14) (hp : ∀ k, k < n → q_per6 A (l k / 2)) (h1 : -100 ≤ p0.toInt) (h2 : p0.toInt ≤ 100) : ∀ k, k ≤ n → (s_p A l p0 k).toInt = g_run A p0.toInt l k ∧ -100 - 6 * (k : Int) ≤ g_run A p0.toInt l k ∧ g_run A p0.toInt l k ≤ 100 + 6 * (k : Int) := by
  intro k
  induction k with
  | zero => exact fun _ => ⟨rfl, by show -100 - 6 * 0 ≤ p0.toInt; omega, by show p0.toInt ≤ 100 + 6 * 0; omega⟩
  | succ k ih =>
    intro hk
    obtain ⟨i1, i2, i3⟩ := ih (by omega)
    obtain ⟨c1, c2, c3⟩ := s_pc_I (hp k (by omega))
    have e : (s_p A l p0 (k + 1)).toInt = g_run A p0.toInt l (k + 1) := by
      show (s_p A l p0 k + s_pc A (l k)).toInt = g_run A p0.toInt l k + q_chg A (l k)
      rw [i_addI (by omega) (by omega) (by omega) (by omega), i1, c1]
    refine ⟨e, ?_, ?_⟩
    · show _ ≤ g_run A p0.toInt l k + q_chg A (l k)
      omega
    · show g_run A p0.toInt l k + q_chg A (l k) ≤ _
      omega
theorem q_sumP_bd {A : q_R} : ∀ (L : List Nat), (∀ r ∈ L, q_per6 A r) → (L.length : Int) ≤ q_sumP A L ∧ q_sumP A L ≤ 6 * (L.length : Int)
  | [], _ => ⟨by show (0 : Int) ≤ 0; omega, by show (0 : Int) ≤ 0; omega⟩
  | r :: L, h => by
    obtain ⟨i1, i2⟩ := q_sumP_bd L (fun x hx => h x (List.mem_cons_of_mem _ hx))
    obtain ⟨e, h1, h2⟩ := (h r (List.mem_cons_self ..)).pe
    rw [List.length_cons]
    constructor
    · show _ ≤ q_pe A r + q_sumP A L
      omega
    · show q_pe A r + q_sumP A L ≤ _
      omega
theorem s_per_I {A : q_R} {t : Nat} {pt : List Nat} (hl : q_li A (37 + 40 * t) (38 + 40 * t) pt) (hp : ∀ r ∈ pt, q_per6 A r ∧ r < 24) (hn : pt.length ≤ 6) : ∀ (k i : Nat) (acc : Int32), i + k = pt.length → 0 ≤ acc.toInt → acc.toInt ≤ 6 * (i : Int) → (s_per A t k i acc).toInt = acc.toInt + q_sumP A (pt.drop i) := by
  intro k
  induction k with
  | zero =>
    intro i acc hi _ _
    rw [List.drop_eq_nil_of_le (by omega)]
    show acc.toInt = acc.toInt + 0
    omega
  | succ k ih =>
    intro i acc hi h0 h1
    have hip : i < pt.length := by omega
    have hm := hp _ (g_l_mem hip)
    obtain ⟨e, h2, h3⟩ := hm.1.pe
    have ei : (A (38 + 40 * t + i)).toNatClampNeg = g_l pt i := by rw [hl.2 i _ (g_l_get hip), i_cl (by omega)]
    have ed : pt.drop i = g_l pt i :: pt.drop (i + 1) := by
      rw [List.drop_eq_getElem_cons hip]
      congr 1
      have := g_l_get hip
      rw [List.getElem?_eq_getElem hip] at this
      exact Option.some.inj this
    show (s_per A t k (i + 1) (acc + A (176 + 17 * (A (38 + 40 * t + i)).toNatClampNeg))).toInt = _
    rw [ei, ed]
    have ea : (acc + A (176 + 17 * g_l pt i)).toInt = acc.toInt + q_pe A (g_l pt i) := by
      rw [i_addI (by omega) (by omega) (by omega) (by omega), e]
    rw [ih (i + 1) _ (by omega) (by omega) (by omega), ea]
    show _ = acc.toInt + (q_pe A (g_l pt i) + q_sumP A (pt.drop (i + 1)))
    omega
theorem q_In.per6 {s : q_S} (hI : q_In s) {r : Nat} (hr : r < q_N s.2.1) : q_per6 s.2.1 r := (hI.2.1.2.2.1 r hr).2.1
theorem q_J.per6 {c A : q_R} (h : q_J c A) {r : Nat} (hr : r < q_N A) : q_per6 A r := (h.2.2.1 r hr).2.1
theorem y_per_I {c A : q_R} {t n : Nat} {rt pt : List Nat} (h : q_J c A) (hL : q_taxiL c A t n rt pt) : (y_per A t).toInt = q_sumP A pt ∧ 0 ≤ q_sumP A pt ∧ q_sumP A pt ≤ 36 := by
  have hN := h.1.2
  have hmem : ∀ r ∈ pt, q_per6 A r ∧ r < 24 := fun r hr => by
    have := ((hL.2.1.2.2.2 r).mp hr).1
    exact ⟨h.per6 this, by omega⟩
  have hb := q_sumP_bd pt (fun r hr => (hmem r hr).1)
  have hn := hL.2.1.2.1
  refine ⟨?_, by omega, by omega⟩
  unfold y_per
  rw [hL.2.1.1.1, i_cl (by omega), s_per_I hL.2.1.1 hmem hn pt.length 0 0 (by omega) (by decide) (by decide), List.drop_zero]
  show 0 + _ = _
  omega
theorem s_ok_prof {c A : q_R} {t n : Nat} {rt pt L : List Nat} {g : q_R} (h : q_J c A) (hL : q_taxiL c A t n rt pt) (hn : n ≤ 6) (en : c (70 + t) = Int32.ofNat n) (hlen : L.length ≤ 14) (hm : ∀ x ∈ L, x < 2 * q_N A) (ho : ∀ k, k < L.length → ¬ c (70 + t) < s_p A (g_l L) (y_per A t) k) : q_prof A n (q_sumP A pt) L := by
  obtain ⟨y1, y2, y3⟩ := y_per_I h hL
  rw [q_prof_run]
  intro k hk
  have hs := (s_p_I (A := A) (l := g_l L) (p0 := y_per A t) hlen (fun k hk => h.per6 (by have := hm _ (g_l_mem hk); omega)) (by omega) (by omega) k (by omega)).1
  have := ho k hk
  rw [en, Int32.lt_iff_toInt_lt, hs, i_toInt (by omega), y1] at this
  omega
theorem g_ofr_pos {r s : Nat} {L : List Nat} (h : s / 2 = r) : q_ofr r (s :: L) = s :: q_ofr r L := List.filter_cons_of_pos (p := fun s => s / 2 == r) (by simp [h])
theorem g_ofr_neg {r s : Nat} {L : List Nat} (h : s / 2 ≠ r) : q_ofr r (s :: L) = q_ofr r L := List.filter_cons_of_neg (p := fun s => s / 2 == r) (by simp [h])
/-- a ride's stops leave a route, or it no longer counts -/
theorem g_prof_in {A A' : q_R} {r : Nat} {n : Int} {q : Nat → Bool} (hq : ∀ s, s / 2 ≠ r → q s = true) (hd : q (2 * r) = false) (hc : ∀ s, s / 2 ≠ r → q_chg A' s = q_chg A s) : ∀ (L : List Nat) (p p' : Int), p' + q_pe A r ≤ p → 0 ≤ q_pe A r → (q_ofr r L = [2 * r] ∨ (q_ofr r L = [] ∧ p' ≤ p)) → q_prof A n p L → q_prof A' n p' (L.filter q)
  | [], _, _, _, _, _, _ => trivial
  | s :: L, p, p', h1, h0, h2, h3 => by
    by_cases hs : s / 2 = r
    · rcases h2 with h2 | ⟨h2, -⟩
      · rw [g_ofr_pos hs] at h2
        injection h2 with e1 e2
        subst e1
        rw [List.filter_cons_of_neg (by rw [hd]; decide)]
        have e3 : q_chg A (2 * r) = - q_pe A r := by
          unfold q_chg
          rw [if_neg (by omega), show 2 * r / 2 = r by omega]
        have h3' := h3.2
        rw [e3] at h3'
        have go : ∀ (L : List Nat) (p p' : Int), p' ≤ p → q_ofr r L = [] → q_prof A n p L → q_prof A' n p' (L.filter q) := by
          intro L
          induction L with
          | nil => intros; trivial
          | cons x L ih =>
            intro p p' hp' ho hpr
            by_cases hx : x / 2 = r
            · rw [g_ofr_pos hx] at ho
              cases ho
            · rw [g_ofr_neg hx] at ho
              rw [List.filter_cons_of_pos (hq x hx)]
              refine ⟨Int.le_trans hp' hpr.1, ?_⟩
              rw [hc x hx]
              exact ih _ _ (by omega) ho hpr.2
        exact go L _ _ (by omega) e2 h3'
      · rw [g_ofr_pos hs] at h2
        cases h2
    · rw [List.filter_cons_of_pos (hq s hs)]
      refine ⟨by have := h3.1; omega, ?_⟩
      rw [hc s hs]
      refine g_prof_in hq hd hc L _ _ (by omega) h0 ?_ h3.2
      rcases h2 with h2 | ⟨h2, h4⟩
      · rw [g_ofr_neg hs] at h2
        exact Or.inl h2
      · rw [g_ofr_neg hs] at h2
        exact Or.inr ⟨h2, by omega⟩
theorem g_prof_none {A A' : q_R} {r : Nat} {n : Int} {q : Nat → Bool} (hq : ∀ s, s / 2 ≠ r → q s = true) (hc : ∀ s, s / 2 ≠ r → q_chg A' s = q_chg A s) : ∀ (L : List Nat) (p p' : Int), p' ≤ p → q_ofr r L = [] → q_prof A n p L → q_prof A' n p' (L.filter q)
  | [], _, _, _, _, _ => trivial
  | x :: L, p, p', hp', ho, hpr => by
    by_cases hx : x / 2 = r
    · rw [g_ofr_pos hx] at ho
      cases ho
    · rw [g_ofr_neg hx] at ho
      rw [List.filter_cons_of_pos (hq x hx)]
      refine ⟨Int.le_trans hp' hpr.1, ?_⟩
      rw [hc x hx]
      exact g_prof_none hq hc L _ _ (by omega) ho hpr.2
theorem g_prof_drop {A A' : q_R} {r : Nat} {n : Int} {q : Nat → Bool} (hq : ∀ s, s / 2 ≠ r → q s = true) (hd : q (2 * r) = false) (hc : ∀ s, s / 2 ≠ r → q_chg A' s = q_chg A s) (hk : q (2 * r + 1) = true → q_chg A' (2 * r + 1) ≤ 0) (h0 : 0 ≤ q_pe A r) (h1 : 0 ≤ q_chg A (2 * r + 1)) : ∀ (L : List Nat) (p p' : Int), p' ≤ p → (q_ofr r L = [2 * r + 1] ∨ (q_ofr r L = [2 * r + 1, 2 * r] ∧ q_chg A (2 * r + 1) = q_pe A r)) → q_prof A n p L → q_prof A' n p' (L.filter q)
  | [], _, _, _, _, _ => trivial
  | s :: L, p, p', hp', h2, h3 => by
    by_cases hs : s / 2 = r
    · have key : s = 2 * r + 1 ∧ (q_ofr r L = [] ∨ (q_ofr r L = [2 * r] ∧ q_chg A (2 * r + 1) = q_pe A r)) := by
        rcases h2 with h2 | ⟨h2, h4⟩
        · rw [g_ofr_pos hs] at h2
          injection h2 with e1 e2
          exact ⟨e1, Or.inl e2⟩
        · rw [g_ofr_pos hs] at h2
          injection h2 with e1 e2
          exact ⟨e1, Or.inr ⟨e2, h4⟩⟩
      obtain ⟨rfl, key⟩ := key
      have rest : ∀ p'', p'' ≤ p → q_prof A' n p'' (L.filter q) := fun p'' hp'' => by
        rcases key with k | ⟨k, h4⟩
        · exact g_prof_none hq hc L _ _ (by omega) k h3.2
        · exact g_prof_in hq hd hc L _ _ (by omega) h0 (Or.inl k) h3.2
      by_cases hqq : q (2 * r + 1) = true
      · rw [List.filter_cons_of_pos hqq]
        have := hk hqq
        exact ⟨Int.le_trans hp' h3.1, rest _ (by omega)⟩
      · rw [List.filter_cons_of_neg hqq]
        exact rest _ hp'
    · rw [List.filter_cons_of_pos (hq s hs)]
      refine ⟨Int.le_trans hp' h3.1, ?_⟩
      rw [hc s hs]
      refine g_prof_drop hq hd hc hk h0 h1 L _ _ (by omega) ?_ h3.2
      rcases h2 with h2 | ⟨h2, h4⟩
      · rw [g_ofr_neg hs] at h2
        exact Or.inl h2
      · rw [g_ofr_neg hs] at h2
        exact Or.inr ⟨h2, h4⟩
/-- one ride and one taxi change -/
theorem q_J.one {c A A' : q_R} {t r : Nat} (h : q_J c A) (h1 : A' 1 = A 1) (h2 : q_scaJ A') (htax : A (180 + 17 * r) = Int32.ofNat t ∨ ¬ (A (173 + 17 * r) = 1 ∨ A (173 + 17 * r) = 2)) (htax' : A' (180 + 17 * r) = Int32.ofNat t ∨ ¬ (A' (173 + 17 * r) = 1 ∨ A' (173 + 17 * r) = 2)) (hT4 : q_T c ≤ 4) (ht4 : t < 4) (hT : ∀ u, u < q_T c → u ≠ t → q_sameT A A' u) (hR : ∀ u, u < q_N A → u ≠ r → q_sameR A A' u) (hrj : r < q_N A → q_rideJ c A' r) (htj : q_taxiJ c A' t) : q_J c A' := by
  have e : q_N A' = q_N A := by
    unfold q_N
    rw [h1]
  refine ⟨⟨by rw [h1, e]; exact h.1.1, by rw [e]; exact h.1.2⟩, h2, fun u hu => ?_, fun u hu => ?_⟩
  · rw [e] at hu
    by_cases hur : u = r
    · subst hur
      exact hrj hu
    · exact (h.2.2.1 u hu).same (hR u hu hur)
  · by_cases hut : u = t
    · subst hut
      exact htj
    · refine (h.2.2.2 u hu).same (by omega) (hT u hu hut) fun v hv => ?_
      rw [e] at hv
      by_cases hvr : v = r
      · subst hvr
        have ne : ∀ (B : q_R), (B (180 + 17 * v) = Int32.ofNat t ∨ ¬ (B (173 + 17 * v) = 1 ∨ B (173 + 17 * v) = 2)) → (¬ B (180 + 17 * v) = Int32.ofNat u ∨ ¬ (B (173 + 17 * v) = 1 ∨ B (173 + 17 * v) = 2)) := fun B hB => by
          rcases hB with q | q
          · refine Or.inl fun q2 => hut ?_
            rw [q] at q2
            exact ((i_eq (by omega) (by omega)).mp q2).symm
          · exact Or.inr q
        exact Or.inr ⟨ne A' htax', fun _ => ne A htax⟩
      · exact Or.inl ⟨hv, hR v hv hvr⟩
/-- a route and a ride that is not aboard change -/
theorem q_J.route {c A A' : q_R} {t r n : Nat} {rt pt L' : List Nat} (h : q_J c A) (hT4 : q_T c ≤ 4) (ht : t < q_T c) (hL : q_taxiL c A t n rt pt) (hn : n ≤ 6) (en : c (70 + t) = Int32.ofNat n) (hr : r < q_N A) (hs1 : A (173 + 17 * r) ≠ 2) (hs2 : A' (173 + 17 * r) ≠ 2) (htax : A (180 + 17 * r) = Int32.ofNat t ∨ A (173 + 17 * r) ≠ 1) (htax' : A' (180 + 17 * r) = Int32.ofNat t ∨ A' (173 + 17 * r) ≠ 1) (hrow : ∀ j, ¬ (24 + 40 * t ≤ j ∧ j < 37 + 40 * t) → j ≠ 173 + 17 * r → j ≠ 180 + 17 * r → j ≠ 184 + 17 * r → A' j = A j) (hab : A' (184 + 17 * r) = 0 ∨ A' (184 + 17 * r) = 1) (hli : q_li A' (24 + 40 * t) (25 + 40 * t) L') (hlen : L'.length ≤ 12) (hst : ∀ x ∈ L', x < 2 * q_N A) (hof : q_ofr r L' = q_should A' t r) (hofs : ∀ u, u ≠ r → q_ofr u L' = q_ofr u rt) (hch : q_chain c A (A (13 + 40 * t)).toNatClampNeg L') (hleft : L' = [] → A (16 + 40 * t) = -1) (hprof : q_prof A' n (q_sumP A pt) L') : q_J c A' := by
  have hN := h.1.2
  have e1 : A' 1 = A 1 := hrow 1 (by omega) (by omega) (by omega) (by omega)
  have eN : q_N A' = q_N A := by unfold q_N; rw [e1]
  have hR : ∀ u, u < q_N A → u ≠ r → q_sameR A A' u := fun u hu hur => ⟨fun j q1 q2 => hrow _ (by omega) (by omega) (by omega) (by omega), hrow _ (by omega) (by omega) (by omega) (by omega), hrow _ (by omega) (by omega) (by omega) (by omega)⟩
  have hz : ∀ x ∈ L', q_zo A' x = q_zo A x := fun x hx => by
    unfold q_zo
    have := hst x hx
    split <;> rw [hrow _ (by omega) (by omega) (by omega) (by omega)]
  have hchain : ∀ (L : List Nat) (z : Nat), (∀ x ∈ L, q_zo A' x = q_zo A x) → q_chain c A z L → q_chain c A' z L := by
    intro L
    induction L with
    | nil => intros; trivial
    | cons x L ih =>
      intro z hx hc
      have e := hx x (List.mem_cons_self ..)
      exact ⟨by rw [e]; exact hc.1, by rw [e]; exact ih _ (fun y hy => hx y (List.mem_cons_of_mem _ hy)) hc.2⟩
  have hsum : ∀ (L : List Nat), (∀ x ∈ L, x < q_N A) → q_sumP A' L = q_sumP A L := by
    intro L
    induction L with
    | nil => intros; rfl
    | cons x L ih =>
      intro hx
      have := hx x (List.mem_cons_self ..)
      show q_pe A' x + q_sumP A' L = q_pe A x + q_sumP A L
      rw [ih (fun y hy => hx y (List.mem_cons_of_mem _ hy))]
      unfold q_pe
      rw [hrow _ (by omega) (by omega) (by omega) (by omega)]
  obtain ⟨⟨z, hz8, ez⟩, -⟩ := h.2.2.2 t ht
  refine h.one e1 ?_ ?_ ?_ hT4 (by omega) (fun u hu hut => ?_) hR (fun _ => ?_) ⟨⟨z, hz8, (hrow _ (by omega) (by omega) (by omega) (by omega)).trans ez⟩, n, hn, en, L', pt, ⟨hli, hlen, fun x hx => by rw [eN]; exact hst x hx, fun u => ?_⟩, ⟨?_, hL.2.1.2.1, hL.2.1.2.2.1, fun u => ?_⟩, ?_, fun q => ?_, ?_⟩
  · obtain ⟨⟨v, hv, ev⟩, h3⟩ := h.2.1
    refine ⟨⟨v, hv, (hrow 2 (by omega) (by omega) (by omega) (by omega)).trans ev⟩, fun k hk => ?_⟩
    obtain ⟨w, hw, ew⟩ := h3 k hk
    exact ⟨w, hw, (hrow _ (by omega) (by omega) (by omega) (by omega)).trans ew⟩
  · rcases htax with q | q
    · exact Or.inl q
    · exact Or.inr (by rintro (z | z) <;> contradiction)
  · rcases htax' with q | q
    · exact Or.inl q
    · exact Or.inr (by rintro (z | z) <;> contradiction)
  · exact ⟨hrow _ (by omega) (by omega) (by omega) (by omega), hrow _ (by omega) (by omega) (by omega) (by omega), fun j q1 q2 => hrow _ (by omega) (by omega) (by omega) (by omega)⟩
  · have hJ := h.2.2.1 r hr
    refine ⟨⟨?_, ?_, hab⟩, ?_, fun q => ?_⟩
    · rw [hrow (174 + 17 * r) (by omega) (by omega) (by omega) (by omega)]
      exact hJ.1.1
    · rw [hrow (175 + 17 * r) (by omega) (by omega) (by omega) (by omega)]
      exact hJ.1.2.1
    · rw [hrow (176 + 17 * r) (by omega) (by omega) (by omega) (by omega)]
      exact hJ.2.1
    · rcases htax' with q' | q'
      · exact ⟨t, ht, q'⟩
      · rcases q with q | q <;> contradiction
  · by_cases hur : u = r
    · subst hur
      exact hof
    · rw [hofs u hur, hL.1.2.2.2 u]
      unfold q_should
      rw [eN]
      by_cases huN : u < q_N A
      · obtain ⟨q1, q2, q3⟩ := hR u huN hur
        rw [q2, q3, q1 173 (by omega) (by omega)]
      · rw [if_neg (fun z => huN z.1), if_neg (fun z => huN z.1)]
  · refine hL.2.1.1.same (hrow _ (by omega) (by omega) (by omega) (by omega)) (fun k hk => hrow _ (by omega) ?_ ?_ ?_) <;> (have := hL.2.1.2.1; omega)
  · rw [hL.2.1.2.2.2 u, eN]
    by_cases hur : u = r
    · subst hur
      exact ⟨fun q => absurd q.2.1 hs1, fun q => absurd q.2.1 hs2⟩
    · by_cases huN : u < q_N A
      · obtain ⟨q1, q2, q3⟩ := hR u huN hur
        rw [q2, q1 173 (by omega) (by omega)]
      · exact ⟨fun q => absurd q.1 huN, fun q => absurd q.1 huN⟩
  · rw [hrow (13 + 40 * t) (by omega) (by omega) (by omega) (by omega)]
    exact hchain L' _ hz hch
  · rw [hrow (16 + 40 * t) (by omega) (by omega) (by omega) (by omega)]
    exact hleft q
  · rw [hsum pt (fun x hx => ((hL.2.1.2.2.2 x).mp hx).1)]
    exact hprof
