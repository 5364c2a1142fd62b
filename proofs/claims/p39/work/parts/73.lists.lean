/-! ===== the class's side (out of whole, by program) ===== -/
def g_l (L : List Nat) : Nat → Nat := fun k => L.getD k 0
theorem g_l_get {L : List Nat} {k : Nat} (h : k < L.length) : L[k]? = some (g_l L k) := by
  unfold g_l
  rw [List.getD_eq_getElem?_getD, List.getElem?_eq_getElem h]
  rfl
theorem g_l_mem {L : List Nat} {k : Nat} (h : k < L.length) : g_l L k ∈ L := List.mem_of_getElem? (g_l_get h)
theorem g_l_of {L : List Nat} {k s : Nat} (h : L[k]? = some s) : k < L.length ∧ g_l L k = s := by
  have hk : k < L.length := by
    rcases Nat.lt_or_ge k L.length with q | q
    · exact q
    · rw [List.getElem?_eq_none q] at h
      cases h
  refine ⟨hk, ?_⟩
  rw [g_l_get hk] at h
  exact Option.some.inj h
theorem i_nm1 {w : Nat} (hw : w < 2 ^ 31) : Int32.ofNat w ≠ -1 := fun h => by
  have := congrArg Int32.toInt h
  rw [i_toInt hw] at this
  have e : (-1 : Int32).toInt = -1 := rfl
  omega
theorem c_tri {c : q_R} (hJ : q_conJ c) {a b d : Nat} (ha : a < 8) (hb : b < 8) (hd : d < 8) (h1 : c (8 * a + b) ≠ -1) (h2 : c (8 * b + d) ≠ -1) : c (8 * a + d) ≠ -1 ∧ (c (8 * a + d)).toNatClampNeg ≤ (c (8 * a + b)).toNatClampNeg + (c (8 * b + d)).toNatClampNeg := by
  obtain ⟨W, g1, g2, g3⟩ := hJ
  rw [g1 a b ha hb] at h1 ⊢
  rw [g1 b d hb hd] at h2 ⊢
  rw [g1 a d ha hd]
  cases hv : W a b with
  | none => rw [hv] at h1; exact absurd rfl h1
  | some v =>
    cases hw : W b d with
    | none => rw [hw] at h2; exact absurd rfl h2
    | some w =>
      obtain ⟨u, hu, hle⟩ := g3 a b d v w ha hb hd hv hw
      have b1 := g2 a b v ha hb hv
      have b2 := g2 b d w hb hd hw
      have b3 := g2 a d u ha hd hu
      rw [hu]
      refine ⟨i_nm1 (by omega), ?_⟩
      show (Int32.ofNat u).toNatClampNeg ≤ (Int32.ofNat v).toNatClampNeg + (Int32.ofNat w).toNatClampNeg
      rw [i_cl (by omega), i_cl (by omega), i_cl (by omega)]
      exact hle
def g_sum (c A : q_R) : Nat → List Nat → Nat
  | _, [] => 0
  | z, s :: l => (c (8 * z + q_zo A s)).toNatClampNeg + g_sum c A (q_zo A s) l
def g_last (A : q_R) : Nat → List Nat → Nat
  | z, [] => z
  | _, s :: l => g_last A (q_zo A s) l
theorem g_skip {c A : q_R} (hJ : q_conJ c) {a : Nat} : ∀ (l : List Nat) (z : Nat), z < 8 → (∀ s ∈ a :: l, q_zo A s < 8) → q_chain c A z (a :: l) → q_chain c A z l ∧ g_sum c A z l ≤ g_sum c A z (a :: l)
  | [], z, hz, hs, h => ⟨trivial, Nat.zero_le _⟩
  | b :: l, z, hz, hs, h => by
    have ha := hs a (List.mem_cons_self ..)
    have hb := hs b (List.mem_cons_of_mem _ (List.mem_cons_self ..))
    obtain ⟨t1, t2⟩ := c_tri hJ hz ha hb h.1 h.2.1
    refine ⟨⟨t1, h.2.2⟩, ?_⟩
    show (c (8 * z + q_zo A b)).toNatClampNeg + g_sum c A (q_zo A b) l ≤ (c (8 * z + q_zo A a)).toNatClampNeg + ((c (8 * q_zo A a + q_zo A b)).toNatClampNeg + g_sum c A (q_zo A b) l)
    omega
theorem g_filter {c A : q_R} (hJ : q_conJ c) (p : Nat → Bool) : ∀ (l : List Nat) (z : Nat), z < 8 → (∀ s ∈ l, q_zo A s < 8) → q_chain c A z l → q_chain c A z (l.filter p)
  | [], _, _, _, _ => trivial
  | a :: l, z, hz, hs, h => by
    have ha := hs a (List.mem_cons_self ..)
    have hs' : ∀ s ∈ l, q_zo A s < 8 := fun s h' => hs s (List.mem_cons_of_mem _ h')
    by_cases hp : p a = true
    · rw [List.filter_cons_of_pos hp]
      exact ⟨h.1, g_filter hJ p l _ ha hs' h.2⟩
    · rw [List.filter_cons_of_neg hp]
      exact g_filter hJ p l z hz hs' (g_skip hJ l z hz hs h).1
theorem g_last_end {A : q_R} (a : Nat) : ∀ (l : List Nat) (z : Nat), g_last A z (l ++ [a]) = q_zo A a
  | [], z => rfl
  | b :: l, z => g_last_end a l _
theorem g_take {L : List Nat} {k : Nat} (h : k < L.length) : L.take (k + 1) = L.take k ++ [g_l L k] := by
  rw [List.take_add_one, g_l_get h]
  rfl
theorem g_last_take {A : q_R} {t : Nat} {L : List Nat} {k : Nat} (hk : k ≤ L.length) : g_last A (A (13 + 40 * t)).toNatClampNeg (L.take k) = s_z A t (g_l L) k := by
  cases k with
  | zero => rfl
  | succ k =>
    rw [g_take (by omega), g_last_end]
    rfl
theorem g_chain_end {c A : q_R} (a : Nat) : ∀ (l : List Nat) (z : Nat), q_chain c A z (l ++ [a]) ↔ q_chain c A z l ∧ c (8 * g_last A z l + q_zo A a) ≠ -1
  | [], z => ⟨fun h => ⟨trivial, h.1⟩, fun h => ⟨h.2, trivial⟩⟩
  | b :: l, z => by
    have ih := g_chain_end (c := c) (A := A) a l (q_zo A b)
    constructor
    · intro h
      have := ih.mp h.2
      exact ⟨⟨h.1, this.1⟩, this.2⟩
    · intro h
      exact ⟨h.1.1, ih.mpr ⟨h.1.2, h.2⟩⟩
theorem g_con {c A : q_R} {t : Nat} {L : List Nat} : ∀ k, k ≤ L.length → (s_con c A t (g_l L) k ↔ q_chain c A (A (13 + 40 * t)).toNatClampNeg (L.take k)) := by
  intro k
  induction k with
  | zero => exact fun _ => ⟨fun _ => trivial, fun _ j hj => by omega⟩
  | succ k ih =>
    intro hk
    have ih := ih (by omega)
    rw [g_take (by omega), g_chain_end, g_last_take (t := t) (by omega), ← ih]
    constructor
    · exact fun h => ⟨fun j hj => h j (by omega), h k (by omega)⟩
    · rintro ⟨h1, h2⟩ j hj
      by_cases hjk : j = k
      · subst hjk
        exact h2
      · exact h1 j (by omega)
theorem g_con' {c A : q_R} {t : Nat} {L : List Nat} : s_con c A t (g_l L) L.length ↔ q_chain c A (A (13 + 40 * t)).toNatClampNeg L := by
  rw [g_con L.length (Nat.le_refl _), List.take_length]
/-- a list with a ride put in at two places -/
def g_ins (L : List Nat) (r p d : Nat) : List Nat := L.take p ++ (2 * r + 1) :: ((L.drop p).take (d - 1 - p) ++ (2 * r) :: L.drop (d - 1))
theorem g_ins_len {L : List Nat} {r p d : Nat} (h1 : p < d) (h2 : d ≤ L.length + 1) : (g_ins L r p d).length = L.length + 2 := by
  unfold g_ins
  rw [List.length_append, List.length_cons, List.length_append, List.length_cons, List.length_take, List.length_take, List.length_drop, List.length_drop]
  omega
theorem g_ins_at {L : List Nat} {r p d : Nat} (h1 : p < d) (h2 : d ≤ L.length + 1) {k : Nat} (hk : k < L.length + 2) : g_l (g_ins L r p d) k = if k < p then g_l L k else if k = p then 2 * r + 1 else if k < d then g_l L (k - 1) else if k = d then 2 * r else g_l L (k - 2) := by
  have e : (g_ins L r p d)[k]? = some (if k < p then g_l L k else if k = p then 2 * r + 1 else if k < d then g_l L (k - 1) else if k = d then 2 * r else g_l L (k - 2)) := by
    unfold g_ins
    have lt : (L.take p).length = p := by rw [List.length_take]; omega
    have lm : ((L.drop p).take (d - 1 - p)).length = d - 1 - p := by rw [List.length_take, List.length_drop]; omega
    rw [List.getElem?_append, lt]
    by_cases q1 : k < p
    · rw [if_pos q1, if_pos q1, List.getElem?_take, if_pos q1, g_l_get (by omega)]
    · rw [if_neg q1, if_neg q1]
      by_cases q2 : k = p
      · rw [if_pos q2, q2, Nat.sub_self, List.getElem?_cons_zero]
      · rw [if_neg q2, show k - p = (k - p - 1) + 1 by omega, List.getElem?_cons_succ, List.getElem?_append, lm]
        by_cases q3 : k < d
        · rw [if_pos (by omega), if_pos q3, List.getElem?_take, if_pos (by omega), List.getElem?_drop, show p + (k - p - 1) = k - 1 by omega, g_l_get (by omega)]
        · rw [if_neg (by omega), if_neg q3]
          by_cases q4 : k = d
          · rw [if_pos q4, show k - p - 1 - (d - 1 - p) = 0 by omega, List.getElem?_cons_zero]
          · rw [if_neg q4, show k - p - 1 - (d - 1 - p) = (k - d - 1) + 1 by omega, List.getElem?_cons_succ, List.getElem?_drop, show d - 1 + (k - d - 1) = k - 2 by omega, g_l_get (by omega)]
  exact (g_l_of e).2
theorem g_ins_mem {L : List Nat} {r p d s : Nat} (h : s ∈ g_ins L r p d) : s ∈ L ∨ s = 2 * r + 1 ∨ s = 2 * r := by
  unfold g_ins at h
  rcases List.mem_append.mp h with h | h
  · exact Or.inl (List.mem_of_mem_take h)
  · rcases List.mem_cons.mp h with h | h
    · exact Or.inr (Or.inl h)
    · rcases List.mem_append.mp h with h | h
      · exact Or.inl (List.mem_of_mem_drop (List.mem_of_mem_take h))
      · rcases List.mem_cons.mp h with h | h
        · exact Or.inr (Or.inr h)
        · exact Or.inl (List.mem_of_mem_drop h)
theorem g_ins_parts {L : List Nat} {p d : Nat} (h1 : p < d) : L.take p ++ ((L.drop p).take (d - 1 - p) ++ L.drop (d - 1)) = L := by
  have e : L.drop (d - 1) = (L.drop p).drop (d - 1 - p) := by
    rw [List.drop_drop]
    congr 1
    omega
  rw [e, List.take_append_drop, List.take_append_drop]
theorem g_ins_ofr {L : List Nat} {r p d : Nat} (h1 : p < d) (r' : Nat) : q_ofr r' (g_ins L r p d) = if r' = r then q_ofr r (L.take p) ++ (2 * r + 1) :: (q_ofr r ((L.drop p).take (d - 1 - p)) ++ (2 * r) :: q_ofr r (L.drop (d - 1))) else q_ofr r' L := by
  have e1 : (2 * r + 1) / 2 = r := by omega
  have e2 : 2 * r / 2 = r := by omega
  unfold g_ins q_ofr
  by_cases h : r' = r
  · subst h
    rw [if_pos rfl, List.filter_append, List.filter_cons_of_pos (by simp [e1]), List.filter_append, List.filter_cons_of_pos (by simp [e2])]
  · have hn : ¬ r = r' := fun q => h q.symm
    rw [if_neg h, List.filter_append, List.filter_cons_of_neg (by simp [e1, hn]), List.filter_append, List.filter_cons_of_neg (by simp [e2, hn]), ← List.filter_append, ← List.filter_append, g_ins_parts h1]
/-- the first of two stops of a ride lies ahead of the second -/
theorem g_ahead {p : Nat → Bool} {a b : Nat} {L : List Nat} (h : L.filter p = [a, b]) (hab : a ≠ b) {k : Nat} (hk : k < L.length) (hb : g_l L k = b) : ∃ j, j < k ∧ g_l L j = a := by
  have hpb : p b = true := by
    have : b ∈ L.filter p := by rw [h]; simp
    exact (List.mem_filter.mp this).2
  have e : L = L.take k ++ b :: L.drop (k + 1) := by
    conv => lhs; rw [← List.take_append_drop k L]
    congr 1
    rw [List.drop_eq_getElem_cons hk]
    congr 1
    have := g_l_get hk
    rw [List.getElem?_eq_getElem hk, hb] at this
    exact Option.some.inj this
  rw [e, List.filter_append, List.filter_cons_of_pos hpb] at h
  cases hf : (L.take k).filter p with
  | nil =>
    rw [hf, List.nil_append] at h
    injection h with h1 h2
    exact absurd h1.symm hab
  | cons x l =>
    rw [hf, List.cons_append] at h
    injection h with h1 h2
    have hx : a ∈ (L.take k).filter p := by rw [hf, h1]; exact List.mem_cons_self ..
    have hx := (List.mem_filter.mp hx).1
    obtain ⟨j, hj⟩ := List.mem_iff_getElem?.mp hx
    rw [List.getElem?_take] at hj
    split at hj
    · rename_i hjk
      exact ⟨j, hjk, (g_l_of hj).2⟩
    · cases hj
theorem q_taxiL.fresh {c A : q_R} {t n : Nat} {rt pt : List Nat} (h : q_taxiL c A t n rt pt) : s_fresh A (g_l rt) rt.length := fun k hk he => by
  have hm := q_ofr_mem (g_l_mem hk)
  generalize hr : g_l rt k / 2 = r at hm ⊢
  have hs : g_l rt k = 2 * r := by omega
  rw [hs] at hm ⊢
  have e := h.1.2.2.2 r
  rw [e] at hm
  unfold q_should at hm e
  split at hm
  · rename_i h1
    rw [if_pos h1] at e
    split at hm
    · rename_i h2
      rw [if_pos h2] at e
      split at hm
      · rw [List.mem_singleton] at hm
        omega
      · rename_i h3
        rw [if_neg h3] at e
        exact Or.inr (g_ahead e (by omega) hk hs)
    · split at hm
      · exact Or.inl (by assumption)
      · cases hm
  · cases hm
theorem g_ins_fresh {A : q_R} {L : List Nat} {r p d : Nat} (h1 : p < d) (h2 : d ≤ L.length + 1) (hf : s_fresh A (g_l L) L.length) : s_fresh A (g_l (g_ins L r p d)) (L.length + 2) := fun k hk => by
  have up : ∀ i, i < L.length → g_l L i % 2 = 0 → ∀ m, (∀ j, j < i → ∃ j', j' < m ∧ g_l (g_ins L r p d) j' = g_l L j) → A (173 + 17 * (g_l L i / 2)) = 2 ∨ ∃ j, j < m ∧ g_l (g_ins L r p d) j = g_l L i + 1 := fun i hi he m hm => by
    rcases hf i hi he with q | ⟨j, hj, e⟩
    · exact Or.inl q
    · obtain ⟨j', hj', e'⟩ := hm j hj
      exact Or.inr ⟨j', hj', e'.trans e⟩
  have mv : ∀ j m, j < L.length → (j < p ∧ j < m ∨ p ≤ j ∧ j + 1 < d ∧ j + 1 < m ∨ d ≤ j + 1 ∧ j + 2 < m) → ∃ j', j' < m ∧ g_l (g_ins L r p d) j' = g_l L j := fun j m hj q => by
    rcases q with q | q | q
    · exact ⟨j, q.2, by rw [g_ins_at h1 h2 (by omega), if_pos q.1]⟩
    · exact ⟨j + 1, q.2.2, by rw [g_ins_at h1 h2 (by omega), if_neg (by omega), if_neg (by omega), if_pos q.2.1, Nat.add_sub_cancel]⟩
    · exact ⟨j + 2, q.2, by rw [g_ins_at h1 h2 (by omega), if_neg (by omega), if_neg (by omega), if_neg (by omega), if_neg (by omega), Nat.add_sub_cancel]⟩
  rw [g_ins_at h1 h2 hk]
  by_cases q1 : k < p
  · rw [if_pos q1]
    exact fun he => up k (by omega) he k fun j hj => mv j k (by omega) (by omega)
  · rw [if_neg q1]
    by_cases q2 : k = p
    · rw [if_pos q2]
      exact fun he => by omega
    · rw [if_neg q2]
      by_cases q3 : k < d
      · rw [if_pos q3]
        exact fun he => up (k - 1) (by omega) he k fun j hj => mv j k (by omega) (by omega)
      · rw [if_neg q3]
        by_cases q4 : k = d
        · rw [if_pos q4]
          exact fun _ => Or.inr ⟨p, by omega, by rw [g_ins_at h1 h2 (by omega), if_neg (by omega), if_pos rfl]⟩
        · rw [if_neg q4]
          exact fun he => up (k - 2) (by omega) he k fun j hj => mv j k (by omega) (by omega)
