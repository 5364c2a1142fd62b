/-! ===== the class's side (out of whole, by program) ===== -/
def f_next (A : q_R) (P : List Nat) (s : Nat) : List Nat := if s % 2 = 1 then (if A (184 + 17 * (s / 2)) = 1 then P else P ++ [s / 2]) else P.filter (g_no (s / 2))
def f_inv (A : q_R) (P rest : List Nat) : Prop := P.Nodup ∧ (∀ u, u ∈ P ↔ q_ofr u rest = [2 * u]) ∧ ∀ u, q_ofr u rest = [] ∨ q_ofr u rest = [2 * u] ∨ (q_ofr u rest = [2 * u + 1] ∧ A (184 + 17 * u) = 1) ∨ (q_ofr u rest = [2 * u + 1, 2 * u] ∧ A (184 + 17 * u) ≠ 1)
theorem q_taxiL.drive {c A : q_R} {t n : Nat} {rt pt : List Nat} (h : q_taxiL c A t n rt pt) : f_inv A pt rt := by
  refine ⟨h.2.1.2.2.1, fun u => ?_, fun u => ?_⟩
  · rw [h.2.1.2.2.2 u, h.1.2.2.2 u]
    unfold q_should
    constructor
    · rintro ⟨h1, h2, h3⟩
      rw [if_pos ⟨h1, h3⟩, if_neg (by rw [h2]; decide), if_pos h2]
    · intro q
      by_cases h1 : u < q_N A ∧ A (180 + 17 * u) = Int32.ofNat t
      · rw [if_pos h1] at q
        by_cases h2 : A (173 + 17 * u) = 1
        · rw [if_pos h2] at q
          split at q
          · injection q with q
            omega
          · injection q with q
            omega
        · rw [if_neg h2] at q
          by_cases h3 : A (173 + 17 * u) = 2
          · exact ⟨h1.1, h3, h1.2⟩
          · rw [if_neg h3] at q
            cases q
      · rw [if_neg h1] at q
        cases q
  · rw [h.1.2.2.2 u]
    unfold q_should
    split
    · split
      · split
        · exact Or.inr (Or.inr (Or.inl ⟨rfl, by assumption⟩))
        · exact Or.inr (Or.inr (Or.inr ⟨rfl, by assumption⟩))
      · split
        · exact Or.inr (Or.inl rfl)
        · exact Or.inl rfl
    · exact Or.inl rfl
/-- what the first stop is to its ride -/
theorem f_inv.first {A : q_R} {P rest : List Nat} {s : Nat} (h : f_inv A P (s :: rest)) : (s % 2 = 0 ∧ s / 2 ∈ P ∧ q_ofr (s / 2) rest = []) ∨ (s % 2 = 1 ∧ s / 2 ∉ P ∧ ((A (184 + 17 * (s / 2)) = 1 ∧ q_ofr (s / 2) rest = []) ∨ (A (184 + 17 * (s / 2)) ≠ 1 ∧ q_ofr (s / 2) rest = [2 * (s / 2)]))) := by
  obtain ⟨h1, h2, h3⟩ := h
  have e := g_ofr_pos (r := s / 2) (s := s) (L := rest) rfl
  rcases h3 (s / 2) with q | q | q | q
  · rw [e] at q
    cases q
  · have hm := (h2 (s / 2)).mpr q
    rw [e] at q
    injection q with q1 q2
    exact Or.inl ⟨by omega, hm, q2⟩
  · have hm : s / 2 ∉ P := fun z => by
      have := (h2 (s / 2)).mp z
      rw [q.1] at this
      injection this with this
      omega
    have q1 := q.1
    rw [e] at q1
    injection q1 with q1 q2
    exact Or.inr ⟨by omega, hm, Or.inl ⟨q.2, q2⟩⟩
  · have hm : s / 2 ∉ P := fun z => by
      have := (h2 (s / 2)).mp z
      rw [q.1] at this
      injection this with this
      omega
    have q1 := q.1
    rw [e] at q1
    injection q1 with q1 q2
    exact Or.inr ⟨by omega, hm, Or.inr ⟨q.2, q2⟩⟩
theorem f_inv.step {A : q_R} {P rest : List Nat} {s : Nat} (h : f_inv A P (s :: rest)) : f_inv A (f_next A P s) rest := by
  have hf := h.first
  obtain ⟨h1, h2, h3⟩ := h
  have ne : ∀ u, u ≠ s / 2 → q_ofr u (s :: rest) = q_ofr u rest := fun u hu => g_ofr_neg (fun q => hu q.symm)
  unfold f_next
  rcases hf with ⟨ho, hm, hr⟩ | ⟨ho, hm, hr⟩
  · rw [if_neg (by omega)]
    refine ⟨h1.filter _, fun u => ?_, fun u => ?_⟩
    · rw [List.mem_filter, g_no_t]
      by_cases hu : u = s / 2
      · subst hu
        rw [hr]
        exact ⟨fun q => absurd rfl q.2, fun q => by cases q⟩
      · rw [h2 u, ne u hu]
        exact ⟨fun q => q.1, fun q => ⟨q, hu⟩⟩
    · by_cases hu : u = s / 2
      · subst hu
        exact Or.inl hr
      · rw [← ne u hu]
        exact h3 u
  · rw [if_pos ho]
    rcases hr with ⟨ha, hr⟩ | ⟨ha, hr⟩
    · rw [if_pos ha]
      refine ⟨h1, fun u => ?_, fun u => ?_⟩
      · by_cases hu : u = s / 2
        · subst hu
          rw [hr]
          exact ⟨fun q => absurd q hm, fun q => by cases q⟩
        · rw [h2 u, ne u hu]
      · by_cases hu : u = s / 2
        · subst hu
          exact Or.inl hr
        · rw [← ne u hu]
          exact h3 u
    · rw [if_neg ha]
      refine ⟨?_, fun u => ?_, fun u => ?_⟩
      · rw [List.nodup_append]
        refine ⟨h1, by simp, fun a ha' b hb' => ?_⟩
        rw [List.mem_singleton] at hb'
        subst hb'
        exact fun q => hm (q ▸ ha')
      · rw [List.mem_append, List.mem_singleton]
        by_cases hu : u = s / 2
        · subst hu
          rw [hr]
          exact ⟨fun _ => rfl, fun _ => Or.inr rfl⟩
        · rw [h2 u, ne u hu]
          exact ⟨fun q => q.resolve_right hu, Or.inl⟩
      · by_cases hu : u = s / 2
        · subst hu
          exact Or.inr (Or.inl hr)
        · rw [← ne u hu]
          exact h3 u
theorem q_sumP_app {A : q_R} (u : Nat) : ∀ (L : List Nat), q_sumP A (L ++ [u]) = q_sumP A L + q_pe A u
  | [] => by
    show q_pe A u + 0 = 0 + q_pe A u
    omega
  | x :: L => by
    show q_pe A x + q_sumP A (L ++ [u]) = q_pe A x + q_sumP A L + q_pe A u
    rw [q_sumP_app u L]
    omega
theorem q_sumP_no {A : q_R} {u : Nat} : ∀ (L : List Nat), u ∉ L → q_sumP A (L.filter (g_no u)) = q_sumP A L
  | [], _ => rfl
  | x :: L, h => by
    have hx : x ≠ u := fun q => h (by rw [q]; exact List.mem_cons_self ..)
    rw [List.filter_cons_of_pos (g_no_t.mpr hx)]
    show q_pe A x + q_sumP A (L.filter (g_no u)) = q_pe A x + q_sumP A L
    rw [q_sumP_no L (fun q => h (List.mem_cons_of_mem _ q))]
theorem q_sumP_rem {A : q_R} {u : Nat} : ∀ (L : List Nat), L.Nodup → u ∈ L → q_sumP A (L.filter (g_no u)) = q_sumP A L - q_pe A u
  | [], _, h => by cases h
  | x :: L, hn, h => by
    rw [List.nodup_cons] at hn
    by_cases hx : x = u
    · subst hx
      rw [List.filter_cons_of_neg (fun q => g_no_t.mp q rfl), q_sumP_no L hn.1]
      show _ = q_pe A x + q_sumP A L - q_pe A x
      omega
    · have hm : u ∈ L := by
        rcases List.mem_cons.mp h with q | q
        · exact absurd q.symm hx
        · exact q
      rw [List.filter_cons_of_pos (g_no_t.mpr hx)]
      show q_pe A x + q_sumP A (L.filter (g_no u)) = q_pe A x + q_sumP A L - q_pe A u
      rw [q_sumP_rem L hn.2 hm]
      omega
theorem f_inv.sum {A : q_R} {P rest : List Nat} {s : Nat} (h : f_inv A P (s :: rest)) : q_sumP A (f_next A P s) = q_sumP A P + q_chg A s := by
  have hf := h.first
  unfold f_next q_chg
  rcases hf with ⟨ho, hm, hr⟩ | ⟨ho, hm, hr⟩
  · rw [if_neg (by omega), if_neg (by omega), q_sumP_rem P h.1 hm]
    omega
  · rw [if_pos ho, if_pos ho]
    rcases hr with ⟨ha, hr⟩ | ⟨ha, hr⟩
    · rw [if_pos ha, if_pos ha]
      omega
    · rw [if_neg ha, if_neg ha, q_sumP_app]
/-- who is aboard ahead of each stop -/
def f_P (A : q_R) (pt : List Nat) (l : Nat → Nat) : Nat → List Nat
  | 0 => pt
  | k + 1 => f_next A (f_P A pt l k) (l k)
theorem f_drop {L : List Nat} {k : Nat} (h : k < L.length) : L.drop k = g_l L k :: L.drop (k + 1) := by
  rw [List.drop_eq_getElem_cons h]
  congr 1
  have := g_l_get h
  rw [List.getElem?_eq_getElem h] at this
  exact Option.some.inj this
theorem f_P_inv {A : q_R} {pt rt : List Nat} {n : Nat} (h : f_inv A pt rt) (hp : q_prof A n (q_sumP A pt) rt) : ∀ k, k ≤ rt.length → f_inv A (f_P A pt (g_l rt) k) (rt.drop k) ∧ q_prof A n (q_sumP A (f_P A pt (g_l rt) k)) (rt.drop k) := by
  intro k
  induction k with
  | zero =>
    intro _
    rw [List.drop_zero]
    exact ⟨h, hp⟩
  | succ k ih =>
    intro hk
    obtain ⟨i1, i2⟩ := ih (by omega)
    rw [f_drop (by omega)] at i1 i2
    refine ⟨i1.step, ?_⟩
    show q_prof A n (q_sumP A (f_next A (f_P A pt (g_l rt) k) (g_l rt k))) _
    rw [i1.sum]
    exact i2.2
/-- whoever is aboard is a ride -/
theorem f_P_mem {A : q_R} {pt rt : List Nat} {N : Nat} (h1 : ∀ u ∈ pt, u < N) (h2 : ∀ x ∈ rt, x < 2 * N) : ∀ k, k ≤ rt.length → ∀ u ∈ f_P A pt (g_l rt) k, u < N := by
  intro k
  induction k with
  | zero => exact fun _ => h1
  | succ k ih =>
    intro hk u hu
    have ih := ih (by omega)
    have hs := h2 _ (g_l_mem (show k < rt.length by omega))
    have hu : u ∈ f_next A (f_P A pt (g_l rt) k) (g_l rt k) := hu
    unfold f_next at hu
    split at hu
    · split at hu
      · exact ih u hu
      · rcases List.mem_append.mp hu with q | q
        · exact ih u q
        · rw [List.mem_singleton] at q
          omega
    · exact ih u (List.mem_filter.mp hu).1
theorem f_P_six {A : q_R} {pt rt : List Nat} {n N : Nat} (hn : n ≤ 6) (h : f_inv A pt rt) (hp : q_prof A n (q_sumP A pt) rt) (h1 : ∀ u ∈ pt, u < N) (h2 : ∀ x ∈ rt, x < 2 * N) (h6 : ∀ u, u < N → q_per6 A u) {k : Nat} (hk : k < rt.length) : (f_P A pt (g_l rt) k).length ≤ 6 := by
  obtain ⟨-, i2⟩ := f_P_inv h hp k (by omega)
  rw [f_drop hk] at i2
  have := (q_sumP_bd (f_P A pt (g_l rt) k) (fun u hu => h6 u (f_P_mem h1 h2 k (by omega) u hu))).1
  have := i2.1
  omega
def f_disc (A : q_R) (n : Nat) : Int32 := if n < 2 then 0 else A (8 + (if n < 4 then n else 4))
def f_amt (A : q_R) (w : Int32) (n : Nat) : Int32 := w * A 2 - w * A 2 * f_disc A n / 100
def f_part (amt : Int32) (n j : Nat) : Int32 := amt / Int32.ofNat n + (if amt - amt / Int32.ofNat n * Int32.ofNat n ≤ Int32.ofNat j then 0 else 1)
/-- the share of a party among those from a place on -/
def f_sh (amt : Int32) (n r : Nat) : List Nat → Nat → Int32
  | [], _ => 0
  | u :: l, j => if u = r then f_part amt n j else f_sh amt n r l (j + 1)
