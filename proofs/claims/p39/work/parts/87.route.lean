/-! ===== the class's side (out of whole, by program) ===== -/
def q_setB (A : q_R) (base : Nat) (L : List Nat) : q_R := fun j => if base ≤ j ∧ j < base + L.length then Int32.ofNat (g_l L (j - base)) else A j
def q_setL (A : q_R) (cnt base : Nat) (L : List Nat) : q_R := q_w (q_setB A base L) cnt (Int32.ofNat L.length)
theorem q_setB_in {A : q_R} {base : Nat} {L : List Nat} {k : Nat} (h : k < L.length) : q_setB A base L (base + k) = Int32.ofNat (g_l L k) := by
  unfold q_setB
  rw [if_pos ⟨by omega, by omega⟩, show base + k - base = k by omega]
theorem q_setB_out {A : q_R} {base : Nat} {L : List Nat} {j : Nat} (h : j < base ∨ base + L.length ≤ j) : q_setB A base L j = A j := if_neg (by omega)
theorem g_l_app1 {X : List Nat} {a k : Nat} (h : k < X.length) : g_l (X ++ [a]) k = g_l X k := by
  have : (X ++ [a])[k]? = some (g_l X k) := by rw [List.getElem?_append, if_pos h, g_l_get h]
  exact (g_l_of this).2
theorem g_l_app2 {X : List Nat} {a : Nat} : g_l (X ++ [a]) X.length = a := by
  have : (X ++ [a])[X.length]? = some a := by rw [List.getElem?_append, if_neg (Nat.lt_irrefl _), Nat.sub_self]; rfl
  exact (g_l_of this).2
theorem q_setL_li {A : q_R} {cnt base : Nat} {L : List Nat} (h : cnt < base) : q_li (q_setL A cnt base L) cnt base L := by
  refine ⟨q_w_same _ _ _, fun k s hs => ?_⟩
  obtain ⟨h1, h2⟩ := g_l_of hs
  unfold q_setL
  rw [q_w_ne (by omega), q_setB_in h1, h2]
theorem q_setL_out {A : q_R} {cnt base : Nat} {L : List Nat} {j : Nat} (h1 : j ≠ cnt) (h2 : j < base ∨ base + L.length ≤ j) : q_setL A cnt base L j = A j := by
  unfold q_setL
  rw [q_w_ne h1, q_setB_out h2]
/-- the class's route -/
theorem c_all.rt {o t : Nat} {M M' : z_Mem} {s : q_S} {L : List Nat} (h : c_all o M s) (ht : t < q_T s.1) (hT : q_T s.1 ≤ 4) (hL : L.length ≤ 12) (h7 : M'.1 (o + 5 + 4 + 3 * t) 7 = Int32.ofNat L.length) (hl : ∀ k, k < L.length → M'.1 (o + 5 + 4 + 3 * t + 1) k = Int32.ofNat (g_l L k)) (ha : ∀ j, j ≠ 7 → M'.1 (o + 5 + 4 + 3 * t) j = M.1 (o + 5 + 4 + 3 * t) j) (hx : ∀ x, x ≠ o + 5 + 4 + 3 * t → x ≠ o + 5 + 4 + 3 * t + 1 → M'.1 x = M.1 x) : c_all o M' (q_row s (q_setL s.2.1 (24 + 40 * t) (25 + 40 * t) L)) := by
  have out : ∀ j, j ≠ 24 + 40 * t → (j < 25 + 40 * t ∨ 37 + 40 * t ≤ j) → q_setL s.2.1 (24 + 40 * t) (25 + 40 * t) L j = s.2.1 j := fun j h1 h2 => q_setL_out h1 (by omega)
  refine h.row (fun x hx' => hx x (by omega) (by omega)) (h.2.1.taxi ht (fun x h1 h2 h3 => hx x (by omega) (by omega)) (fun k hk => out k (by omega) (by omega)) ?_)
  obtain ⟨x0, x1, x2, x3, x4, x5, x6, x7, x8, x11, x12, x13, x14, x15, x16, xr, xa⟩ := h.2.1.2.2.2.2.2.2.2.1 t ht
  refine ⟨(ha _ (by decide)).trans x0, (ha _ (by decide)).trans (x1.trans (out _ (by omega) (by omega)).symm), (ha _ (by decide)).trans (x2.trans (out _ (by omega) (by omega)).symm), (ha _ (by decide)).trans x3, (ha _ (by decide)).trans (x4.trans (out _ (by omega) (by omega)).symm), (ha _ (by decide)).trans (x5.trans (out _ (by omega) (by omega)).symm), (ha _ (by decide)).trans (x6.trans (out _ (by omega) (by omega)).symm), h7.trans (q_w_same _ _ _).symm, (ha _ (by decide)).trans (x8.trans (out _ (by omega) (by omega)).symm), (ha _ (by decide)).trans (x11.trans (out _ (by omega) (by omega)).symm), (ha _ (by decide)).trans (x12.trans (out _ (by omega) (by omega)).symm), (ha _ (by decide)).trans (x13.trans (out _ (by omega) (by omega)).symm), (ha _ (by decide)).trans (x14.trans (out _ (by omega) (by omega)).symm), (ha _ (by decide)).trans (x15.trans (out _ (by omega) (by omega)).symm), (ha _ (by decide)).trans (x16.trans (out _ (by omega) (by omega)).symm), fun k hk hlt => ?_, fun k hk hlt => ?_⟩
  · have e : q_setL s.2.1 (24 + 40 * t) (25 + 40 * t) L (24 + 40 * t) = Int32.ofNat L.length := q_w_same _ _ _
    rw [e] at hlt
    have hkL := (i_lt (by omega) (by omega)).mp hlt
    rw [hl k hkL]
    unfold q_setL
    rw [q_w_ne (by omega), q_setB_in hkL]
  · rw [out _ (by omega) (by omega)] at hlt
    rw [out _ (by omega) (by omega), hx _ (by omega) (by omega)]
    exact xa k hk hlt
theorem c_all.pt {o t : Nat} {M M' : z_Mem} {s : q_S} {L : List Nat} (h : c_all o M s) (ht : t < q_T s.1) (hT : q_T s.1 ≤ 4) (hL : L.length ≤ 6) (h7 : M'.1 (o + 5 + 4 + 3 * t) 8 = Int32.ofNat L.length) (hl : ∀ k, k < L.length → M'.1 (o + 5 + 4 + 3 * t + 2) k = Int32.ofNat (g_l L k)) (ha : ∀ j, j ≠ 8 → M'.1 (o + 5 + 4 + 3 * t) j = M.1 (o + 5 + 4 + 3 * t) j) (hx : ∀ x, x ≠ o + 5 + 4 + 3 * t → x ≠ o + 5 + 4 + 3 * t + 2 → M'.1 x = M.1 x) : c_all o M' (q_row s (q_setL s.2.1 (37 + 40 * t) (38 + 40 * t) L)) := by
  have out : ∀ j, j ≠ 37 + 40 * t → (j < 38 + 40 * t ∨ 44 + 40 * t ≤ j) → q_setL s.2.1 (37 + 40 * t) (38 + 40 * t) L j = s.2.1 j := fun j h1 h2 => q_setL_out h1 (by omega)
  refine h.row (fun x hx' => hx x (by omega) (by omega)) (h.2.1.taxi ht (fun x h1 h2 h3 => hx x (by omega) (by omega)) (fun k hk => out k (by omega) (by omega)) ?_)
  obtain ⟨x0, x1, x2, x3, x4, x5, x6, x7, x8, x11, x12, x13, x14, x15, x16, xr, xa⟩ := h.2.1.2.2.2.2.2.2.2.1 t ht
  refine ⟨(ha _ (by decide)).trans x0, (ha _ (by decide)).trans (x1.trans (out _ (by omega) (by omega)).symm), (ha _ (by decide)).trans (x2.trans (out _ (by omega) (by omega)).symm), (ha _ (by decide)).trans x3, (ha _ (by decide)).trans (x4.trans (out _ (by omega) (by omega)).symm), (ha _ (by decide)).trans (x5.trans (out _ (by omega) (by omega)).symm), (ha _ (by decide)).trans (x6.trans (out _ (by omega) (by omega)).symm), (ha _ (by decide)).trans (x7.trans (out _ (by omega) (by omega)).symm), h7.trans (q_w_same _ _ _).symm, (ha _ (by decide)).trans (x11.trans (out _ (by omega) (by omega)).symm), (ha _ (by decide)).trans (x12.trans (out _ (by omega) (by omega)).symm), (ha _ (by decide)).trans (x13.trans (out _ (by omega) (by omega)).symm), (ha _ (by decide)).trans (x14.trans (out _ (by omega) (by omega)).symm), (ha _ (by decide)).trans (x15.trans (out _ (by omega) (by omega)).symm), (ha _ (by decide)).trans (x16.trans (out _ (by omega) (by omega)).symm), fun k hk hlt => ?_, fun k hk hlt => ?_⟩
  · rw [out _ (by omega) (by omega)] at hlt
    rw [out _ (by omega) (by omega), hx _ (by omega) (by omega)]
    exact xr k hk hlt
  · have e : q_setL s.2.1 (37 + 40 * t) (38 + 40 * t) L (37 + 40 * t) = Int32.ofNat L.length := q_w_same _ _ _
    rw [e] at hlt
    have hkL := (i_lt (by omega) (by omega)).mp hlt
    rw [hl k hkL]
    unfold q_setL
    rw [q_w_ne (by omega), q_setB_in hkL]
theorem g_take_filter {L : List Nat} {i : Nat} (p : Nat → Bool) (h : i < L.length) : (L.take (i + 1)).filter p = if p (g_l L i) = true then (L.take i).filter p ++ [g_l L i] else (L.take i).filter p := by
  rw [g_take h, List.filter_append]
  by_cases hp : p (g_l L i) = true
  · rw [if_pos hp, List.filter_cons_of_pos hp]
    rfl
  · rw [if_neg hp, List.filter_cons_of_neg hp]
    exact List.append_nil _
theorem g_filter_le {L : List Nat} {i : Nat} (p : Nat → Bool) : ((L.take i).filter p).length ≤ i := by
  refine Nat.le_trans (List.length_filter_le _ _) ?_
  rw [List.length_take]
  omega
/-- an array that holds a list at its front, and behind it what it held -/
def g_arr (f g : Nat → Int32) (X : List Nat) : Prop := (∀ k, k < X.length → f k = Int32.ofNat (g_l X k)) ∧ ∀ k, X.length ≤ k → f k = g k
def g_no (s : Nat) : Nat → Bool := fun x => x != s
theorem g_no_t {s x : Nat} : g_no s x = true ↔ x ≠ s := by
  unfold g_no
  exact bne_iff_ne
theorem c_rem_L {a s n : Nat} {L : List Nat} {M : z_Mem} (hn : L.length = n) (hn12 : n ≤ 12) (hs : s < 48) (hL : ∀ x ∈ L, x < 48) (hl : ∀ k, k < n → M.1 (a + 1) k = Int32.ofNat (g_l L k)) : ∀ (k i f : Nat) (N : z_Mem), i + k = n → k < f → N.1 a 7 = Int32.ofNat n → g_arr (N.1 (a + 1)) (M.1 (a + 1)) ((L.take i).filter (g_no s)) →
    ∃ N', F_Taxi_removeStop_L4 a f (Int32.ofNat s) (Int32.ofNat ((L.take i).filter (g_no s)).length) (Int32.ofNat i) N = some N' ∧ N'.1 a 7 = Int32.ofNat (L.filter (g_no s)).length ∧ (∀ k, k < (L.filter (g_no s)).length → N'.1 (a + 1) k = Int32.ofNat (g_l (L.filter (g_no s)) k)) ∧ (∀ j, j ≠ 7 → N'.1 a j = N.1 a j) ∧ (∀ x, x ≠ a → x ≠ a + 1 → N'.1 x = N.1 x) ∧ N'.2 = N.2 := by
  intro k
  induction k with
  | zero =>
    intro i f N hi hf h7 hg
    obtain ⟨f, rfl⟩ : ∃ g, f = g + 1 := ⟨f - 1, by omega⟩
    have hi' : i = n := by omega
    subst hi'
    rw [show L.take i = L by rw [← hn, List.take_length]] at hg ⊢
    unfold F_Taxi_removeStop_L4 F_Taxi_removeStop_B4 F_Taxi_removeStop_J49
    rw [h7, if_pos ((i_le (by omega) (by omega)).mpr (Nat.le_refl _))]
    exact ⟨_, rfl, w_same _ _ _ _, fun k hk => (w_addr _ (by omega)).trans (hg.1 k hk), fun j hj => w_slot _ hj, fun x hx _ => funext fun k => w_addr k hx, rfl⟩
  | succ k ih =>
    intro i f N hi hf h7 hg
    obtain ⟨f, rfl⟩ : ∃ g, f = g + 1 := ⟨f - 1, by omega⟩
    have hin : i < n := by omega
    have hle := g_filter_le (L := L) (i := i) (g_no s)
    have hz : z_inb (Int32.ofNat i) 12 := (i_inb (by omega)).mpr (by omega)
    have hz2 : z_inb (Int32.ofNat ((L.take i).filter (g_no s)).length) 12 := (i_inb (by omega)).mpr (by omega)
    have ci : (Int32.ofNat i).toNatClampNeg = i := i_cl (by omega)
    have cj : (Int32.ofNat ((L.take i).filter (g_no s)).length).toNatClampNeg = ((L.take i).filter (g_no s)).length := i_cl (by omega)
    have hv : N.1 (a + 1) i = Int32.ofNat (g_l L i) := (hg.2 i hle).trans (hl i hin)
    have h48 := hL _ (g_l_mem (show i < L.length by omega))
    have etf := g_take_filter (L := L) (i := i) (g_no s) (by omega)
    unfold F_Taxi_removeStop_L4 F_Taxi_removeStop_B4
    rw [h7, if_neg (i_nle (by omega) (by omega) hin), if_neg (i_nle12 (by omega)), if_pos hz]
    simp only [ci, cj]
    rw [hv]
    by_cases he : g_l L i = s
    · rw [if_pos (by rw [he]), i_succ]
      rw [if_neg (fun q => g_no_t.mp q he)] at etf
      rw [← etf] at hg ⊢
      exact ih (i + 1) f N (by omega) (by omega) h7 hg
    · rw [if_neg (fun q => he ((i_eq (by omega) (by omega)).mp q)), if_pos hz, if_pos hz2]
      rw [if_pos (g_no_t.mpr he)] at etf
      have hlen : ((L.take (i + 1)).filter (g_no s)).length = ((L.take i).filter (g_no s)).length + 1 := by rw [etf, List.length_append]; rfl
      simp only [zl, i_succ]
      rw [← hlen]
      obtain ⟨N', e, g1, g2, g3, g4, g5⟩ := ih (i + 1) f (z_wI N (a + 1) ((L.take i).filter (g_no s)).length (Int32.ofNat (g_l L i))) (by omega) (by omega) ((w_addr _ (by omega)).trans h7) ⟨fun k hk => by
        rw [etf]
        by_cases hk2 : k = ((L.take i).filter (g_no s)).length
        · rw [hk2, w_same, g_l_app2]
        · rw [w_slot _ hk2, g_l_app1 (by omega)]
          exact hg.1 k (by omega), fun k hk => by
        rw [w_slot _ (by omega)]
        exact hg.2 k (by omega)⟩
      exact ⟨N', e, g1, g2, fun j hj => (g3 j hj).trans (w_addr _ (by omega)), fun x h1 h2 => (g4 x h1 h2).trans (funext fun k => w_addr k h2), g5⟩
theorem c_remove {a s : Nat} {L : List Nat} {M : z_Mem} (hn12 : L.length ≤ 12) (hs : s < 48) (hL : ∀ x ∈ L, x < 48) (h7 : M.1 a 7 = Int32.ofNat L.length) (hl : ∀ k, k < L.length → M.1 (a + 1) k = Int32.ofNat (g_l L k)) :
    ∃ N', F_Taxi_removeStop a (Int32.ofNat s) M = some N' ∧ N'.1 a 7 = Int32.ofNat (L.filter (g_no s)).length ∧ (∀ k, k < (L.filter (g_no s)).length → N'.1 (a + 1) k = Int32.ofNat (g_l (L.filter (g_no s)) k)) ∧ (∀ j, j ≠ 7 → N'.1 a j = M.1 a j) ∧ (∀ x, x ≠ a → x ≠ a + 1 → N'.1 x = M.1 x) ∧ N'.2 = M.2 :=
  c_rem_L (M := M) rfl hn12 hs hL hl L.length 0 10000 M (by omega) (by omega) h7 ⟨fun k hk => absurd hk (Nat.not_lt_zero k), fun _ _ => rfl⟩
theorem c_out_L {a s n : Nat} {L : List Nat} {M : z_Mem} (hn : L.length = n) (hn12 : n ≤ 6) (hs : s < 48) (hL : ∀ x ∈ L, x < 48) (hl : ∀ k, k < n → M.1 (a + 2) k = Int32.ofNat (g_l L k)) : ∀ (k i f : Nat) (N : z_Mem), i + k = n → k < f → N.1 a 8 = Int32.ofNat n → g_arr (N.1 (a + 2)) (M.1 (a + 2)) ((L.take i).filter (g_no s)) →
    ∃ N', F_Taxi_letOut_L4 a f (Int32.ofNat s) (Int32.ofNat ((L.take i).filter (g_no s)).length) (Int32.ofNat i) N = some N' ∧ N'.1 a 8 = Int32.ofNat (L.filter (g_no s)).length ∧ (∀ k, k < (L.filter (g_no s)).length → N'.1 (a + 2) k = Int32.ofNat (g_l (L.filter (g_no s)) k)) ∧ (∀ j, j ≠ 8 → N'.1 a j = N.1 a j) ∧ (∀ x, x ≠ a → x ≠ a + 2 → N'.1 x = N.1 x) ∧ N'.2 = N.2 := by
  intro k
  induction k with
  | zero =>
    intro i f N hi hf h7 hg
    obtain ⟨f, rfl⟩ : ∃ g, f = g + 1 := ⟨f - 1, by omega⟩
    have hi' : i = n := by omega
    subst hi'
    rw [show L.take i = L by rw [← hn, List.take_length]] at hg ⊢
    unfold F_Taxi_letOut_L4 F_Taxi_letOut_B4 F_Taxi_letOut_J49
    rw [h7, if_pos ((i_le (by omega) (by omega)).mpr (Nat.le_refl _))]
    exact ⟨_, rfl, w_same _ _ _ _, fun k hk => (w_addr _ (by omega)).trans (hg.1 k hk), fun j hj => w_slot _ hj, fun x hx _ => funext fun k => w_addr k hx, rfl⟩
  | succ k ih =>
    intro i f N hi hf h7 hg
    obtain ⟨f, rfl⟩ : ∃ g, f = g + 1 := ⟨f - 1, by omega⟩
    have hin : i < n := by omega
    have hle := g_filter_le (L := L) (i := i) (g_no s)
    have hz : z_inb (Int32.ofNat i) 6 := (i_inb (by omega)).mpr (by omega)
    have hz2 : z_inb (Int32.ofNat ((L.take i).filter (g_no s)).length) 6 := (i_inb (by omega)).mpr (by omega)
    have ci : (Int32.ofNat i).toNatClampNeg = i := i_cl (by omega)
    have cj : (Int32.ofNat ((L.take i).filter (g_no s)).length).toNatClampNeg = ((L.take i).filter (g_no s)).length := i_cl (by omega)
    have hv : N.1 (a + 2) i = Int32.ofNat (g_l L i) := (hg.2 i hle).trans (hl i hin)
    have h48 := hL _ (g_l_mem (show i < L.length by omega))
    have etf := g_take_filter (L := L) (i := i) (g_no s) (by omega)
    unfold F_Taxi_letOut_L4 F_Taxi_letOut_B4
    rw [h7, if_neg (i_nle (by omega) (by omega) hin), if_neg (i_nle6 (by omega)), if_pos hz]
    simp only [ci, cj]
    rw [hv]
    by_cases he : g_l L i = s
    · rw [if_pos (by rw [he]), i_succ]
      rw [if_neg (fun q => g_no_t.mp q he)] at etf
      rw [← etf] at hg ⊢
      exact ih (i + 1) f N (by omega) (by omega) h7 hg
    · rw [if_neg (fun q => he ((i_eq (by omega) (by omega)).mp q)), if_pos hz, if_pos hz2]
      rw [if_pos (g_no_t.mpr he)] at etf
      have hlen : ((L.take (i + 1)).filter (g_no s)).length = ((L.take i).filter (g_no s)).length + 1 := by rw [etf, List.length_append]; rfl
      simp only [zl, i_succ]
      rw [← hlen]
      obtain ⟨N', e, g1, g2, g3, g4, g5⟩ := ih (i + 1) f (z_wI N (a + 2) ((L.take i).filter (g_no s)).length (Int32.ofNat (g_l L i))) (by omega) (by omega) ((w_addr _ (by omega)).trans h7) ⟨fun k hk => by
        rw [etf]
        by_cases hk2 : k = ((L.take i).filter (g_no s)).length
        · rw [hk2, w_same, g_l_app2]
        · rw [w_slot _ hk2, g_l_app1 (by omega)]
          exact hg.1 k (by omega), fun k hk => by
        rw [w_slot _ (by omega)]
        exact hg.2 k (by omega)⟩
      exact ⟨N', e, g1, g2, fun j hj => (g3 j hj).trans (w_addr _ (by omega)), fun x h1 h2 => (g4 x h1 h2).trans (funext fun k => w_addr k h2), g5⟩
theorem c_letOut {a s : Nat} {L : List Nat} {M : z_Mem} (hn12 : L.length ≤ 6) (hs : s < 48) (hL : ∀ x ∈ L, x < 48) (h7 : M.1 a 8 = Int32.ofNat L.length) (hl : ∀ k, k < L.length → M.1 (a + 2) k = Int32.ofNat (g_l L k)) :
    ∃ N', F_Taxi_letOut a (Int32.ofNat s) M = some N' ∧ N'.1 a 8 = Int32.ofNat (L.filter (g_no s)).length ∧ (∀ k, k < (L.filter (g_no s)).length → N'.1 (a + 2) k = Int32.ofNat (g_l (L.filter (g_no s)) k)) ∧ (∀ j, j ≠ 8 → N'.1 a j = M.1 a j) ∧ (∀ x, x ≠ a → x ≠ a + 2 → N'.1 x = M.1 x) ∧ N'.2 = M.2 :=
  c_out_L (M := M) rfl hn12 hs hL hl L.length 0 10000 M (by omega) (by omega) h7 ⟨fun k hk => absurd hk (Nat.not_lt_zero k), fun _ _ => rfl⟩
