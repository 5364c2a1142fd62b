/-! ===== the class's side (out of whole, by program) ===== -/
theorem i_div {a b : Nat} (ha : a < 2 ^ 31) (hb : b < 2 ^ 31) : Int32.ofNat a / Int32.ofNat b = Int32.ofNat (a / b) := by
  have hq : a / b ≤ a := Nat.div_le_self a b
  apply Int32.toInt_inj.mp
  rw [Int32.toInt_div, i_toInt ha, i_toInt hb, i_toInt (by omega), ← Int.ofNat_tdiv]
  have h0 : (0 : Int) ≤ ((a / b : Nat) : Int) := Int.natCast_nonneg _
  have h1 : ((a / b : Nat) : Int) ≤ (a : Int) := Int.ofNat_le.mpr hq
  exact Int.bmod_eq_of_le (by omega) (by omega)
theorem i_sub {a b : Nat} (h : b ≤ a) : Int32.ofNat a - Int32.ofNat b = Int32.ofNat (a - b) := by
  have e : Int32.ofNat a = Int32.ofNat (a - b) + Int32.ofNat b := by
    rw [i_add, Nat.sub_add_cancel h]
  rw [e]
  exact Int32.add_sub_cancel _ _
theorem i_odd : ∀ a, a < 48 → Int32.ofNat a &&& 1 = Int32.ofNat (a % 2) := by decide
theorem i_shr : ∀ a, a < 48 → Int32.ofNat a >>> ((1 : Int32) &&& 31) = Int32.ofNat (a / 2) := by decide
theorem i_mod10 : ∀ a, a < 10 → (Int32.ofNat a + 1) - (Int32.ofNat a + 1) / 10 * 10 = Int32.ofNat ((a + 1) % 10) := by decide
theorem i_0 : (0 : Int32) = Int32.ofNat 0 := rfl
theorem i_nle6 {b : Nat} (h : b < 6) : ¬ (6 : Int32) ≤ Int32.ofNat b := i_nle (a := 6) (by decide) (by omega) h
theorem i_nle10 {b : Nat} (h : b < 10) : ¬ (10 : Int32) ≤ Int32.ofNat b := i_nle (a := 10) (by decide) (by omega) h
theorem i_nle12 {b : Nat} (h : b < 12) : ¬ (12 : Int32) ≤ Int32.ofNat b := i_nle (a := 12) (by decide) (by omega) h
theorem i_nle24 {b : Nat} (h : b < 24) : ¬ (24 : Int32) ≤ Int32.ofNat b := i_nle (a := 24) (by decide) (by omega) h
theorem i_ltN10 {b : Nat} (h : b < 10) : Int32.ofNat b < (10 : Int32) := (i_lt (b := 10) (by omega) (by decide)).mpr h
theorem i_ltN24 {b : Nat} (h : b < 24) : Int32.ofNat b < (24 : Int32) := (i_lt (b := 24) (by omega) (by decide)).mpr h
theorem i_ne0 {b : Nat} (hb : b < 2 ^ 31) (h : b ≠ 0) : ¬ Int32.ofNat b = (0 : Int32) := fun q => h ((i_eq (b := 0) hb (by decide)).mp q)
theorem i_ne1 {b : Nat} (hb : b < 2 ^ 31) (h : b ≠ 1) : ¬ Int32.ofNat b = (1 : Int32) := fun q => h ((i_eq (b := 1) hb (by decide)).mp q)
theorem c_all.upd {o : Nat} {M M' : z_Mem} {s : q_S} {A' : q_R} {h' : List q_R} (h : c_all o M s) (h0 : ∀ k, k = 1 ∨ k = 2 ∨ k = 4 ∨ k = 9 → M'.1 o k = M.1 o k) (hk : ∀ x, ((o < x ∧ x < o + 5) ∨ (o + 447 ≤ x ∧ x < o + 487)) → M'.1 x = M.1 x) (hd : c_desk M' (o + 5) s.1 A') (hh : c_hist M' o s.1 h') : c_all o M' (s.1, A', h', s.2.2.2) := by
  obtain ⟨⟨a1, a2, a3⟩, h2, h3, h4, ⟨b0, b1, b2⟩, h6, ⟨d0, d1, d2⟩⟩ := h
  have e3 := hk (o + 3) (by omega)
  have e4 := hk (o + 4) (by omega)
  have e1 := hk (o + 1) (by omega)
  have e2 := hk (o + 2) (by omega)
  refine ⟨⟨by rw [e3]; exact a1, by rw [e3]; exact a2, fun k hk' => by rw [e4]; exact a3 k hk'⟩, hd, hh, ?_, ⟨b0, by rw [h0 1 (by omega)]; exact b1, fun k hk' => by rw [e1]; exact b2 k hk'⟩, by rw [h0 2 (by omega)]; exact h6, ⟨d0, by rw [h0 4 (by omega)]; exact d1, fun k hk' => by rw [e2]; exact d2 k hk'⟩⟩
  show c_snap M' o s.1 s.2.2.2.1
  generalize s.2.2.2.1 = sn at h4 ⊢
  cases sn with
  | none =>
    show M'.1 o 9 = 0
    rw [h0 9 (by omega)]
    exact h4
  | some B => exact ⟨by rw [h0 9 (by omega)]; exact h4.1, h4.2.keep (fun a q1 q2 => hk a (by omega))⟩
theorem m_all.upd {m : Nat} {N N' : z_Mem} {s : q_S} {A' : q_R} {h' : List q_R} (h : m_all m N s) (h0 : ∀ k, k = 5 ∨ (15 ≤ k ∧ k ≤ 18) ∨ k = 23 ∨ k = 31 ∨ k = 47 → N'.1 m k = N.1 m k) (hk : ∀ j, j = 3 ∨ (9 ≤ j ∧ j ≤ 12) ∨ j = 21 → N'.1 (m + j) = N.1 (m + j)) (hr : m_row N' (m + 1) 0 A') (hh : m_hist N' m h') : m_all m N' (s.1, A', h', s.2.2.2) := by
  obtain ⟨⟨a1, a2, a3, a4, a5, a6⟩, h2, h3, h4, ⟨d1, d2⟩, h6, ⟨f1, f2⟩⟩ := h
  refine ⟨⟨by rw [h0 _ (by omega)]; exact a1, by rw [h0 _ (by omega)]; exact a2, by rw [h0 _ (by omega)]; exact a3, by rw [h0 _ (by omega)]; exact a4, fun k hk' => by rw [hk _ (by omega)]; exact a5 k hk', fun t ht => by rw [hk _ (by omega), hk _ (by omega)]; exact a6 t ht⟩, hr, hh, ?_, ⟨by rw [h0 _ (by omega)]; exact d1, fun k hk' => by rw [hk _ (by omega)]; exact d2 k hk'⟩, by rw [h0 _ (by omega)]; exact h6, ⟨by rw [h0 _ (by omega)]; exact f1, fun k hk' => by rw [hk _ (by omega)]; exact f2 k hk'⟩⟩
  show m_snap N' m s.2.2.2.1
  generalize s.2.2.2.1 = sn at h4 ⊢
  cases sn with
  | none =>
    show N'.1 m 5 = 0
    rw [h0 5 (by omega)]
    exact h4
  | some B => exact ⟨by rw [h0 5 (by omega)]; exact h4.1, h4.2.keep (hk 3 (by omega))⟩
def q_push (h : List q_R) (A : q_R) : List q_R := (A :: h).take 10
theorem q_push_len (h : List q_R) (A : q_R) : (q_push h A).length = min 10 (h.length + 1) := by
  unfold q_push
  rw [List.length_take, List.length_cons]
theorem q_push_at {h : List q_R} {A : q_R} {j : Nat} {B : q_R} (hB : (q_push h A)[j]? = some B) : j < 10 ∧ ((j = 0 ∧ B = A) ∨ ∃ i, j = i + 1 ∧ h[i]? = some B) := by
  unfold q_push at hB
  rw [List.getElem?_take] at hB
  by_cases hj : j < 10
  · rw [if_pos hj] at hB
    refine ⟨hj, ?_⟩
    cases j with
    | zero =>
      rw [List.getElem?_cons_zero] at hB
      exact Or.inl ⟨rfl, (Option.some.inj hB).symm⟩
    | succ i =>
      rw [List.getElem?_cons_succ] at hB
      exact Or.inr ⟨i, rfl, hB⟩
  · rw [if_neg hj] at hB
    cases hB
theorem q_push_mem {h : List q_R} {A B : q_R} (hB : B ∈ q_push h A) : B = A ∨ B ∈ h := by
  unfold q_push at hB
  have := List.mem_of_mem_take hB
  rcases List.mem_cons.mp this with h | h
  · exact Or.inl h
  · exact Or.inr h
def q_noted (s : q_S) : q_S := (s.1, s.2.1, q_push s.2.2.1 s.2.1, s.2.2.2)
theorem a_note_c {o : Nat} {M : z_Mem} {s : q_S} (hI : q_I s) (hA : q_absI s.2.1) (hc : c_all o M s) : ∃ M', F_History_note o (o + 5) M = some M' ∧ c_all o M' (q_noted s) ∧ q_C o M M' ∧ ∀ x, (x < o + 45 ∨ o + 447 ≤ x) → M'.1 x = M.1 x := by
  obtain ⟨hl, hcount, nx, hnx, hn, hj⟩ := hc.2.2.1
  obtain ⟨M1, e, hd, hk, h2⟩ := a_copy (a := o + 47 + 40 * nx) (b := o + 5) (by omega) hc.2.1 hI.taxis hI.rides hA
  have n45 : M1.1 (o + 45) = M.1 (o + 45) := hk _ (by omega)
  have key : ∃ M', F_History_note o (o + 5) M = some M' ∧ M'.1 (o + 45) 0 = Int32.ofNat (min 10 (s.2.2.1.length + 1)) ∧ M'.1 (o + 45) 1 = Int32.ofNat ((nx + 1) % 10) ∧ (∀ x, x ≠ o + 45 → M'.1 x = M1.1 x) ∧ M'.2 = M1.2 := by
    unfold F_History_note
    rw [hn, if_neg (i_nn (by omega)), if_pos (i_ltN10 hnx)]
    unfold F_History_note_J21
    rw [hn, if_pos ((i_inb (by omega)).mpr hnx), i_cl (by omega)]
    simp only [zl]
    rw [zb_ok e, n45, hn, i_mod10 nx hnx, w_slot _ (by decide), n45, hcount]
    by_cases h10 : 10 ≤ s.2.2.1.length
    · rw [if_pos (show (10 : Int32) ≤ Int32.ofNat s.2.2.1.length from (i_le (a := 10) (by decide) (by omega)).mpr h10)]
      refine ⟨_, rfl, ?_, w_same _ _ _ _, fun x hx => funext fun k => w_addr _ hx, rfl⟩
      rw [w_slot _ (by decide), n45, hcount]
      congr 1
      omega
    · rw [if_neg (i_nle10 (by omega))]
      refine ⟨_, rfl, ?_, ?_, fun x hx => funext fun k => (w_addr _ hx).trans (w_addr _ hx), rfl⟩
      · rw [w_same, i_succ]
        congr 1
        omega
      · rw [w_slot _ (by decide), w_same]
  obtain ⟨M', e', g0, g1, g2, g3⟩ := key
  have fr : ∀ x, x ≠ o + 45 → (x < o + 47 + 40 * nx ∨ o + 47 + 40 * nx + 40 ≤ x) → M'.1 x = M.1 x := fun x h1 h2 => (g2 x h1).trans (hk x h2)
  refine ⟨M', e', ?_, fun a ha => ?_, fun x hx => fr x (by omega) (by omega)⟩
  · refine hc.upd (fun k _ => by rw [fr o (by omega) (by omega)]) (fun x hx => fr x (by omega) (by omega)) (hc.2.1.keep (fun a h1 h2 => fr a (by omega) (by omega))) ⟨?_, ?_, (nx + 1) % 10, by omega, g1, fun j B hB => ?_⟩
    · rw [q_push_len]
      omega
    · rw [q_push_len, g0]
    · obtain ⟨hj10, h⟩ := q_push_at hB
      rcases h with ⟨rfl, rfl⟩ | ⟨i, rfl, hi⟩
      · rw [show ((nx + 1) % 10 + 9 - 0) % 10 = nx by omega]
        exact hd.keep (fun a h1 h2 => g2 a (by omega))
      · rw [show ((nx + 1) % 10 + 9 - (i + 1)) % 10 = (nx + 9 - i) % 10 by omega]
        exact (hj i B hi).keep (fun a h1 h2 => fr a (by omega) (by omega))
  · unfold q_inM at ha
    exact ⟨fr a (by omega) (by omega), by rw [g3, h2]⟩
