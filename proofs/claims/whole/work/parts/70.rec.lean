/-! ===== PURE: the history: the reference ===== -/
theorem i_at581 (n i : Nat) : 581 * Int32.ofNat n + Int32.ofNat i = Int32.ofNat (581 * n + i) := by
  rw [show (581 : Int32) = Int32.ofNat 581 from rfl, i_mul, i_add]
theorem a_rec_L54 {m : Nat} {A : q_R} {n : Nat} (hn : n < 10) : ∀ (r i f : Nat) (N : z_Mem), i + r = 581 → r < f → N.1 m 6 = Int32.ofNat n → (∀ k, k < i → N.1 (m + 4) (581 * n + k) = A k) → m_row N (m + 1) 0 A → ∃ N', F_Model_records_L54 m f (Int32.ofNat i) N = some N' ∧ m_row N' (m + 4) (581 * n) A ∧ N'.1 m 6 = Int32.ofNat (n + 1) ∧ (∀ k, k ≠ 6 → N'.1 m k = N.1 m k) ∧ (∀ x, x ≠ m → x ≠ m + 4 → N'.1 x = N.1 x) ∧ (∀ k, k < 581 * n → N'.1 (m + 4) k = N.1 (m + 4) k) ∧ N'.2 = N.2 := by
  intro r
  induction r with
  | zero =>
    intro i f N hi hf h6 h1 hr
    obtain ⟨f, rfl⟩ : ∃ g, f = g + 1 := ⟨f - 1, by omega⟩
    have hi' : i = 581 := by omega
    subst hi'
    unfold F_Model_records_L54 F_Model_records_B54
    rw [if_pos (by decide)]
    refine ⟨_, rfl, fun k hk => ?_, ?_, fun k hk => w_slot _ hk, fun x hx _ => funext fun k => w_addr _ hx, fun k hk => w_addr _ (by omega), rfl⟩
    · rw [w_addr _ (by omega)]
      exact h1 k hk
    · rw [w_same, h6, i_succ]
  | succ r ih =>
    intro i f N hi hf h6 h1 hr
    obtain ⟨f, rfl⟩ : ∃ g, f = g + 1 := ⟨f - 1, by omega⟩
    unfold F_Model_records_L54 F_Model_records_B54
    have hn2 : ¬ (581 : Int32) ≤ Int32.ofNat i := i_nle (a := 581) (by decide) (by omega) (by omega)
    have hz : z_inb (Int32.ofNat i) 581 := (i_inb (by omega)).mpr (by omega)
    have hz2 : z_inb (Int32.ofNat (581 * n + i)) 5810 := (i_inb (by omega)).mpr (by omega)
    rw [if_neg hn2, if_pos hz, h6, i_at581, if_pos hz2, i_cl (show i < 2 ^ 31 by omega), i_cl (show 581 * n + i < 2 ^ 31 by omega)]
    simp only [zl, i_succ]
    have hA := hr i (by omega)
    rw [Nat.zero_add] at hA
    obtain ⟨N', e, g1, g2, g3, g4, g5, g6⟩ := ih (i + 1) f (z_wI N (m + 4) (581 * n + i) (N.1 (m + 1) i)) (by omega) (by omega) ((w_addr _ (by omega)).trans h6) (fun k hk => by
      by_cases hki : k = i
      · rw [hki, w_same]
        exact hA
      · rw [w_slot _ (by omega)]
        exact h1 k (by omega)) (hr.keep (funext fun k => w_addr _ (by omega)))
    exact ⟨N', e, g1, g2, fun k hk => (g3 k hk).trans (w_addr _ (by omega)), fun x h1 h2 => (g4 x h1 h2).trans (funext fun k => w_addr _ h2), fun k hk => (g5 k hk).trans (w_slot _ (by omega)), g6⟩
theorem a_rec_L13 {m : Nat} : ∀ (r i f : Nat) (N : z_Mem), i + r = 5810 → 581 ≤ i → r < f → N.1 m 6 = Int32.ofNat 10 → ∃ N', F_Model_records_L13 m f (Int32.ofNat i) N = F_Model_records_J52 m N' ∧ N'.1 m 6 = Int32.ofNat 9 ∧ (∀ k, k ≠ 6 → N'.1 m k = N.1 m k) ∧ (∀ x, x ≠ m → x ≠ m + 4 → N'.1 x = N.1 x) ∧ (∀ k, i ≤ k + 581 → k < 5229 → N'.1 (m + 4) k = N.1 (m + 4) (k + 581)) ∧ (∀ k, k + 581 < i → N'.1 (m + 4) k = N.1 (m + 4) k) ∧ N'.2 = N.2 := by
  intro r
  induction r with
  | zero =>
    intro i f N hi h0 hf h6
    obtain ⟨f, rfl⟩ : ∃ g, f = g + 1 := ⟨f - 1, by omega⟩
    have hi' : i = 5810 := by omega
    subst hi'
    unfold F_Model_records_L13 F_Model_records_B13
    rw [if_pos (by decide)]
    refine ⟨_, rfl, ?_, fun k hk => w_slot _ hk, fun x hx _ => funext fun k => w_addr _ hx, fun k h1 h2 => by omega, fun k hk => w_addr _ (by omega), rfl⟩
    rw [w_same, h6]
    rfl
  | succ r ih =>
    intro i f N hi h0 hf h6
    obtain ⟨f, rfl⟩ : ∃ g, f = g + 1 := ⟨f - 1, by omega⟩
    unfold F_Model_records_L13 F_Model_records_B13
    have hn2 : ¬ (5810 : Int32) ≤ Int32.ofNat i := i_nle (a := 5810) (by decide) (by omega) (by omega)
    have hz : z_inb (Int32.ofNat i) 5810 := (i_inb (by omega)).mpr (by omega)
    have e1 : Int32.ofNat i - 581 = Int32.ofNat (i - 581) := i_sub (b := 581) h0
    have hz2 : z_inb (Int32.ofNat (i - 581)) 5810 := (i_inb (by omega)).mpr (by omega)
    rw [if_neg hn2, if_pos hz, e1, if_pos hz2, i_cl (show i < 2 ^ 31 by omega), i_cl (show i - 581 < 2 ^ 31 by omega)]
    simp only [zl, i_succ]
    obtain ⟨N', e, g1, g2, g3, g4, g5, g6⟩ := ih (i + 1) f (z_wI N (m + 4) (i - 581) (N.1 (m + 4) i)) (by omega) (by omega) (by omega) ((w_addr _ (by omega)).trans h6)
    refine ⟨N', e, g1, fun k hk => (g2 k hk).trans (w_addr _ (by omega)), fun x h1 h2 => (g3 x h1 h2).trans (funext fun k => w_addr _ h2), fun k h1 h2 => ?_, fun k hk => (g5 k (by omega)).trans (w_slot _ (by omega)), g6⟩
    by_cases hk : k = i - 581
    · rw [g5 k (by omega), hk, w_same, Nat.sub_add_cancel h0]
    · rw [g4 k (by omega) h2, w_slot _ (by omega)]
theorem a_note_m {o : Nat} {N : z_Mem} {s : q_S} (hm : m_all (o + 548) N s) : ∃ N', F_Model_records (o + 548) N = some N' ∧ m_all (o + 548) N' (q_noted s) ∧ q_M o N N' ∧ (∀ k, k ≠ 6 → N'.1 (o + 548) k = N.1 (o + 548) k) ∧ ∀ x, x ≠ o + 548 → x ≠ o + 548 + 4 → N'.1 x = N.1 x := by
  obtain ⟨hl, hcount, hj⟩ := hm.2.2.1
  generalize hh : s.2.2.1 = h at hl hcount hj
  have key : ∃ N1 n, n < 10 ∧ n = min 9 h.length ∧ F_Model_records (o + 548) N = F_Model_records_J52 (o + 548) N1 ∧ N1.1 (o + 548) 6 = Int32.ofNat n ∧ (∀ k, k ≠ 6 → N1.1 (o + 548) k = N.1 (o + 548) k) ∧ (∀ x, x ≠ o + 548 → x ≠ o + 548 + 4 → N1.1 x = N.1 x) ∧ (∀ (j : Nat) (B : q_R), j < n → h[j]? = some B → m_row N1 (o + 548 + 4) (581 * (n - 1 - j)) B) ∧ N1.2 = N.2 := by
    unfold F_Model_records
    rw [hcount]
    by_cases h10 : h.length = 10
    · rw [if_pos (by rw [h10]; rfl)]
      obtain ⟨N1, e, g1, g2, g3, g4, g5, g6⟩ := a_rec_L13 (m := o + 548) 5229 581 10000 N (by omega) (by omega) (by omega) (by rw [hcount, h10])
      refine ⟨N1, 9, by omega, by omega, e, g1, g2, g3, fun j B hj9 hB k hk => ?_, g6⟩
      rw [g4 _ (by omega) (by omega)]
      have := hj j B hB k hk
      rw [show 581 * (h.length - 1 - j) + k = 581 * (9 - 1 - j) + k + 581 by omega] at this
      exact this
    · rw [if_neg (show ¬ Int32.ofNat h.length = (10 : Int32) from fun q => h10 ((i_eq (b := 10) (by omega) (by decide)).mp q))]
      refine ⟨N, h.length, by omega, by omega, rfl, hcount, fun _ _ => rfl, fun _ _ _ => rfl, fun j B _ hB => hj j B hB, rfl⟩
  obtain ⟨N1, n, hn10, hn, e1, g1, g2, g3, g4, g5⟩ := key
  have hr : m_row N1 (o + 548 + 1) 0 s.2.1 := hm.2.1.keep (g3 _ (by omega) (by omega))
  obtain ⟨N', e, f1, f2, f3, f4, f5, f6⟩ := a_rec_L54 (m := o + 548) (A := s.2.1) hn10 581 0 10000 N1 (by omega) (by omega) g1 (fun k hk => by omega) hr
  have fr0 : ∀ k, k ≠ 6 → N'.1 (o + 548) k = N.1 (o + 548) k := fun k hk => (f3 k hk).trans (g2 k hk)
  have fr : ∀ x, x ≠ o + 548 → x ≠ o + 548 + 4 → N'.1 x = N.1 x := fun x h1 h2 => (f4 x h1 h2).trans (g3 x h1 h2)
  refine ⟨N', ?_, ?_, fun a ha => ?_, fr0, fr⟩
  · rw [e1]
    unfold F_Model_records_J52
    rw [i_0]
    exact e
  · refine hm.upd (fun k hk => fr0 k (by omega)) (fun j hj => fr _ (by omega) (by omega)) (hm.2.1.keep (fr _ (by omega) (by omega))) ⟨?_, ?_, fun j B hB => ?_⟩
    · rw [q_push_len]
      omega
    · rw [q_push_len, f2, hh]
      congr 1
      omega
    · rw [hh] at hB
      rw [q_push_len, hh]
      obtain ⟨hj10, q⟩ := q_push_at hB
      rcases q with ⟨rfl, rfl⟩ | ⟨i, rfl, hi⟩
      · rw [show 581 * (min 10 (h.length + 1) - 1 - 0) = 581 * n by omega]
        exact f1
      · have hil : i < h.length := by
          rcases Nat.lt_or_ge i h.length with q | q
          · exact q
          · rw [List.getElem?_eq_none q] at hi
            cases hi
        have hin : i < n := by omega
        intro k hk
        rw [show 581 * (min 10 (h.length + 1) - 1 - (i + 1)) = 581 * (n - 1 - i) by omega, f5 _ (by omega)]
        exact g4 i B hin hi k hk
  · unfold q_inC at ha
    exact ⟨fr a (by omega) (by omega), by rw [f6, g5]⟩
