/-! ===== PURE: the law's cases together, its loop ===== -/
def q_case (Fc : Nat → Nat → (Nat → Int32) → Int32 → z_Mem → (z_Mem → Option (Int32 × z_Mem)) → Option (Int32 × z_Mem)) : Prop := ∀ {o L : Nat} {S : Nat → Int32} {i : Int32} {M : z_Mem} {s : q_S} {c : z_Mem → Option (Int32 × z_Mem)}, q_Inv s → c_all o M s → m_all (o + 548) M s → z_inb (i + (1 : Int32)) L → ∃ M' s', Fc o L S i M c = c M' ∧ c_all o M' s' ∧ m_all (o + 548) M' s' ∧ q_Inv s'
theorem q_ss_Inv {s : q_S} (h : q_Inv s) : q_Inv (q_ss s) := ⟨⟨h.1.1, h.1.2.1, h.1.2.2.1, fun B e => by
  have e : some s.2.1 = some B := e
  cases e
  exact h.1.2.1⟩, h.2.1, h.2.2.1, fun B e => by
  have e : some s.2.1 = some B := e
  cases e
  exact h.2.1⟩
theorem q_feed_Inv {s : q_S} (h : q_Inv s) (p0 p1 p2 p3 p4 : Int32) : q_Inv (q_feed s p0 p1 p2 p3 p4) := by
  unfold q_feed
  split
  · exact h
  · exact h
theorem q_cases (hLoad : q_case Fc_273) (hQuery : q_case Fc_2100) {o L : Nat} {S : Nat → Int32} {i z : Int32} {M : z_Mem} {s : q_S} {c : z_Mem → Option (Int32 × z_Mem)} (hI : q_Inv s) (hc : c_all o M s) (hm : m_all (o + 548) M s) (h1 : z_inb (i + (1 : Int32)) L) (h2 : z_inb (i + (2 : Int32)) L) (h3 : z_inb (i + (3 : Int32)) L) (h4 : z_inb (i + (4 : Int32)) L) (h5 : z_inb (i + (5 : Int32)) L) : ∃ M' s', F_law_C o L S i z M c = c M' ∧ c_all o M' s' ∧ m_all (o + 548) M' s' ∧ q_Inv s' := by
  have same : ∀ {F : Option (Int32 × z_Mem)}, (∃ M', F = c M' ∧ c_all o M' s ∧ m_all (o + 548) M' s) → ∃ M' s', F = c M' ∧ c_all o M' s' ∧ m_all (o + 548) M' s' ∧ q_Inv s' := fun h => by
    obtain ⟨M', e, c', m'⟩ := h
    exact ⟨M', s, e, c', m', hI⟩
  unfold F_law_C
  by_cases hz0 : z = 0
  · rw [if_pos hz0]
    obtain ⟨M', s', e, c', m', p0, p1, p2, p3, p4, es⟩ := a_feed (S := S) (c := c) hc hm h1 h2 h3 h4 h5
    exact ⟨M', s', e, c', m', es ▸ q_feed_Inv hI p0 p1 p2 p3 p4⟩
  rw [if_neg hz0]
  by_cases hz1 : z = 1
  · rw [if_pos hz1]
    exact hLoad hI hc hm h1
  rw [if_neg hz1]
  by_cases hz2 : z = 2
  · rw [if_pos hz2]
    exact same (a_errorPosition hc hm)
  rw [if_neg hz2]
  by_cases hz3 : z = 3
  · rw [if_pos hz3]
    exact same (a_size hI.1.I hc hm h1)
  rw [if_neg hz3]
  by_cases hz4 : z = 4
  · rw [if_pos hz4]
    exact same (a_rule hc hm h1)
  rw [if_neg hz4]
  by_cases hz5 : z = 5
  · rw [if_pos hz5]
    exact same (a_minutes hI.1.I hc hm h1 h2)
  rw [if_neg hz5]
  by_cases hz6 : z = 6
  · rw [if_pos hz6]
    exact same (a_taxi hI.1.I (fun t ht => hI.1.T ht) hc hm h1 h2)
  rw [if_neg hz6]
  by_cases hz7 : z = 7
  · rw [if_pos hz7]
    exact same (a_account hI.1.I hc hm h1 h2)
  rw [if_neg hz7]
  by_cases hz8 : z = 8
  · rw [if_pos hz8]
    exact same (a_stop hI.1 hc hm h1 h2 h3)
  rw [if_neg hz8]
  by_cases hz9 : z = 9
  · rw [if_pos hz9]
    exact same (a_ride hI.1.I (fun r hr => (hI.1.2.1.2.2.1 r hr).1) hc hm h1 h2)
  rw [if_neg hz9]
  by_cases hz10 : z = 10
  · rw [if_pos hz10]
    exact same (a_offer hI.1.I hc hm h1 h2)
  rw [if_neg hz10]
  by_cases hz11 : z = 11
  · rw [if_pos hz11]
    exact same (a_extra hI.1 hc hm h1 h2)
  rw [if_neg hz11]
  by_cases hz12 : z = 12
  · rw [if_pos hz12]
    exact same (a_fare hI.1 hc hm h1)
  rw [if_neg hz12]
  by_cases hz13 : z = 13
  · rw [if_pos hz13]
    exact same (a_aloneFare hI.1.I hc hm h1 h2)
  rw [if_neg hz13]
  by_cases hz14 : z = 14
  · rw [if_pos hz14]
    exact same (a_keeps hI.1 hc hm h1)
  rw [if_neg hz14]
  by_cases hz15 : z = 15
  · rw [if_pos hz15]
    exact same (a_routeMinutes hI.1 hc hm h1)
  rw [if_neg hz15]
  by_cases hz16 : z = 16
  · rw [if_pos hz16]
    exact same (a_rides hI.1.I hc hm h1)
  rw [if_neg hz16]
  by_cases hz17 : z = 17
  · rw [if_pos hz17]
    exact same (a_meanFare hI.1.I hc hm )
  rw [if_neg hz17]
  by_cases hz18 : z = 18
  · rw [if_pos hz18]
    exact same (a_sharedPart hI.1.I hc hm )
  rw [if_neg hz18]
  by_cases hz19 : z = 19
  · rw [if_pos hz19]
    exact a_ask hI hc hm h1 h2 h3 h4 h5
  rw [if_neg hz19]
  by_cases hz20 : z = 20
  · rw [if_pos hz20]
    exact a_accept hI hc hm h1
  rw [if_neg hz20]
  by_cases hz21 : z = 21
  · rw [if_pos hz21]
    exact a_decline hI hc hm h1
  rw [if_neg hz21]
  by_cases hz22 : z = 22
  · rw [if_pos hz22]
    exact a_cancel hI hc hm h1
  rw [if_neg hz22]
  by_cases hz23 : z = 23
  · rw [if_pos hz23]
    exact a_absent hI hc hm h1
  rw [if_neg hz23]
  by_cases hz24 : z = 24
  · rw [if_pos hz24]
    exact a_advance hI hc hm h1
  rw [if_neg hz24]
  by_cases hz25 : z = 25
  · rw [if_pos hz25]
    exact a_tip hI hc hm h1 h2
  rw [if_neg hz25]
  by_cases hz26 : z = 26
  · rw [if_pos hz26]
    exact a_setRate hI hc hm h1
  rw [if_neg hz26]
  by_cases hz27 : z = 27
  · rw [if_pos hz27]
    exact a_setEnd hI hc hm h1 h2
  rw [if_neg hz27]
  by_cases hz28 : z = 28
  · rw [if_pos hz28]
    exact a_setRule hI hc hm h1 h2
  rw [if_neg hz28]
  by_cases hz29 : z = 29
  · rw [if_pos hz29]
    exact a_format hI hc hm h1
  rw [if_neg hz29]
  by_cases hz30 : z = 30
  · rw [if_pos hz30]
    exact same (a_formattedByte hc hm h1)
  rw [if_neg hz30]
  by_cases hz31 : z = 31
  · rw [if_pos hz31]
    exact same (a_undoCount hc hm)
  rw [if_neg hz31]
  by_cases hz32 : z = 32
  · rw [if_pos hz32]
    exact a_undo hI hc hm 
  rw [if_neg hz32]
  by_cases hz33 : z = 33
  · rw [if_pos hz33]
    obtain ⟨M', e, c', m'⟩ := a_saveSnapshot (S := S) (L := L) (i := i) (c := c) hI.1.I hI.1.2.1.abs hc hm
    exact ⟨M', _, e, c', m', q_ss_Inv hI⟩
  rw [if_neg hz33]
  by_cases hz34 : z = 34
  · rw [if_pos hz34]
    exact a_restore hI hc hm 
  rw [if_neg hz34]
  by_cases hz35 : z = 35
  · rw [if_pos hz35]
    exact hQuery hI hc hm h1
  rw [if_neg hz35]
  exact ⟨M, s, rfl, hc, hm, hI⟩
theorem q_loopEnd {L i : Nat} (hL : L ≤ 3072) (hi : i < 2 ^ 30) : (Int32.ofNat L - 6 < Int32.ofNat i) ↔ L < i + 6 := by
  rw [Int32.lt_iff_toInt_lt, Int32.toInt_sub, i_toInt (by omega), i_toInt (by omega)]
  have e : (6 : Int32).toInt = 6 := by decide
  rw [e, Int.bmod_eq_of_le (by omega) (by omega)]
  omega
theorem q_loop (hLoad : q_case Fc_273) (hQuery : q_case Fc_2100) {o L : Nat} (hL : L ≤ 3072) {S : Nat → Int32} : ∀ (f j : Nat) (M : z_Mem) (s : q_S), f + j = 513 → j ≤ 512 → q_Inv s → c_all o M s → m_all (o + 548) M s → ∃ ME, F_law_L o L S f (Int32.ofNat (6 * j)) M = some (1, ME) := by
  intro f
  induction f with
  | zero => intro j M s h1 h2; omega
  | succ f ih =>
    intro j M s hf hj hI hc hm
    unfold F_law_L
    by_cases he : L < 6 * j + 6
    · rw [if_pos ((q_loopEnd hL (by omega)).mpr he)]
      exact ⟨M, rfl⟩
    · rw [if_neg (fun q => he ((q_loopEnd hL (by omega)).mp q)), if_pos ((i_inb (by omega)).mpr (by omega))]
      have ib : ∀ k, k < 6 → z_inb (Int32.ofNat (6 * j) + Int32.ofNat k) L := fun k hk => by
        rw [i_add]
        exact (i_inb (by omega)).mpr (by omega)
      obtain ⟨M', s', e, c', m', I'⟩ := q_cases hLoad hQuery (S := S) (z := S (Int32.ofNat (6 * j)).toNatClampNeg &&& 63) (c := fun M1 => zl (Int32.ofNat (6 * j) + 6) fun v => F_law_L o L S f v M1) hI hc hm (ib 1 (by omega)) (ib 2 (by omega)) (ib 3 (by omega)) (ib 4 (by omega)) (ib 5 (by omega))
      obtain ⟨ME, e2⟩ := ih (j + 1) M' s' (by omega) (by omega) I' c' m'
      refine ⟨ME, e.trans ?_⟩
      show F_law_L o L S f (Int32.ofNat (6 * j) + Int32.ofNat 6) M' = _
      rw [i_add]
      exact e2
theorem q_whole (hLoad : q_case Fc_273) (hQuery : q_case Fc_2100) : p_whole := fun o L hL xs => by
  obtain ⟨MA, MB, MC, MD, eA, eB, eC, eD, hc, hm⟩ := p_start o
  obtain ⟨ME, e⟩ := q_loop hLoad hQuery hL (S := xs) 513 0 _ _ (by omega) (by omega) q_s0_Inv hc hm
  exact ⟨MA, MB, MC, MD, ME, eA, eB, eC, eD, e⟩
