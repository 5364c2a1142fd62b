/-! ===== PURE: aloneFare, account, ride, offer ===== -/
theorem q_badh {n : Nat} (hn : n + 1 < 2 ^ 31) {p : Int32} : (p < 0 ∨ Int32.ofNat n < p) ↔ q_bad (n + 1) p := by
  by_cases h0 : p < 0
  · exact ⟨fun _ => Or.inl h0, fun _ => Or.inl h0⟩
  · obtain ⟨t, ht, rfl⟩ := i_ex h0
    have h1 := i_lt (a := n) (b := t) (by omega) ht
    have h2 := i_lt (a := t) (b := n + 1) ht hn
    unfold q_bad
    rw [h1, h2]
    constructor
    · rintro (q | q)
      · exact Or.inl q
      · exact Or.inr (by omega)
    · rintro (q | q)
      · exact Or.inl q
      · exact Or.inr (by omega)
theorem q_badne {n t : Nat} (hn : n < 2 ^ 31) (ht : t < n) {p : Int32} (h : q_bad n p) : ¬ p = Int32.ofNat t := fun q => q_good hn ht (q ▸ h)
/-- a number that must lie in 0 .. h, of the reference -/
theorem p_upto (a n : Nat) (p e : Int32) (M : z_Mem) (hn : n + 1 < 2 ^ 31) {lo hi : Int64} (hlo : (0 : Int32).toInt64 = lo) (hhi : (Int32.ofNat n).toInt64 = hi) {β : Type} (f : Int32 → z_Mem → Option β) : (q_bad (n + 1) p → (zb (F_Model_in p.toInt64 lo hi M) fun x => zb2 (F_Model_fails a x e M) f) = f 1 (z_wI M a 0 e)) ∧ (¬ q_bad (n + 1) p → (zb (F_Model_in p.toInt64 lo hi M) fun x => zb2 (F_Model_fails a x e M) f) = f 0 M) := by
  rw [p_infx a p 0 (Int32.ofNat n) e M hlo hhi]
  exact ⟨fun h => if_pos ((q_badh hn).mpr h), fun h => if_neg (fun q => h ((q_badh hn).mp q))⟩
theorem a_aloneFare {o L : Nat} {S : Nat → Int32} {i : Int32} {M : z_Mem} {s : q_S} {c : z_Mem → Option (Int32 × z_Mem)} (hI : q_I s) (hc : c_all o M s) (hm : m_all (o + 548) M s) (h1 : z_inb (i + (1 : Int32)) L) (h2 : z_inb (i + (2 : Int32)) L) : ∃ M', Fc_998 o L S i M c = c M' ∧ c_all o M' s ∧ m_all (o + 548) M' s := by
  generalize hp : S (i + 1).toNatClampNeg = p
  generalize hq : S (i + 2).toNatClampNeg = q
  obtain ⟨Z, hZ2, hZ8, hZ⟩ := hI.zones
  have cz := fun p => a_zone_c hc hZ p
  have mz := fun (N : z_Mem) (hN : m_all (o + 548) N s) p => a_zone_m (m := o + 548) (N := z_wI N (o + 548) 0 0) (s := s) (by omega) (m_zones (hN.thr 0) hZ) p
  rcases q_split Z (by omega) p with ⟨a, ha, rfl⟩ | hb
  · rcases q_split Z (by omega) q with ⟨b, hb, rfl⟩ | hb
    · have ga := q_good (n := Z) (by omega) ha
      have gb := q_good (n := Z) (by omega) hb
      refine k_aloneFare (y := .ok (if s.1 (8 * a + b) = -1 then -1 else s.1 67 + s.1 (8 * a + b) * s.2.1 2)) q_c1n hm h1 h2 (l_of' hc ?_ (fun e M1 he => by cases he)) (fun N hN => m_val hN rfl ?_)
      · rw [hp, hq]
        unfold F_Sys_aloneFare
        simp only [zxp, zb, (cz _).2 ga, (cz _).2 gb, a_way_c hc (show a < 8 by omega) (show b < 8 by omega), hc.2.1.2.2.1, hc.2.1.2.2.2.1]
        split <;> rfl
      · rw [hp, hq]
        unfold F_Model_aloneFare
        simp only [zl, zb, zb2, (mz N hN _).2 ga, (mz N hN _).2 gb, a_way_m (hN.thr 0) (show a < 8 by omega) (show b < 8 by omega), if_true]
        by_cases hw : s.1 (8 * a + b) = -1
        · rw [if_pos hw, if_pos hw]
        · have e2 : (2 : Int32).toNatClampNeg = 2 := rfl
          have hz : z_inb 2 581 := by decide
          rw [if_neg hw, if_neg hw, if_pos hz, e2, m_at (hN.thr 0) (by omega), (hN.thr 0).1.2.2.2.1]
    · have ga := q_good (n := Z) (by omega) ha
      refine k_aloneFare (y := .error 1) q_c1n hm h1 h2 (l_of' hc ?_ (fun e M1 he => by cases he; rfl)) (fun N hN => m_err hN (b := 0) (v := 1) rfl ?_)
      · rw [hp, hq]
        unfold F_Sys_aloneFare
        simp only [zxp, zb, (cz _).2 ga, (cz _).1 hb]
      · rw [hp, hq]
        unfold F_Model_aloneFare
        simp only [zl, zb, zb2, (mz N hN _).2 ga, (mz N hN _).1 hb, if_true]
        rfl
  · refine k_aloneFare (y := .error 1) q_c1n hm h1 h2 (l_of' hc ?_ (fun e M1 he => by cases he; rfl)) (fun N hN => m_err hN (b := 0) (v := 1) rfl ?_)
    · rw [hp, hq]
      unfold F_Sys_aloneFare
      simp only [zxp, zb, (cz _).1 hb]
    · rw [hp, hq]
      unfold F_Model_aloneFare
      simp only [zl, zb, zb2, (mz N hN _).1 hb]
      rfl
theorem a_account {o L : Nat} {S : Nat → Int32} {i : Int32} {M : z_Mem} {s : q_S} {c : z_Mem → Option (Int32 × z_Mem)} (hI : q_I s) (hc : c_all o M s) (hm : m_all (o + 548) M s) (h1 : z_inb (i + (1 : Int32)) L) (h2 : z_inb (i + (2 : Int32)) L) : ∃ M', Fc_590 o L S i M c = c M' ∧ c_all o M' s ∧ m_all (o + 548) M' s := by
  generalize hp : S (i + 1).toNatClampNeg = p
  generalize hq : S (i + 2).toNatClampNeg = q
  have hT := hI.taxis4
  have ct := a_taxi_c hI hc
  have mt := fun (N : z_Mem) (hN : m_all (o + 548) N s) p => a_taxi_m (m := o + 548) (N := z_wI N (o + 548) 0 0) (T := q_T s.1) (by omega) (m_taxis hI (hN.thr 0)) p
  rcases q_split (q_T s.1) (by omega) p with ⟨t, ht, rfl⟩ | hb
  · have gt := q_good (n := q_T s.1) (by omega) ht
    rcases q_split 6 (by omega) q with ⟨k, hk, rfl⟩ | hb
    · have gk := q_good (n := 6) (by omega) hk
      refine k_account (y := .ok (s.2.1 (18 + 40 * t + k))) q_c1n hm h1 h2 (l_of' hc ?_ (fun e M1 he => by cases he)) (fun N hN => m_val hN rfl ?_)
      · rw [hp, hq]
        unfold F_Sys_account
        have hx := (hc.2.1.2.2.2.2.2.2.2.1 t ht).2.2.2.2.2.2.2.2.2
        rcases (show k = 0 ∨ k = 1 ∨ k = 2 ∨ k = 3 ∨ k = 4 ∨ k = 5 by omega) with rfl | rfl | rfl | rfl | rfl | rfl
        · simp only [zxp, zb, (ct _).2 t ht rfl]
          exact congrArg some (congrArg Except.ok (hx.1.trans (congrArg s.2.1 (by omega))))
        · simp only [zxp, zb, (ct _).2 t ht rfl]
          exact congrArg some (congrArg Except.ok (hx.2.1.trans (congrArg s.2.1 (by omega))))
        · simp only [zxp, zb, (ct _).2 t ht rfl]
          exact congrArg some (congrArg Except.ok (hx.2.2.1.trans (congrArg s.2.1 (by omega))))
        · simp only [zxp, zb, (ct _).2 t ht rfl]
          exact congrArg some (congrArg Except.ok (hx.2.2.2.1.trans (congrArg s.2.1 (by omega))))
        · simp only [zxp, zb, (ct _).2 t ht rfl]
          exact congrArg some (congrArg Except.ok (hx.2.2.2.2.1.trans (congrArg s.2.1 (by omega))))
        · simp only [zxp, zb, (ct _).2 t ht rfl]
          exact congrArg some (congrArg Except.ok (hx.2.2.2.2.2.1.trans (congrArg s.2.1 (by omega))))
      · rw [hp, hq]
        unfold F_Model_account
        simp only [zl]
        rw [zb2_ok ((mt N hN _).2 gt)]
        rw [if_pos rfl, (p_upto (o + 548) 5 (Int32.ofNat k) 1 _ (by omega) (lo := 0) (hi := 5) (by decide) (by decide) _).2 gk, if_pos rfl]
        have e : (5 : Int32) + Int32.ofNat k = Int32.ofNat (5 + k) := i_add 5 k
        rw [e, zb_ok (m_in2 (hN.thr 0) (by omega) (by omega))]
        exact congrArg some (congrArg (fun z => (z, _)) (congrArg s.2.1 (by omega)))
    · refine k_account (y := .error 1) q_c1n hm h1 h2 (l_of' hc ?_ (fun e M1 he => by cases he; rfl)) (fun N hN => m_err hN (b := 0) (v := 1) rfl ?_)
      · rw [hp, hq]
        unfold F_Sys_account
        simp only [zxp, zb, (ct _).2 t ht rfl]
        have n0 : ¬ q = (0 : Int32) := q_badne (t := 0) (by omega) (by omega) hb
        have n1 : ¬ q = (1 : Int32) := q_badne (t := 1) (by omega) (by omega) hb
        have n2 : ¬ q = (2 : Int32) := q_badne (t := 2) (by omega) (by omega) hb
        have n3 : ¬ q = (3 : Int32) := q_badne (t := 3) (by omega) (by omega) hb
        have n4 : ¬ q = (4 : Int32) := q_badne (t := 4) (by omega) (by omega) hb
        have n5 : ¬ q = (5 : Int32) := q_badne (t := 5) (by omega) (by omega) hb
        rw [if_neg n0, if_neg n1, if_neg n2, if_neg n3, if_neg n4, if_neg n5]
      · rw [hp, hq]
        unfold F_Model_account F_Model_account_J30
        simp only [zl]
        rw [zb2_ok ((mt N hN _).2 gt)]
        rw [if_pos rfl, (p_upto (o + 548) 5 q 1 _ (by omega) (lo := 0) (hi := 5) (by decide) (by decide) _).1 hb]
        rfl
  · refine k_account (y := .error 1) q_c1n hm h1 h2 (l_of' hc ?_ (fun e M1 he => by cases he; rfl)) (fun N hN => m_err hN (b := 0) (v := 1) rfl ?_)
    · rw [hp, hq]
      unfold F_Sys_account
      simp only [zxp, zb, (ct _).1 hb]
    · rw [hp, hq]
      unfold F_Model_account F_Model_account_J30
      simp only [zl]
      rw [zb2_ok ((mt N hN _).1 hb)]
      rfl
