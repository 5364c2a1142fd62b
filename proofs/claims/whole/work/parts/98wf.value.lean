/-! ===== PURE: query: operands and comparisons, both ===== -/
theorem j_property {o n q : Nat} {M N : z_Mem} {T : Nat → Nat} (hT : ∀ k, T k < 256) (hg : z_g o M N T n q) : (∀ j, 5 ≤ j → j ≤ 13 → v_is T n q j → F_Model_propertyHere (o + 548) N = some (Int32.ofNat (if j = 5 then 8 else j - 6))) ∧ ((∀ j, 5 ≤ j → j ≤ 13 → ¬ v_is T n q j) → F_Model_propertyHere (o + 548) N = some (-1)) := by
  have w6 : F_Model_isWord (o + 548) 360968 N = _ := (j_isWord (j := 6) hT (by decide) hg).2
  have w7 : F_Model_isWord (o + 548) 10492313 N = _ := (j_isWord (j := 7) hT (by decide) hg).2
  have w8 : F_Model_isWord (o + 548) 131638 N = _ := (j_isWord (j := 8) hT (by decide) hg).2
  have w9 : F_Model_isWord (o + 548) 555 N = _ := (j_isWord (j := 9) hT (by decide) hg).2
  have w10 : F_Model_isWord (o + 548) 6280423606 N = _ := (j_isWord (j := 10) hT (by decide) hg).2
  have w11 : F_Model_isWord (o + 548) 9665215 N = _ := (j_isWord (j := 11) hT (by decide) hg).2
  have w12 : F_Model_isWord (o + 548) 60458013 N = _ := (j_isWord (j := 12) hT (by decide) hg).2
  have w13 : F_Model_isWord (o + 548) 119318 N = _ := (j_isWord (j := 13) hT (by decide) hg).2
  have w5 : F_Model_isWord (o + 548) 395046 N = _ := (j_isWord (j := 5) hT (by decide) hg).2
  unfold F_Model_propertyHere
  rw [zb_ok w6, zb_ok w7, zb_ok w8, zb_ok w9, zb_ok w10, zb_ok w11, zb_ok w12, zb_ok w13, zb_ok w5]
  refine ⟨fun j h1 h2 hv => ?_, fun hno => ?_⟩
  · have one : ∀ k, k < 26 → k ≠ j → ¬ v_is T n q k := fun k hk hne z => hne (v_is.one hk (by omega) z hv)
    rcases (show j = 5 ∨ j = 6 ∨ j = 7 ∨ j = 8 ∨ j = 9 ∨ j = 10 ∨ j = 11 ∨ j = 12 ∨ j = 13 by omega) with rfl | rfl | rfl | rfl | rfl | rfl | rfl | rfl | rfl
    · rw [if_neg (one 6 (by omega) (by omega)), if_pos rfl, if_neg (one 7 (by omega) (by omega)), if_pos rfl, if_neg (one 8 (by omega) (by omega)), if_pos rfl, if_neg (one 9 (by omega) (by omega)), if_pos rfl, if_neg (one 10 (by omega) (by omega)), if_pos rfl, if_neg (one 11 (by omega) (by omega)), if_pos rfl, if_neg (one 12 (by omega) (by omega)), if_pos rfl, if_neg (one 13 (by omega) (by omega)), if_pos rfl, if_pos hv, if_neg ne10]
      rfl
    · rw [if_pos hv, if_neg ne10]
      rfl
    · rw [if_neg (one 6 (by omega) (by omega)), if_pos rfl, if_pos hv, if_neg ne10]
      rfl
    · rw [if_neg (one 6 (by omega) (by omega)), if_pos rfl, if_neg (one 7 (by omega) (by omega)), if_pos rfl, if_pos hv, if_neg ne10]
      rfl
    · rw [if_neg (one 6 (by omega) (by omega)), if_pos rfl, if_neg (one 7 (by omega) (by omega)), if_pos rfl, if_neg (one 8 (by omega) (by omega)), if_pos rfl, if_pos hv, if_neg ne10]
      rfl
    · rw [if_neg (one 6 (by omega) (by omega)), if_pos rfl, if_neg (one 7 (by omega) (by omega)), if_pos rfl, if_neg (one 8 (by omega) (by omega)), if_pos rfl, if_neg (one 9 (by omega) (by omega)), if_pos rfl, if_pos hv, if_neg ne10]
      rfl
    · rw [if_neg (one 6 (by omega) (by omega)), if_pos rfl, if_neg (one 7 (by omega) (by omega)), if_pos rfl, if_neg (one 8 (by omega) (by omega)), if_pos rfl, if_neg (one 9 (by omega) (by omega)), if_pos rfl, if_neg (one 10 (by omega) (by omega)), if_pos rfl, if_pos hv, if_neg ne10]
      rfl
    · rw [if_neg (one 6 (by omega) (by omega)), if_pos rfl, if_neg (one 7 (by omega) (by omega)), if_pos rfl, if_neg (one 8 (by omega) (by omega)), if_pos rfl, if_neg (one 9 (by omega) (by omega)), if_pos rfl, if_neg (one 10 (by omega) (by omega)), if_pos rfl, if_neg (one 11 (by omega) (by omega)), if_pos rfl, if_pos hv, if_neg ne10]
      rfl
    · rw [if_neg (one 6 (by omega) (by omega)), if_pos rfl, if_neg (one 7 (by omega) (by omega)), if_pos rfl, if_neg (one 8 (by omega) (by omega)), if_pos rfl, if_neg (one 9 (by omega) (by omega)), if_pos rfl, if_neg (one 10 (by omega) (by omega)), if_pos rfl, if_neg (one 11 (by omega) (by omega)), if_pos rfl, if_neg (one 12 (by omega) (by omega)), if_pos rfl, if_pos hv, if_neg ne10]
      rfl
  · rw [if_neg (hno 6 (by omega) (by omega)), if_pos rfl, if_neg (hno 7 (by omega) (by omega)), if_pos rfl, if_neg (hno 8 (by omega) (by omega)), if_pos rfl, if_neg (hno 9 (by omega) (by omega)), if_pos rfl, if_neg (hno 10 (by omega) (by omega)), if_pos rfl, if_neg (hno 11 (by omega) (by omega)), if_pos rfl, if_neg (hno 12 (by omega) (by omega)), if_pos rfl, if_neg (hno 13 (by omega) (by omega)), if_pos rfl, if_neg (hno 5 (by omega) (by omega)), if_pos rfl]
/-- an operand is read -/
theorem j_value {o n q : Nat} {M N : z_Mem} {T : Nat → Nat} {S C : List Nat} (hT : ∀ k, T k < 256) (hg : z_g o M N T n q) (hQ : y_Q (o + 548) N S C) (hl : S.length + C.length ≤ q) (hn : n ≤ 200) : ∃ x M' N', F_QueryReader_readValue o M = some (x, M') ∧ F_Model_valueRead (o + 548) N = some N' ∧ c_ks o M M' ∧ n_kq (o + 548) N N' ∧ (z_b o M' N' ∨ ∃ q' k, q < q' ∧ q < n ∧ z_g o M' N' T n q' ∧ y_Q (o + 548) N' S (C ++ [k]) ∧ h_op k x) := by
  have hk9 := hg.k9 2 (by decide) (by decide)
  have hC := hQ.2.2.2.2.2.2.2.1
  unfold F_QueryReader_readValue F_Tokens_isNumber F_Model_valueRead
  rw [zb_ok (b_ok hg.1.2.2.1), if_neg ne10]
  by_cases g : q < n ∧ x_kd (T q) = 2
  · have e9 : M.1 (o + 499) 9 = 2 := hk9.1.mpr g
    have e27 : N.1 (o + 548) 27 = 2 := hk9.2.mpr g
    have lC : C.length < 200 := by omega
    rw [if_pos e9, zb_ok rfl, if_neg ne10, if_pos e27]
    rcases j_check (a := 0) (b := 99999) hT (by decide) (by decide) hg with ⟨t, M', N', -, ht, hq, e1, -, -, -, e2, e3, hg', c, d⟩ | ⟨M', N', e1, e3, hb', c, d, -⟩
    · rw [zb2_ok (show F_Tokens_checkNumber o 0 99999 M = some (Int32.ofNat t, M) from e1), zb_ok e2, zb2_ok (show F_Model_number (o + 548) 0 99999 N = some (Int32.ofNat t, N') from e3)]
      obtain ⟨N2, e4, q4, s4⟩ := m_adds (k := 100 + t) (hQ.ks d) lC
      rw [show (100 : Int32) + Int32.ofNat t = Int32.ofNat (100 + t) from i_add 100 t, zb_ok e4]
      exact ⟨_, _, _, rfl, rfl, c, d.kq.tr s4.kq, Or.inr ⟨_, 100 + t, (x_to_le hg.le.1 (fun g => (hg.le.2.2 g).1)).2.2.1 hq, hq, hg'.st s4, q4, h_op_n ht⟩⟩
    · obtain ⟨M2, e2, c2⟩ := t_next o M'
      rw [zb2_ok (show F_Tokens_checkNumber o 0 99999 M = some (-1, M') from e1), zb_ok e2, zb2_ok (show F_Model_number (o + 548) 0 99999 N = some (Int32.ofNat 0, N') from e3)]
      obtain ⟨N2, e4, q4, s4⟩ := m_adds (k := 100 + 0) (hQ.ks d) lC
      rw [show (100 : Int32) + Int32.ofNat 0 = Int32.ofNat (100 + 0) from i_add 100 0, zb_ok e4]
      exact ⟨_, _, _, rfl, rfl, c.tr c2, d.kq.tr s4.kq, Or.inl ((hb'.c c2).st s4)⟩
  · have e9 : ¬ M.1 (o + 499) 9 = 2 := fun k => g (hk9.1.mp k)
    have e27 : ¬ N.1 (o + 548) 27 = 2 := fun k => g (hk9.2.mp k)
    rw [if_neg e9, zb_ok rfl, if_pos rfl, if_neg e27]
    have hp := j_property hT hg
    rcases j_takeWord (a := 5) (b := 13) hT (by decide) (by decide) hg with ⟨j, M1, N1, h5, h13, hv, hq, -⟩ | ⟨M1, N1, hno, e1, f1, hb1, c1, d1⟩
    · have lC : C.length < 200 := by omega
      have hk : (if j = 5 then 8 else j - 6) < 9 := by split <;> omega
      obtain ⟨N2, e4, q4, s4⟩ := m_adds (k := if j = 5 then 8 else j - 6) hQ lC
      rcases j_takeWord (a := 5) (b := 13) hT (by decide) (by decide) (hg.st s4) with ⟨j', M3, N3, h5', h13', hv', hq', e3, f3, hg3, c3, d3⟩ | ⟨M3, N3, hno, -⟩
      · have hjj : j' = j := v_is.one (by omega) (by omega) hv' hv
        rw [hjj] at e3
        rw [zb2_ok (show F_Tokens_takeWord o 5 13 M = some (Int32.ofNat j, M3) from e3), zb_ok (hp.1 j h5 h13 hv), if_neg (show ¬ Int32.ofNat (if j = 5 then 8 else j - 6) = -1 from fun k => by
          have := congrArg Int32.toInt k
          rw [i_toInt (by omega)] at this
          have e : ((-1 : Int32)).toInt = -1 := by decide
          omega), zb_ok e4, zb_ok f3]
        exact ⟨_, _, _, rfl, rfl, c3, s4.kq.tr d3.kq, Or.inr ⟨_, _, (x_to_le hg.le.1 (fun g => (hg.le.2.2 g).1)).2.2.1 hq, hq, hg3, q4.ks d3, h_op_w h5 h13⟩⟩
      · exact absurd hv (hno j h5 h13)
    · rw [zb2_ok (show F_Tokens_takeWord o 5 13 M = some (-1, M1) from e1), zb_ok (hp.2 hno), if_pos rfl, zb2_ok f1]
      exact ⟨_, _, _, rfl, rfl, c1, d1.kq, Or.inl hb1⟩
theorem t_value (o : Nat) (M : z_Mem) : ∃ x M', F_QueryReader_readValue o M = some (x, M') ∧ c_ks o M M' := by
  obtain ⟨x1, e1⟩ := t_isNumber o M
  unfold F_QueryReader_readValue
  rw [zb_ok e1]
  by_cases h : x1 = 0
  · rw [if_pos h]
    obtain ⟨x, M', e, c⟩ := t_takeWord o 5 13 M
    rw [zb2_ok e]
    exact ⟨_, _, rfl, c⟩
  · rw [if_neg h]
    obtain ⟨x, M1, e, c⟩ := t_check o 0 99999 M
    obtain ⟨M2, e2, c2⟩ := t_next o M1
    rw [zb2_ok e, zb_ok e2]
    exact ⟨_, _, rfl, c.tr c2⟩
theorem c_desk.ks {o : Nat} {M M' : z_Mem} {c A : q_R} (h : c_desk M (o + 5) c A) (hk : c_ks o M M') : c_desk M' (o + 5) c A := h.keep (fun x _ _ => hk.1 x (by omega))
/-- the second half of a comparison, of the class alone -/
theorem t_cmp112 {o : Nat} {c A : q_R} (hA : A 1 = Int32.ofNat (q_N A)) (rT rF : Int32 → z_Mem → Option (Int32 × z_Mem)) (s v : Int32) {M : z_Mem} (hd : c_desk M (o + 5) c A) : ∃ x M', F_QueryReader_readFactor_J112 o rT rF s v M = some (x, M') ∧ c_ks o M M' := by
  obtain ⟨x, M1, e, c1⟩ := t_value o M
  obtain ⟨y, ey, -⟩ := c_hold (hd.ks c1) hA v s x
  unfold F_QueryReader_readFactor_J112
  rw [zb2_ok e, zb_ok ey]
  exact ⟨_, _, rfl, c1⟩
theorem t_cmp85 {o : Nat} {c A : q_R} (hA : A 1 = Int32.ofNat (q_N A)) (rT rF : Int32 → z_Mem → Option (Int32 × z_Mem)) (a b v : Int32) {M : z_Mem} (hd : c_desk M (o + 5) c A) : ∃ x M', F_QueryReader_readFactor_J85 o rT rF a b v M = some (x, M') ∧ c_ks o M M' := by
  obtain ⟨M1, e1, c1⟩ := t_next o M
  have fin : ∀ s w, ∃ x M', F_QueryReader_readFactor_J112 o rT rF s w M1 = some (x, M') ∧ c_ks o M M' := fun s w => by
    obtain ⟨x, M', e, c2⟩ := t_cmp112 hA rT rF s w (hd.ks c1)
    exact ⟨x, M', e, c1.tr c2⟩
  unfold F_QueryReader_readFactor_J85
  rw [zb_ok e1]
  by_cases h : b = 0
  · rw [if_pos h]
    by_cases h2 : v = 0
    · rw [if_pos h2]
      exact fin _ _
    · rw [if_neg h2]
      exact fin _ _
  · rw [if_neg h]
    exact fin _ _
/-- the class's comparison from the relation's sign on -/
def h_cls (o : Nat) (rT rF : Int32 → z_Mem → Option (Int32 × z_Mem)) (x4 : Int32) (M3 : z_Mem) : Option (Int32 × z_Mem) :=
  zb (F_Tokens_isSign o 60 M3) fun x5 => zb (F_Tokens_isSign o 62 M3) fun x6 => if x5 = 0 then (if x6 = 0 then zb (F_Tokens_isSign o 61 M3) fun x7 => if x7 = 0 then zb (F_Tokens_fail o 1 M3) fun M8 => F_QueryReader_readFactor_J85 o rT rF x4 x5 x6 M8 else F_QueryReader_readFactor_J85 o rT rF x4 x5 x6 M3 else F_QueryReader_readFactor_J85 o rT rF x4 x5 x6 M3) else F_QueryReader_readFactor_J85 o rT rF x4 x5 x6 M3
theorem t_cls {o : Nat} {c A : q_R} (hA : A 1 = Int32.ofNat (q_N A)) (rT rF : Int32 → z_Mem → Option (Int32 × z_Mem)) (x4 : Int32) {M : z_Mem} (hd : c_desk M (o + 5) c A) : ∃ x M', h_cls o rT rF x4 M = some (x, M') ∧ c_ks o M M' := by
  obtain ⟨x5, e5⟩ := t_isSign o 60 M
  obtain ⟨x6, e6⟩ := t_isSign o 62 M
  obtain ⟨x7, e7⟩ := t_isSign o 61 M
  unfold h_cls
  rw [zb_ok e5, zb_ok e6]
  by_cases h5 : x5 = 0
  · rw [if_pos h5]
    by_cases h6 : x6 = 0
    · rw [if_pos h6, zb_ok e7]
      by_cases h7 : x7 = 0
      · rw [if_pos h7]
        obtain ⟨M8, e8, c8⟩ := t_fail o 1 M
        obtain ⟨x, M', e, c2⟩ := t_cmp85 hA rT rF x4 x5 x6 (hd.ks c8)
        rw [zb_ok e8]
        exact ⟨x, M', e, c8.tr c2⟩
      · rw [if_neg h7]
        exact t_cmp85 hA rT rF x4 x5 x6 hd
    · rw [if_neg h6]
      exact t_cmp85 hA rT rF x4 x5 x6 hd
  · rw [if_neg h5]
    exact t_cmp85 hA rT rF x4 x5 x6 hd
/-- the reference's, likewise -/
def h_clm (m : Nat) (N3 : z_Mem) : Option z_Mem := zb (F_Model_isByte m 60 N3) fun x4 => if x4 = 0 then zb (F_Model_isByte m 62 N3) fun x5 => if x5 = 0 then F_Model_comparisonRead_J77 m 21 N3 else F_Model_comparisonRead_J77 m 22 N3 else F_Model_comparisonRead_J77 m 20 N3
theorem b_clm99 {m : Nat} {N : z_Mem} (h : N.1 m 30 ≠ 0) (v : Int32) : F_Model_comparisonRead_J99 m v N = some N := by
  unfold F_Model_comparisonRead_J99
  rw [zb_ok (b_good h), if_pos rfl]
theorem b_clm {m : Nat} {N : z_Mem} (h : N.1 m 30 ≠ 0) : h_clm m N = some N := by
  unfold h_clm F_Model_comparisonRead_J77
  rw [zb_ok (b_isByte h _), if_pos rfl, zb_ok (b_isByte h _), if_pos rfl, if_pos rfl, zb_ok (b_isByte h _), if_pos rfl, zb2_ok (b_wrongs h _), b_clm99 h]
/-- a comparison, from the relation's sign on, its first operand being k1 -/
theorem j_rel {o n q k1 : Nat} {M N : z_Mem} {T : Nat → Nat} {S C : List Nat} {c A : q_R} {x4 : Int32} (rT rF : Int32 → z_Mem → Option (Int32 × z_Mem)) (hT : ∀ k, T k < 256) (hA : A 1 = Int32.ofNat (q_N A)) (hd : c_desk M (o + 5) c A) (hg : z_g o M N T n q) (hQ : y_Q (o + 548) N S (C ++ [k1])) (hl : S.length + C.length + 1 ≤ q) (hn : n ≤ 200) (h1 : h_op k1 x4) : ∃ y M' N', h_cls o rT rF x4 M = some (y, M') ∧ h_clm (o + 548) N = some N' ∧ c_ks o M M' ∧ n_kq (o + 548) N N' ∧ (z_b o M' N' ∨ ∃ q' k2 rel, q + 1 < q' ∧ z_g o M' N' T n q' ∧ y_Q (o + 548) N' S (C ++ [k1, k2, rel]) ∧ h_den A [k1, k2, rel] y ∧ ∀ k, k ∈ [k1, k2, rel] → h_okc k) := by
  have hN := hd.1.2
  -- when the sign is there
  have go : ∀ (rel : Nat) (s : Int32), ((rel = 20 ∧ s = -1) ∨ (rel = 21 ∧ s = 0) ∨ (rel = 22 ∧ s = 1)) → q < n → ∃ y M' N', (zb (F_Tokens_next o M) fun M11 => F_QueryReader_readFactor_J112 o rT rF s x4 M11) = some (y, M') ∧ F_Model_comparisonRead_J99 (o + 548) (Int32.ofNat rel) N = some N' ∧ c_ks o M M' ∧ n_kq (o + 548) N N' ∧ (z_b o M' N' ∨ ∃ q' k2 rel, q + 1 < q' ∧ z_g o M' N' T n q' ∧ y_Q (o + 548) N' S (C ++ [k1, k2, rel]) ∧ h_den A [k1, k2, rel] y ∧ ∀ k, k ∈ [k1, k2, rel] → h_okc k) := fun rel s hs hq => by
    obtain ⟨M1, N1, e1, f1, hg1, c1, d1⟩ := j_next hT hg
    have hq1 := (x_to_le hg.le.1 (fun g => (hg.le.2.2 g).1)).2.2.1 hq
    unfold F_QueryReader_readFactor_J112 F_Model_comparisonRead_J99
    rw [zb_ok e1, zb_ok (b_ok hg.1.2.2.1), if_neg ne10, zb_ok f1]
    obtain ⟨x, M2, N2, e2, f2, c2, d2, h2⟩ := j_value hT hg1 (hQ.ks d1) (by rw [List.length_append]; show _ + (C.length + 1) ≤ _; omega) hn
    obtain ⟨y, ey, hy⟩ := c_hold ((hd.ks c1).ks c2) hA x4 s x
    rw [zb2_ok e2, zb_ok ey, zb_ok f2]
    rcases h2 with hb2 | ⟨q2, k2, hq2, hq2n, hg2, hQ2, hop2⟩
    · rw [zb_ok (b_good hb2.n), if_pos rfl]
      exact ⟨y, M2, N2, rfl, rfl, c1.tr c2, d1.kq.tr d2, Or.inl hb2⟩
    · have lC : (C ++ [k1] ++ [k2]).length < 200 := by
        have h3 := hg2.le.1
        rw [List.length_append, List.length_append]
        show C.length + 1 + 1 < 200
        omega
      obtain ⟨N3, e3, q3, s3⟩ := m_adds (k := rel) hQ2 lC
      rw [zb_ok (b_ok hg2.1.2.2.1), if_neg ne10, zb_ok e3]
      refine ⟨y, M2, N3, rfl, rfl, c1.tr c2, d1.kq.tr (d2.tr s3.kq), Or.inr ⟨q2, k2, rel, by omega, hg2.st s3, ?_, h_den_cmp h1 hop2 hN hs hy, fun k hk => ?_⟩⟩
      · rw [show C ++ [k1, k2, rel] = C ++ [k1] ++ [k2] ++ [rel] by simp]
        exact q3
      · have o1 := h1.1
        have o1' := h1.2.1
        have o2 := hop2.1
        have o2' := hop2.2.1
        rcases List.mem_cons.mp hk with e | hk
        · rw [e]
          unfold h_okc
          omega
        · rcases List.mem_cons.mp hk with e | hk
          · rw [e]
            unfold h_okc
            omega
          · rw [List.mem_singleton.mp hk]
            unfold h_okc
            omega
  have s60 := j_isSign (b := 60) hT (by decide) hg
  have s62 := j_isSign (b := 62) hT (by decide) hg
  have s61 := j_isSign (b := 61) hT (by decide) hg
  have J85 : ∀ a b, F_QueryReader_readFactor_J85 o rT rF x4 a b M = zb (F_Tokens_next o M) fun M11 => F_QueryReader_readFactor_J112 o rT rF (if a = 0 then (if b = 0 then 0 else 1) else -1) x4 M11 := fun a b => by
    unfold F_QueryReader_readFactor_J85
    by_cases ha : a = 0
    · simp only [if_pos ha]
      by_cases hb : b = 0
      · simp only [if_pos hb]
      · simp only [if_neg hb]
    · simp only [if_neg ha]
  unfold h_cls h_clm
  rcases s60 with ⟨y60, a60, b60, -⟩ | ⟨n60, a60, b60, -⟩
  · have n62 : ¬ s_is T n q 62 := fun z => by
      have := z.2.2
      have := y60.2.2
      omega
    obtain ⟨x62, e62⟩ := t_isSign o 62 M
    rw [zb_ok (show F_Tokens_isSign o 60 M = some 1 from a60), zb_ok e62, if_neg ne10, zb_ok (show F_Model_isByte (o + 548) 60 N = some 1 from b60), if_neg ne10, J85, if_neg ne10]
    unfold F_Model_comparisonRead_J77
    rw [if_neg (by decide)]
    exact go 20 (-1) (Or.inl ⟨rfl, rfl⟩) y60.1
  · rw [zb_ok (show F_Tokens_isSign o 60 M = some 0 from a60), zb_ok (show F_Model_isByte (o + 548) 60 N = some 0 from b60), if_pos rfl]
    rcases s62 with ⟨y62, a62, b62, -⟩ | ⟨n62, a62, b62, -⟩
    · rw [zb_ok (show F_Tokens_isSign o 62 M = some 1 from a62), if_pos rfl, if_neg ne10, zb_ok (show F_Model_isByte (o + 548) 62 N = some 1 from b62), if_neg ne10, J85, if_pos rfl, if_neg ne10]
      unfold F_Model_comparisonRead_J77
      rw [if_neg (by decide)]
      exact go 22 1 (Or.inr (Or.inr ⟨rfl, rfl⟩)) y62.1
    · rw [zb_ok (show F_Tokens_isSign o 62 M = some 0 from a62), if_pos rfl, if_pos rfl, zb_ok (show F_Model_isByte (o + 548) 62 N = some 0 from b62), if_pos rfl]
      unfold F_Model_comparisonRead_J77
      rw [if_pos rfl]
      rcases s61 with ⟨y61, a61, b61, -⟩ | ⟨n61, a61, b61, -⟩
      · rw [zb_ok (show F_Tokens_isSign o 61 M = some 1 from a61), if_neg ne10, zb_ok (show F_Model_isByte (o + 548) 61 N = some 1 from b61), if_neg ne10, J85, if_pos rfl, if_pos rfl]
        exact go 21 0 (Or.inr (Or.inl ⟨rfl, rfl⟩)) y61.1
      · obtain ⟨M8, N8, e8, f8, hb8, c8, d8⟩ := j_fail (e := 1) (by decide) hg
        obtain ⟨x, M', e, c9⟩ := t_cmp85 hA rT rF x4 0 0 (hd.ks c8)
        rw [zb_ok (show F_Tokens_isSign o 61 M = some 0 from a61), if_pos rfl, zb_ok e8, zb_ok (show F_Model_isByte (o + 548) 61 N = some 0 from b61), if_pos rfl, zb2_ok f8, b_clm99 hb8.n]
        exact ⟨x, M', N8, e, rfl, c8.tr c9, d8.kq, Or.inl (hb8.c c9)⟩
