/-! ===== PURE: extra ===== -/
theorem c_thr' {o : Nat} {M M1 : z_Mem} {s : q_S} {e : Nat} {F : Option (q_Y × z_Mem)} (h : F = some (.error e, M1)) (hc : c_all o M1 s) (hk : q_C o M M1) : c_does o M s (.error e) F := ⟨M1, h, hc, hk⟩
def q_ex (st : Option q_F) : Int32 := match st with
  | none => -1
  | some f => f.1
theorem a_extra {o L : Nat} {S : Nat → Int32} {i : Int32} {M : z_Mem} {s : q_S} {c : z_Mem → Option (Int32 × z_Mem)} (hI : q_In s) (hc : c_all o M s) (hm : m_all (o + 548) M s) (h1 : z_inb (i + (1 : Int32)) L) (h2 : z_inb (i + (2 : Int32)) L) : ∃ M', Fc_874 o L S i M c = c M' ∧ c_all o M' s ∧ m_all (o + 548) M' s := by
  generalize hp : S (i + 1).toNatClampNeg = p
  generalize hq : S (i + 2).toNatClampNeg = q
  have hN24 := hI.I.rides24
  have hT4 := hI.I.taxis4
  have cr := a_ride_c hI.I hc
  have ct := a_taxi_c hI.I hc
  have mr := fun (N : z_Mem) (hN : m_all (o + 548) N s) p => a_ride_m (m := o + 548) (N := z_wI N (o + 548) 0 0) (R := q_N s.2.1) (by omega) (m_rides hI.I (hN.thr 0)) p
  have mt := fun (N : z_Mem) (hN : m_all (o + 548) N s) p => a_taxi_m (m := o + 548) (N := z_wI N (o + 548) 0 0) (T := q_T s.1) (by omega) (m_taxis hI.I (hN.thr 0)) p
  rcases q_split (q_N s.2.1) (by omega) p with ⟨r, hr, rfl⟩ | hb
  · have gr := q_good (n := q_N s.2.1) (by omega) hr
    rcases q_split (q_T s.1) (by omega) q with ⟨t, ht, rfl⟩ | hb
    · have gt := q_good (n := q_T s.1) (by omega) ht
      have x0 := (hc.2.1.2.2.2.2.2.2.2.2 r hr).1
      have of0 : ∀ N, m_all (o + 548) N s → F_Model_of (o + 548) (Int32.ofNat r) 0 N = some (s.2.1 (173 + 17 * r)) := fun N hN => m_ofL (kl := 0) hN 0 (by omega) (by omega) rfl
      by_cases h0 : s.2.1 (173 + 17 * r) = 0
      · obtain ⟨n, rt, pt, -, -, hL⟩ := hI.L ht
        obtain ⟨M1, v, e1, p1, b1⟩ := c_findBest (o := o) (r := r) hI ht hL hr hc
        generalize hst : s_best s.1 s.2.1 t r rt = st at b1
        refine k_extra (y := .ok (q_ex st)) q_c1n hm h1 h2 (l_of (c_ok (M' := M1) ?_ (p1.all hc) p1.C) (fun e M1 he => by cases he)) (fun N hN => ?_)
        · rw [hp, hq]
          unfold F_Sys_extra
          simp only [zxm, zb, (cr _).2 r hr rfl, (ct _).2 t ht rfl]
          rw [x0, if_pos h0, zb2_ok e1]
          cases st with
          | none => exact if_pos (show v = 0 from b1)
          | some f =>
            rw [if_neg (show ¬ v = 0 by rw [b1.1]; decide), b1.2.1]
            rfl
        · rw [hp, hq]
          have hN0 := hN.thr 0
          obtain ⟨N1, b, f1, q1, bb, hb⟩ := m_findsBest (m := o + 548) hI ht hL hr hN0
          rw [hst] at bb hb
          refine m_ok (N' := N1) (b := q_ex st) ?_ rfl (q1.all hN0) ((q1.2.1 0 (by omega)).trans (w_same _ _ _ _)) q1.M
          unfold F_Model_extra
          simp only [zl]
          rw [zb2_ok ((mr N hN _).2 gr), if_pos rfl, zb2_ok ((mt N hN _).2 gt), if_pos rfl, zb_ok (of0 _ hN0), if_pos h0, zb2_ok f1]
          cases st with
          | none =>
            rcases hb with ⟨-, hb⟩ | ⟨hb, -⟩
            · exact absurd rfl hb
            · exact if_pos hb
          | some f =>
            rcases hb with ⟨hb, -⟩ | ⟨-, hb⟩
            · rw [if_neg (show ¬ b = 0 by rw [hb]; decide), bb.2.1]
              rfl
            · exact absurd (fun q => by cases q) hb
      · refine k_extra (y := .ok (-1)) q_c1n hm h1 h2 (l_of (c_ok (M' := M) ?_ hc q_C.rfl') (fun e M1 he => by cases he)) (fun N hN => m_val hN (b := -1) rfl ?_)
        · rw [hp, hq]
          unfold F_Sys_extra
          simp only [zxm, zb, (cr _).2 r hr rfl, (ct _).2 t ht rfl]
          rw [x0, if_neg h0]
        · rw [hp, hq]
          unfold F_Model_extra
          simp only [zl]
          rw [zb2_ok ((mr N hN _).2 gr), if_pos rfl, zb2_ok ((mt N hN _).2 gt), if_pos rfl, zb_ok (of0 _ (hN.thr 0)), if_neg h0]
    · refine k_extra (y := .error 1) q_c1n hm h1 h2 (l_of (c_thr hc ?_) (fun e M1 he => by cases he; rfl)) (fun N hN => m_err hN (b := 0) (v := 1) rfl ?_)
      · rw [hp, hq]
        unfold F_Sys_extra
        simp only [zxm, zb, (cr _).2 r hr rfl, (ct _).1 hb]
      · rw [hp, hq]
        unfold F_Model_extra
        simp only [zl]
        rw [zb2_ok ((mr N hN _).2 gr), if_pos rfl, zb2_ok ((mt N hN _).1 hb)]
        rfl
  · refine k_extra (y := .error 1) q_c1n hm h1 h2 (l_of (c_thr hc ?_) (fun e M1 he => by cases he; rfl)) (fun N hN => m_err hN (b := 0) (v := 1) rfl ?_)
    · rw [hp, hq]
      unfold F_Sys_extra
      simp only [zxm, zb, (cr _).1 hb]
    · rw [hp, hq]
      unfold F_Model_extra
      simp only [zl]
      rw [zb2_ok ((mr N hN _).1 hb)]
      rfl
/-! ===== PURE: a stop put into a route; a list laid as the route ===== -/
theorem c_ins1_L {a p n s : Nat} {l : Nat → Nat} (hn : n < 12) (hp : p ≤ n) : ∀ (k i f : Nat) (N : z_Mem), p + k = i → i ≤ n → k < f → N.1 a 7 = Int32.ofNat n → (∀ j, j ≤ i → j < n → N.1 (a + 1) j = Int32.ofNat (l j)) → (∀ j, i < j → j ≤ n → N.1 (a + 1) j = Int32.ofNat (l (j - 1))) →
    ∃ N', F_Taxi_insertStop_L34 a f (Int32.ofNat p) (Int32.ofNat s) (Int32.ofNat i) N = some N' ∧ N'.1 a 7 = Int32.ofNat (n + 1) ∧ (∀ j, j ≤ n → N'.1 (a + 1) j = Int32.ofNat (if j < p then l j else if j = p then s else l (j - 1))) ∧ (∀ j, j ≠ 7 → N'.1 a j = N.1 a j) ∧ (∀ x, x ≠ a → x ≠ a + 1 → N'.1 x = N.1 x) ∧ N'.2 = N.2 := by
  intro k
  induction k with
  | zero =>
    intro i f N hi hin hf h7 ha hb
    obtain ⟨f, rfl⟩ : ∃ g, f = g + 1 := ⟨f - 1, by omega⟩
    have hi' : i = p := by omega
    subst hi'
    unfold F_Taxi_insertStop_L34 F_Taxi_insertStop_B34
    rw [if_pos ((i_le (by omega) (by omega)).mpr (Nat.le_refl _)), if_pos ((i_inb (by omega)).mpr (by omega)), i_cl (by omega)]
    simp only [zl]
    refine ⟨_, rfl, ?_, fun j hj => ?_, fun j hj => (w_slot _ hj).trans (w_addr _ (by omega)), fun x h1 h2 => funext fun k => (w_addr k h1).trans (w_addr k h2), rfl⟩
    · rw [w_same, w_addr _ (by omega), h7, i_succ]
    · rw [w_addr _ (by omega)]
      by_cases q1 : j < i
      · rw [if_pos q1, w_slot _ (by omega)]
        exact ha j (by omega) (by omega)
      · by_cases q2 : j = i
        · rw [if_neg q1, if_pos q2, q2, w_same]
        · rw [if_neg q1, if_neg q2, w_slot _ q2]
          exact hb j (by omega) hj
  | succ k ih =>
    intro i f N hi hin hf h7 ha hb
    obtain ⟨f, rfl⟩ : ∃ g, f = g + 1 := ⟨f - 1, by omega⟩
    unfold F_Taxi_insertStop_L34 F_Taxi_insertStop_B34
    have e1 : Int32.ofNat i - 1 = Int32.ofNat (i - 1) := i_sub (b := 1) (by omega)
    have e2 : Int32.ofNat i + (-1) = Int32.ofNat (i - 1) := by rw [← Int32.sub_eq_add_neg, e1]
    have ci : (Int32.ofNat i).toNatClampNeg = i := i_cl (by omega)
    have ci1 : (Int32.ofNat (i - 1)).toNatClampNeg = i - 1 := i_cl (by omega)
    rw [if_neg (i_nle (by omega) (by omega) (by omega)), e1, e2, if_pos ((i_inb (by omega)).mpr (by omega)), if_pos ((i_inb (by omega)).mpr (by omega)), ci, ci1, ha (i - 1) (by omega) (by omega)]
    simp only [zl]
    obtain ⟨N', e, g1, g2, g3, g4, g5⟩ := ih (i - 1) f (z_wI N (a + 1) i (Int32.ofNat (l (i - 1)))) (by omega) (by omega) (by omega) ((w_addr _ (by omega)).trans h7) (fun j h1 h2 => (w_slot _ (by omega)).trans (ha j (by omega) h2)) (fun j h1 h2 => by
      by_cases hji : j = i
      · rw [hji, w_same]
      · rw [w_slot _ hji]
        exact hb j (by omega) h2)
    exact ⟨N', e, g1, g2, fun j hj => (g3 j hj).trans (w_addr _ (by omega)), fun x h1 h2 => (g4 x h1 h2).trans (funext fun k => w_addr k h2), g5⟩
theorem c_ins1 {a p n s : Nat} {l : Nat → Nat} {N : z_Mem} (hn : n < 12) (hp : p ≤ n) (h7 : N.1 a 7 = Int32.ofNat n) (hl : ∀ j, j < n → N.1 (a + 1) j = Int32.ofNat (l j)) :
    ∃ N', F_Taxi_insertStop a (Int32.ofNat p) (Int32.ofNat s) N = some N' ∧ N'.1 a 7 = Int32.ofNat (n + 1) ∧ (∀ j, j < n + 1 → N'.1 (a + 1) j = Int32.ofNat (if j < p then l j else if j = p then s else l (j - 1))) ∧ (∀ j, j ≠ 7 → N'.1 a j = N.1 a j) ∧ (∀ x, x ≠ a → x ≠ a + 1 → N'.1 x = N.1 x) ∧ N'.2 = N.2 := by
  obtain ⟨N', e, g1, g2, g3⟩ := c_ins1_L (a := a) (s := s) (l := l) hn hp (n - p) n 10000 N (by omega) (by omega) (by omega) h7 (fun j _ hj => hl j hj) (fun j h1 h2 => by omega)
  refine ⟨N', ?_, g1, fun j hj => g2 j (by omega), g3⟩
  unfold F_Taxi_insertStop
  rw [h7, if_neg (i_nn (by omega)), if_neg (show ¬ Int32.ofNat n < Int32.ofNat p from fun q => by
    have := (i_lt (by omega) (by omega)).mp q
    omega), if_neg (i_nn (by omega)), if_pos (show Int32.ofNat n < (12 : Int32) from (i_lt (b := 12) (by omega) (by decide)).mpr hn)]
  exact e
/-- a ride is put into the class's route -/
theorem c_ins2 {a r p d : Nat} {L : List Nat} {N : z_Mem} (hn : L.length + 2 ≤ 12) (h1 : p < d) (h2 : d ≤ L.length + 1) (h7 : N.1 a 7 = Int32.ofNat L.length) (hl : ∀ j, j < L.length → N.1 (a + 1) j = Int32.ofNat (g_l L j)) :
    ∃ N1 N2, F_Taxi_insertStop a (Int32.ofNat p) (Int32.ofNat (2 * r + 1)) N = some N1 ∧ F_Taxi_insertStop a (Int32.ofNat d) (Int32.ofNat (2 * r)) N1 = some N2 ∧ (∀ j, j ≠ 7 → N1.1 a j = N.1 a j) ∧ (∀ x, x ≠ a → x ≠ a + 1 → N1.1 x = N.1 x) ∧ N2.1 a 7 = Int32.ofNat (g_ins L r p d).length ∧ (∀ j, j < (g_ins L r p d).length → N2.1 (a + 1) j = Int32.ofNat (g_l (g_ins L r p d) j)) ∧ (∀ j, j ≠ 7 → N2.1 a j = N.1 a j) ∧ (∀ x, x ≠ a → x ≠ a + 1 → N2.1 x = N.1 x) ∧ N2.2 = N.2 := by
  obtain ⟨N1, e1, a1, a2, a3, a4, a5⟩ := c_ins1 (a := a) (p := p) (s := 2 * r + 1) (by omega) (by omega) h7 hl
  obtain ⟨N2, e2, b1, b2, b3, b4, b5⟩ := c_ins1 (a := a) (p := d) (s := 2 * r) (n := L.length + 1) (l := fun j => if j < p then g_l L j else if j = p then 2 * r + 1 else g_l L (j - 1)) (by omega) (by omega) a1 a2
  have hlen := g_ins_len (L := L) (r := r) h1 h2
  refine ⟨N1, N2, e1, e2, a3, a4, by rw [b1, hlen], fun j hj => ?_, fun j hj => (b3 j hj).trans (a3 j hj), fun x q1 q2 => (b4 x q1 q2).trans (a4 x q1 q2), b5.trans a5⟩
  rw [hlen] at hj
  rw [b2 j (by omega), g_ins_at h1 h2 hj]
  congr 1
  by_cases q1 : j < p
  · rw [if_pos (show j < d by omega), if_pos q1, if_pos q1]
  · by_cases q2 : j = p
    · rw [if_pos (show j < d by omega), if_neg q1, if_pos q2, if_neg q1, if_pos q2]
    · by_cases q3 : j < d
      · rw [if_pos q3, if_neg q1, if_neg q2, if_neg q1, if_neg q2, if_pos q3]
      · by_cases q4 : j = d
        · rw [if_neg q3, if_pos q4, if_neg q1, if_neg q2, if_neg q3, if_pos q4]
        · rw [if_neg q3, if_neg q4, if_neg (show ¬ j - 1 < p by omega), if_neg (show ¬ j - 1 = p by omega), if_neg q1, if_neg q2, if_neg q3, if_neg q4]
          rfl
theorem m_puts_L {m t n : Nat} {s : q_S} {L : List Nat} (ht : t < 4) (hn : L.length = n) (hn12 : n ≤ 12) : ∀ (k i f : Nat) (N : z_Mem), i + k = n → k < f → m_list N m (g_l L) n → m_all m N (q_row s (q_setB s.2.1 (25 + 40 * t) (L.take i))) →
    ∃ N', F_Model_puts_L2 m f (Int32.ofNat t) (Int32.ofNat i) N = some N' ∧ m_all m N' (q_row s (q_setL s.2.1 (24 + 40 * t) (25 + 40 * t) L)) ∧ (∀ x, x ≠ m + 1 → N'.1 x = N.1 x) ∧ N'.2 = N.2 := by
  intro k
  induction k with
  | zero =>
    intro i f N hi hf hl hm
    obtain ⟨f, rfl⟩ : ∃ g, f = g + 1 := ⟨f - 1, by omega⟩
    have hi' : i = n := by omega
    subst hi'
    rw [show L.take i = L by rw [← hn, List.take_length]] at hm
    unfold F_Model_puts_L2 F_Model_puts_B2
    rw [hl.1, if_pos ((i_le (by omega) (by omega)).mpr (Nat.le_refl _)), zb_ok (m_lays2 (kl := 11) (k := 11) ht (by omega) rfl), show 13 + 40 * t + 11 = 24 + 40 * t by omega]
    have hm2 := hm.w (k := 24 + 40 * t) (v := Int32.ofNat i)
    refine ⟨_, rfl, ?_, fun x hx => funext fun k => w_addr k hx, rfl⟩
    unfold q_setL
    rw [hn]
    exact hm2
  | succ k ih =>
    intro i f N hi hf hl hm
    obtain ⟨f, rfl⟩ : ∃ g, f = g + 1 := ⟨f - 1, by omega⟩
    have hin : i < n := by omega
    have ci : (Int32.ofNat i).toNatClampNeg = i := i_cl (by omega)
    unfold F_Model_puts_L2 F_Model_puts_B2
    rw [hl.1, if_neg (i_nle (by omega) (by omega) hin), if_pos ((i_inb (by omega)).mpr (by omega)), ci, hl.2 i hin, zb_ok (m_lays2 (kl := 12 + Int32.ofNat i) (k := 12 + i) ht (by omega) (i_add 12 i)), show 13 + 40 * t + (12 + i) = 25 + 40 * t + i by omega, i_succ]
    simp only [zl]
    have hm2 := hm.w (k := 25 + 40 * t + i) (v := Int32.ofNat (g_l L i))
    have e2 : q_up (q_row s (q_setB s.2.1 (25 + 40 * t) (L.take i))) (25 + 40 * t + i) (Int32.ofNat (g_l L i)) = q_row s (q_setB s.2.1 (25 + 40 * t) (L.take (i + 1))) := by
      have hlt : (L.take i).length = i := by rw [List.length_take]; omega
      have := q_setB_end s.2.1 (25 + 40 * t) (L.take i) (g_l L i)
      rw [hlt] at this
      rw [g_take (by omega), ← this]
      rfl
    rw [e2] at hm2
    obtain ⟨N', e, g1, g2, g3⟩ := ih (i + 1) f _ (by omega) (by omega) ⟨(w_addr _ (by omega)).trans hl.1, fun j hj => (w_addr _ (by omega)).trans (hl.2 j hj)⟩ hm2
    exact ⟨N', e, g1, fun x hx => (g2 x hx).trans (funext fun k => w_addr k hx), g3⟩
theorem m_puts {m t : Nat} {s : q_S} {L : List Nat} {N : z_Mem} (ht : t < 4) (hn12 : L.length ≤ 12) (hl : m_list N m (g_l L) L.length) (hm : m_all m N s) : ∃ N', F_Model_puts m (Int32.ofNat t) N = some N' ∧ m_all m N' (q_row s (q_setL s.2.1 (24 + 40 * t) (25 + 40 * t) L)) ∧ (∀ x, x ≠ m + 1 → N'.1 x = N.1 x) ∧ N'.2 = N.2 := by
  refine m_puts_L (s := s) ht rfl hn12 L.length 0 10000 N (by omega) (by omega) hl ?_
  show m_all m N (q_row s (q_setB s.2.1 (25 + 40 * t) []))
  rw [q_setB_nil]
  exact hm
