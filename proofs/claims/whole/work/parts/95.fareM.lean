/-! ===== PURE: fare: the reference ===== -/
theorem m_amt {m n : Nat} {N : z_Mem} {s : q_S} {w : Int32} (hm : m_all m N s) (hn : n < 2 ^ 31) : F_Model_amountFor m w (Int32.ofNat n) N = some (f_amt s.2.1 w n) := by
  have hz : z_inb (2 : Int32) 581 := by decide
  have r2 : N.1 (m + 1) (2 : Int32).toNatClampNeg = s.2.1 2 := m_at hm (k := 2) (by omega)
  have ed : F_Model_discountFor m (Int32.ofNat n) N = some (f_disc s.2.1 n) := by
    unfold F_Model_discountFor F_Model_lesser f_disc
    by_cases h2 : n < 2
    · rw [if_neg (show ¬ (2 : Int32) ≤ Int32.ofNat n from i_nle (a := 2) (by decide) hn h2), if_pos h2]
    · rw [if_pos (show (2 : Int32) ≤ Int32.ofNat n from (i_le (a := 2) (by decide) hn).mpr (by omega)), if_neg h2]
      have e4 : (if (4 : Int32) ≤ Int32.ofNat n then some (4 : Int32) else some (Int32.ofNat n)) = some (Int32.ofNat (if n < 4 then n else 4)) := by
        by_cases h4 : n < 4
        · rw [if_neg (show ¬ (4 : Int32) ≤ Int32.ofNat n from i_nle (a := 4) (by decide) hn h4), if_pos h4]
        · rw [if_pos (show (4 : Int32) ≤ Int32.ofNat n from (i_le (a := 4) (by decide) hn).mpr (by omega)), if_neg h4]
          rfl
      have hm4 : (if n < 4 then n else 4) ≤ 4 := by split <;> omega
      rw [zb_ok e4, i_min4, zb_ok (m_ruledL hm (5 + (if n < 4 then n else 4)) (by omega) rfl), show 3 + (5 + (if n < 4 then n else 4)) = 8 + (if n < 4 then n else 4) by omega]
  unfold F_Model_amountFor
  rw [if_pos hz, r2]
  simp only [zl]
  rw [zb_ok ed]
  rfl
theorem m_part {amt : Int32} {n j : Nat} {N : z_Mem} (h1 : 1 ≤ n) (hn : n < 2 ^ 31) : F_Model_partOf amt (Int32.ofNat n) (Int32.ofNat j) N = some (f_part amt n j) := by
  have h0 : ¬ Int32.ofNat n = 0 := i_ne0 hn (by omega)
  unfold F_Model_partOf F_Model_partOf_J15 f_part
  rw [if_pos h0, if_pos h0]
  by_cases h : amt - amt / Int32.ofNat n * Int32.ofNat n ≤ Int32.ofNat j
  · rw [if_pos h, if_pos h]
  · rw [if_neg h, if_neg h]
/-- only the parties of the fancied drive are written -/
def m_fr (m : Nat) (N N' : z_Mem) : Prop := (∀ x, x ≠ m + 20 → N'.1 x = N.1 x) ∧ N'.2 = N.2
theorem m_fr.rfl' {m : Nat} {N : z_Mem} : m_fr m N N := ⟨fun _ _ => rfl, rfl⟩
theorem m_fr.tr {m : Nat} {M M' M'' : z_Mem} (h : m_fr m M M') (h' : m_fr m M' M'') : m_fr m M M'' := ⟨fun x hx => (h'.1 x hx).trans (h.1 x hx), h'.2.trans h.2⟩
theorem m_fr.w {m k : Nat} {M M' : z_Mem} {v : Int32} (h : m_fr m M M') : m_fr m M (z_wI M' (m + 20) k v) := ⟨fun x hx => (funext fun j => w_addr j hx).trans (h.1 x hx), h.2⟩
theorem m_fr.all {m : Nat} {M M' : z_Mem} {s : q_S} (h : m_fr m M M') (hm : m_all m M s) : m_all m M' s := hm.scr (fun k _ => by rw [h.1 m (by omega)]) (fun j h1 h2 => h.1 _ (by omega))
theorem m_fr.M {o : Nat} {M M' : z_Mem} (h : m_fr (o + 548) M M') : q_M o M M' := fun a ha => ⟨h.1 a (by unfold q_inC at ha; omega), by rw [h.2]⟩
/-- those that stay, of a part of the parties -/
def f_stay (P : List Nat) (s : Nat) : List Nat := if s % 2 = 1 then P else P.filter (g_no (s / 2))
theorem f_stay_take {P : List Nat} {s i : Nat} (h : i < P.length) : f_stay (P.take (i + 1)) s = if s % 2 = 1 ∨ g_l P i ≠ s / 2 then f_stay (P.take i) s ++ [g_l P i] else f_stay (P.take i) s := by
  unfold f_stay
  by_cases ho : s % 2 = 1
  · rw [if_pos ho, if_pos (Or.inl ho), if_pos ho, g_take h]
  · rw [if_neg ho, g_take_filter _ h, if_neg ho]
    by_cases hq : g_l P i = s / 2
    · rw [if_neg (fun z => g_no_t.mp z hq), if_neg (by rintro (z | z) <;> contradiction)]
    · rw [if_pos (g_no_t.mpr hq), if_pos (Or.inr hq)]
theorem f_stay_le {P : List Nat} {s i : Nat} : (f_stay (P.take i) s).length ≤ i := by
  unfold f_stay
  split
  · rw [List.length_take]
    omega
  · exact g_filter_le _
theorem i_shuf (a b d e : Int32) : a + b + d + e = (a + d) + (b + e) := by
  rw [Int32.add_assoc a b d, Int32.add_comm b d, ← Int32.add_assoc, Int32.add_assoc]
theorem m_pay_in {m t r k n : Nat} {s : q_S} {l : Nat → Nat} {P : List Nat} {M : z_Mem} {amt : Int32} {rec47 : Int32 → Int32 → Int32 → Int32 → z_Mem → Option (Int32 × z_Mem)} (hI : q_In s) (hP : P.length ≤ 7) (hnd : P.Nodup) (hm24 : ∀ u ∈ P, u < 24) (hr : r < q_N s.2.1) (hab : s.2.1 (184 + 17 * r) = 0) (hk : k < n) (hn : n ≤ 14) (hs : l k < 2 * q_N s.2.1) (hPm : ∀ j, j < P.length → M.1 (m + 20) j = Int32.ofNat (g_l P j)) :
    ∀ (j i f : Nat) (N : z_Mem) (sum : Int32), i + j = P.length → j < f → m_all m N s → m_list N m l n → g_arr (N.1 (m + 20)) (M.1 (m + 20)) (f_stay (P.take i) (l k)) →
    ∃ N', F_Model_willPay_L88 m rec47 f (Int32.ofNat r) sum (Int32.ofNat P.length) (Int32.ofNat k) amt (Int32.ofNat (l k / 2)) (Int32.ofNat (f_stay (P.take i) (l k)).length) (Int32.ofNat i) N = rec47 (Int32.ofNat r) (sum + f_sh amt P.length r (P.drop i) i + (if l k = 2 * r + 1 then s.1 67 else 0)) (Int32.ofNat (f_next s.2.1 P (l k)).length) (Int32.ofNat (k + 1)) N' ∧ m_fr m N N' ∧ ∀ j, j < (f_next s.2.1 P (l k)).length → N'.1 (m + 20) j = Int32.ofNat (g_l (f_next s.2.1 P (l k)) j) := by
  have hN24 := hI.I.rides24
  have hrr : l k / 2 < q_N s.2.1 := by omega
  have hz : z_inb (Int32.ofNat k) 14 := (i_inb (by omega)).mpr (by omega)
  have ck : (Int32.ofNat k).toNatClampNeg = k := i_cl (by omega)
  have hab' := (hI.2.1.2.2.1 _ hrr).1.2.2
  intro j
  induction j with
  | zero =>
    intro i f N sum hi hf hm hl hg
    obtain ⟨f, rfl⟩ : ∃ g, f = g + 1 := ⟨f - 1, by omega⟩
    have hi' : i = P.length := by omega
    subst hi'
    rw [List.take_length] at hg ⊢
    rw [List.drop_eq_nil_of_le (Nat.le_refl _)]
    have e0 : f_sh amt P.length r [] P.length = 0 := rfl
    have of11 : F_Model_of m (Int32.ofNat (l k / 2)) 11 N = some (s.2.1 (184 + 17 * (l k / 2))) := by
      rw [m_ofL (kl := 11) hm 11 (by omega) (by omega) rfl]
      exact congrArg some (congrArg s.2.1 (by omega))
    unfold F_Model_willPay_L88 F_Model_willPay_B88 F_Model_willPay_J248
    rw [if_pos ((i_le (by omega) (by omega)).mpr (Nat.le_refl _)), if_pos hz, e0, Int32.add_zero]
    simp only [ck]
    rw [hl.2 k hk, i_odd _ (by omega)]
    unfold f_next
    by_cases ho : l k % 2 = 1
    · have es : f_stay P (l k) = P := if_pos ho
      rw [es] at hg ⊢
      rw [if_neg (show ¬ Int32.ofNat (l k % 2) = 0 by rw [ho]; decide), zb_ok of11, if_pos ho]
      rcases hab' with ha | ha
      · have ne1 : ¬ s.2.1 (184 + 17 * (l k / 2)) = 1 := by rw [ha]; decide
        have cp : (Int32.ofNat P.length).toNatClampNeg = P.length := i_cl (by omega)
        have hz40 : z_inb (Int32.ofNat P.length) 40 := (i_inb (by omega)).mpr (by omega)
        have hlen : (P ++ [l k / 2]).length = P.length + 1 := by rw [List.length_append]; rfl
        rw [if_neg ne1, if_neg ne1, if_pos hz40, cp]
        simp only [zl]
        have e18 : (z_wI N (m + 20) P.length (Int32.ofNat (l k / 2))).1 m 18 = s.1 67 := (w_addr _ (by omega)).trans hm.1.2.2.2.1
        have fin : ∀ j, j < (P ++ [l k / 2]).length → (z_wI N (m + 20) P.length (Int32.ofNat (l k / 2))).1 (m + 20) j = Int32.ofNat (g_l (P ++ [l k / 2]) j) := fun j hj => by
          by_cases hjp : j = P.length
          · rw [hjp, w_same, g_l_app2]
          · rw [w_slot _ hjp, g_l_app1 (by omega)]
            exact hg.1 j (by omega)
        rw [e18, hlen, i_succ, i_succ]
        by_cases hq : l k = 2 * r + 1
        · rw [if_pos (show Int32.ofNat (l k / 2) = Int32.ofNat r by rw [hq]; congr 1; omega), if_pos hq]
          exact ⟨_, rfl, m_fr.rfl'.w, by rw [← hlen]; exact fin⟩
        · rw [if_neg (show ¬ Int32.ofNat (l k / 2) = Int32.ofNat r from fun q => by
            have := (i_eq (by omega) (by omega)).mp q
            omega), if_neg hq, Int32.add_zero]
          exact ⟨_, rfl, m_fr.rfl'.w, by rw [← hlen]; exact fin⟩
      · have hq : ¬ l k = 2 * r + 1 := fun q => by
          rw [q, show (2 * r + 1) / 2 = r by omega, hab] at ha
          exact absurd ha (by decide)
        rw [if_pos ha, if_pos ha, if_neg hq, Int32.add_zero, i_succ]
        exact ⟨N, rfl, m_fr.rfl', fun j hj => hg.1 j hj⟩
    · have es : f_stay P (l k) = P.filter (g_no (l k / 2)) := if_neg ho
      rw [es] at hg ⊢
      rw [if_pos (show Int32.ofNat (l k % 2) = 0 by rw [show l k % 2 = 0 by omega]; rfl), if_neg ho, if_neg (show ¬ l k = 2 * r + 1 by omega), Int32.add_zero, i_succ]
      exact ⟨N, rfl, m_fr.rfl', fun j hj => hg.1 j hj⟩
  | succ j ih =>
    intro i f N sum hi hf hm hl hg
    obtain ⟨f, rfl⟩ : ∃ g, f = g + 1 := ⟨f - 1, by omega⟩
    have hip : i < P.length := by omega
    have hle := f_stay_le (P := P) (s := l k) (i := i)
    have hu := hm24 _ (g_l_mem hip)
    have hv : N.1 (m + 20) i = Int32.ofNat (g_l P i) := (hg.2 i hle).trans (hPm i hip)
    have hz40 : z_inb (Int32.ofNat i) 40 := (i_inb (by omega)).mpr (by omega)
    have hz41 : z_inb (Int32.ofNat (f_stay (P.take i) (l k)).length) 40 := (i_inb (by omega)).mpr (by omega)
    have ci : (Int32.ofNat i).toNatClampNeg = i := i_cl (by omega)
    have cs : (Int32.ofNat (f_stay (P.take i) (l k)).length).toNatClampNeg = (f_stay (P.take i) (l k)).length := i_cl (by omega)
    have est := f_stay_take (s := l k) hip
    -- what follows the sum
    have go : ∀ sm, ∃ N', F_Model_willPay_J118 m rec47 (F_Model_willPay_L88 m rec47 f) (Int32.ofNat r) sm (Int32.ofNat P.length) (Int32.ofNat k) amt (Int32.ofNat (l k / 2)) (Int32.ofNat (f_stay (P.take i) (l k)).length) (Int32.ofNat i) N = rec47 (Int32.ofNat r) (sm + f_sh amt P.length r (P.drop (i + 1)) (i + 1) + (if l k = 2 * r + 1 then s.1 67 else 0)) (Int32.ofNat (f_next s.2.1 P (l k)).length) (Int32.ofNat (k + 1)) N' ∧ m_fr m N N' ∧ ∀ j, j < (f_next s.2.1 P (l k)).length → N'.1 (m + 20) j = Int32.ofNat (g_l (f_next s.2.1 P (l k)) j) := fun sm => by
      by_cases hst : l k % 2 = 1 ∨ g_l P i ≠ l k / 2
      · rw [if_pos hst] at est
        have hlen : (f_stay (P.take (i + 1)) (l k)).length = (f_stay (P.take i) (l k)).length + 1 := by rw [est, List.length_append]; rfl
        have e1 : F_Model_willPay_J118 m rec47 (F_Model_willPay_L88 m rec47 f) (Int32.ofNat r) sm (Int32.ofNat P.length) (Int32.ofNat k) amt (Int32.ofNat (l k / 2)) (Int32.ofNat (f_stay (P.take i) (l k)).length) (Int32.ofNat i) N = F_Model_willPay_L88 m rec47 f (Int32.ofNat r) sm (Int32.ofNat P.length) (Int32.ofNat k) amt (Int32.ofNat (l k / 2)) (Int32.ofNat (f_stay (P.take (i + 1)) (l k)).length) (Int32.ofNat (i + 1)) (z_wI N (m + 20) (f_stay (P.take i) (l k)).length (Int32.ofNat (g_l P i))) := by
          have e2 : F_Model_willPay_J118 m rec47 (F_Model_willPay_L88 m rec47 f) (Int32.ofNat r) sm (Int32.ofNat P.length) (Int32.ofNat k) amt (Int32.ofNat (l k / 2)) (Int32.ofNat (f_stay (P.take i) (l k)).length) (Int32.ofNat i) N = F_Model_willPay_J143 m rec47 (F_Model_willPay_L88 m rec47 f) (Int32.ofNat r) sm (Int32.ofNat P.length) (Int32.ofNat k) amt (Int32.ofNat (l k / 2)) (Int32.ofNat (f_stay (P.take i) (l k)).length) (Int32.ofNat i) N := by
            unfold F_Model_willPay_J118
            simp only [ck, ci]
            rw [if_pos hz, hl.2 k hk, i_odd _ (by omega)]
            by_cases ho : l k % 2 = 1
            · rw [if_pos (by rw [ho]; rfl)]
            · rw [if_neg (i_ne1 (by omega) ho), if_pos hz40, hv, if_neg (fun q => (hst.resolve_left ho) ((i_eq (by omega) (by omega)).mp q))]
          rw [e2]
          unfold F_Model_willPay_J143 F_Model_willPay_J148 F_Model_willPay_J169 F_Model_willPay_J181
          rw [if_neg (by decide), if_pos hz40, if_pos hz41]
          simp only [zl, ci, cs]
          rw [if_neg (by decide), hv, hlen, i_succ, i_succ]
        rw [e1]
        have p1 : m_fr m N (z_wI N (m + 20) (f_stay (P.take i) (l k)).length (Int32.ofNat (g_l P i))) := m_fr.rfl'.w
        obtain ⟨N', e, p2, h⟩ := ih (i + 1) f _ sm (by omega) (by omega) (p1.all hm) ⟨(w_addr _ (by omega)).trans hl.1, fun q hq => (w_addr _ (by omega)).trans (hl.2 q hq)⟩ ⟨fun q hq => by
          rw [est]
          by_cases hql : q = (f_stay (P.take i) (l k)).length
          · rw [hql, w_same, g_l_app2]
          · rw [w_slot _ hql, g_l_app1 (by omega)]
            exact hg.1 q (by omega), fun q hq => by
          rw [w_slot _ (by omega)]
          exact hg.2 q (by omega)⟩
        exact ⟨N', e, p1.tr p2, h⟩
      · rw [if_neg hst] at est
        have ho : ¬ l k % 2 = 1 := fun q => hst (Or.inl q)
        have hq : g_l P i = l k / 2 := Decidable.byContradiction fun q => hst (Or.inr q)
        have e1 : F_Model_willPay_J118 m rec47 (F_Model_willPay_L88 m rec47 f) (Int32.ofNat r) sm (Int32.ofNat P.length) (Int32.ofNat k) amt (Int32.ofNat (l k / 2)) (Int32.ofNat (f_stay (P.take i) (l k)).length) (Int32.ofNat i) N = F_Model_willPay_L88 m rec47 f (Int32.ofNat r) sm (Int32.ofNat P.length) (Int32.ofNat k) amt (Int32.ofNat (l k / 2)) (Int32.ofNat (f_stay (P.take (i + 1)) (l k)).length) (Int32.ofNat (i + 1)) N := by
          unfold F_Model_willPay_J118 F_Model_willPay_J148 F_Model_willPay_J169 F_Model_willPay_J181
          simp only [ck, ci]
          rw [if_pos hz, hl.2 k hk, i_odd _ (by omega), if_neg (i_ne1 (by omega) ho), if_pos hz40, hv, if_pos (by rw [hq]), est]
          simp only [zl, Int32.add_zero, i_succ, if_true]
        rw [e1]
        rw [← est] at hg
        exact ih (i + 1) f N sm (by omega) (by omega) hm hl hg
    have hdr : f_sh amt P.length r (P.drop i) i = if g_l P i = r then f_part amt P.length i else f_sh amt P.length r (P.drop (i + 1)) (i + 1) := by
      rw [f_drop hip]
      rfl
    unfold F_Model_willPay_L88 F_Model_willPay_B88
    rw [if_neg (i_nle (by omega) (by omega) hip), if_pos hz40]
    simp only [ci]
    rw [hv, hdr]
    by_cases hq : g_l P i = r
    · have hno : r ∉ P.drop (i + 1) := fun z => by
        have hnd2 : (P.drop i).Nodup := hnd.sublist (List.drop_sublist _ _)
        rw [f_drop hip, List.nodup_cons] at hnd2
        exact hnd2.1 (by rw [hq]; exact z)
      obtain ⟨N', e, h⟩ := go (sum + f_part amt P.length i)
      rw [f_sh_no _ _ hno, Int32.add_zero] at e
      rw [if_pos (by rw [hq]), if_pos hq, zb_ok (m_part (by omega) (by omega))]
      exact ⟨N', e, h⟩
    · rw [if_neg (fun z => hq ((i_eq (by omega) (by omega)).mp z)), if_neg hq]
      exact go sum
theorem m_pay_L {m t r : Nat} {s : q_S} {n : Nat} {rt pt : List Nat} (hI : q_In s) (ht : t < q_T s.1) (hL : q_taxiL s.1 s.2.1 t n rt pt) (hn : n ≤ 6) (hr : r < q_N s.2.1) (hab : s.2.1 (184 + 17 * r) = 0) : ∀ (j k f : Nat) (N : z_Mem), k + j = rt.length → j < f → m_all m N s → m_list N m (g_l rt) rt.length → m_times N m s.1 s.2.1 t (g_l rt) 0 rt.length → (∀ j, j < (f_P s.2.1 pt (g_l rt) k).length → N.1 (m + 20) j = Int32.ofNat (g_l (f_P s.2.1 pt (g_l rt) k) j)) →
    ∃ N', F_Model_willPay_L47 m f (Int32.ofNat r) (f_S s.1 s.2.1 t pt (g_l rt) r k + f_fl (s.1 67) r (g_l rt) k) (Int32.ofNat (f_P s.2.1 pt (g_l rt) k).length) (Int32.ofNat k) N = some (f_S s.1 s.2.1 t pt (g_l rt) r rt.length + f_fl (s.1 67) r (g_l rt) rt.length, N') ∧ m_fr m N N' := by
  have hN := hI.I.rides24
  have h12 := hL.1.2.1
  have hdr := hL.drive
  have hpr := hL.2.2.2.2
  have hpt : ∀ u ∈ pt, u < q_N s.2.1 := fun u hu => ((hL.2.1.2.2.2 u).mp hu).1
  intro j
  induction j with
  | zero =>
    intro k f N hk hf hm hl hts hp
    obtain ⟨f, rfl⟩ : ∃ g, f = g + 1 := ⟨f - 1, by omega⟩
    have hkn : k = rt.length := by omega
    subst hkn
    unfold F_Model_willPay_L47 F_Model_willPay_B47
    rw [hl.1, if_pos ((i_le (by omega) (by omega)).mpr (Nat.le_refl _))]
    exact ⟨N, rfl, m_fr.rfl'⟩
  | succ j ih =>
    intro k f N hk hf hm hl hts hp
    obtain ⟨f, rfl⟩ : ∃ g, f = g + 1 := ⟨f - 1, by omega⟩
    have hkn : k < rt.length := by omega
    have hz : z_inb (Int32.ofNat k) 14 := (i_inb (by omega)).mpr (by omega)
    have ck : (Int32.ofNat k).toNatClampNeg = k := i_cl (by omega)
    have hs := hL.val k hkn
    have h6 := f_P_six hn hdr hpr hpt hL.1.2.2.1 (fun u hu => hI.per6 hu) hkn
    have hm24 : ∀ u ∈ f_P s.2.1 pt (g_l rt) k, u < 24 := fun u hu => by have := f_P_mem (A := s.2.1) hpt hL.1.2.2.1 k (by omega) u hu; omega
    have hnd := (f_P_inv hdr hpr k (by omega)).1.1
    have w18 := (hts k (by omega) hkn).2.2.2.2
    unfold F_Model_willPay_L47 F_Model_willPay_B47
    simp only [ck]
    rw [hl.1, if_neg (i_nle (by omega) (by omega) hkn), if_pos hz, w18, zb_ok (m_amt hm (by omega)), if_pos hz, hl.2 k hkn, i_half (by omega)]
    simp only [zl]
    have e00 : f_stay ((f_P s.2.1 pt (g_l rt) k).take 0) (g_l rt k) = [] := by
      unfold f_stay
      split <;> rfl
    obtain ⟨N1, e1, p1, h1⟩ := m_pay_in (m := m) (t := t) (r := r) (k := k) (l := g_l rt) (P := f_P s.2.1 pt (g_l rt) k) (M := N) (amt := f_amt s.2.1 (s_w s.1 s.2.1 t (g_l rt) k) (f_P s.2.1 pt (g_l rt) k).length) (rec47 := F_Model_willPay_L47 m f) hI (by omega) hnd hm24 hr hab hkn (by omega) hs hp (f_P s.2.1 pt (g_l rt) k).length 0 10000 N (f_S s.1 s.2.1 t pt (g_l rt) r k + f_fl (s.1 67) r (g_l rt) k) (by omega) (by omega) hm hl (by
      rw [e00]
      exact ⟨fun q hq => absurd hq (Nat.not_lt_zero q), fun _ _ => rfl⟩)
    rw [e00, List.drop_zero, i_shuf] at e1
    have e2 : F_Model_willPay_L88 m (F_Model_willPay_L47 m f) 10000 (Int32.ofNat r) (f_S s.1 s.2.1 t pt (g_l rt) r k + f_fl (s.1 67) r (g_l rt) k) (Int32.ofNat (f_P s.2.1 pt (g_l rt) k).length) (Int32.ofNat k) (f_amt s.2.1 (s_w s.1 s.2.1 t (g_l rt) k) (f_P s.2.1 pt (g_l rt) k).length) (Int32.ofNat (g_l rt k / 2)) 0 0 N = F_Model_willPay_L47 m f (Int32.ofNat r) (f_S s.1 s.2.1 t pt (g_l rt) r (k + 1) + f_fl (s.1 67) r (g_l rt) (k + 1)) (Int32.ofNat (f_P s.2.1 pt (g_l rt) (k + 1)).length) (Int32.ofNat (k + 1)) N1 := e1
    rw [e2]
    obtain ⟨N', e, p2⟩ := ih (k + 1) f N1 (by omega) (by omega) (p1.all hm) ⟨(congrFun (p1.1 m (by omega)) 39).trans hl.1, fun q hq => (congrFun (p1.1 _ (by omega)) q).trans (hl.2 q hq)⟩ (fun q h1 h2 => by
      rw [p1.1 _ (by omega), p1.1 _ (by omega), p1.1 _ (by omega), p1.1 _ (by omega), p1.1 _ (by omega)]
      exact hts q h1 h2) h1
    exact ⟨N', e, p1.tr p2⟩
theorem m_pay_P {m t r : Nat} {s : q_S} {n : Nat} {rt pt : List Nat} (hI : q_In s) (ht : t < q_T s.1) (hL : q_taxiL s.1 s.2.1 t n rt pt) (hn : n ≤ 6) (hr : r < q_N s.2.1) (hab : s.2.1 (184 + 17 * r) = 0) : ∀ (j i f : Nat) (N : z_Mem), i + j = pt.length → j < f → m_all m N s → m_list N m (g_l rt) rt.length → m_times N m s.1 s.2.1 t (g_l rt) 0 rt.length → (∀ j, j < i → N.1 (m + 20) j = Int32.ofNat (g_l pt j)) →
    ∃ N', F_Model_willPay_L14 m f (Int32.ofNat t) (Int32.ofNat r) 0 (Int32.ofNat pt.length) (Int32.ofNat i) N = some (f_S s.1 s.2.1 t pt (g_l rt) r rt.length + f_fl (s.1 67) r (g_l rt) rt.length, N') ∧ m_fr m N N' := by
  have hT4 := hI.I.taxis4
  have h6 := hL.2.1.2.1
  intro j
  induction j with
  | zero =>
    intro i f N hi hf hm hl hts hp
    obtain ⟨f, rfl⟩ : ∃ g, f = g + 1 := ⟨f - 1, by omega⟩
    have hi' : i = pt.length := by omega
    subst hi'
    unfold F_Model_willPay_L14 F_Model_willPay_B14
    rw [if_pos ((i_le (by omega) (by omega)).mpr (Nat.le_refl _))]
    obtain ⟨N', e, p⟩ := m_pay_L (m := m) (r := r) hI ht hL hn hr hab rt.length 0 10000 N (by omega) (by have := hL.1.2.1; omega) hm hl hts hp
    exact ⟨N', e, p⟩
  | succ j ih =>
    intro i f N hi hf hm hl hts hp
    obtain ⟨f, rfl⟩ : ∃ g, f = g + 1 := ⟨f - 1, by omega⟩
    have hip : i < pt.length := by omega
    have ci : (Int32.ofNat i).toNatClampNeg = i := i_cl (by omega)
    unfold F_Model_willPay_L14 F_Model_willPay_B14
    rw [if_neg (i_nle (by omega) (by omega) hip), zb_ok (m_in2L (kl := 25 + Int32.ofNat i) hm (25 + i) (by omega) (by omega) (i_add 25 i)), if_pos ((i_inb (by omega)).mpr (by omega)), ci, show 13 + 40 * t + (25 + i) = 38 + 40 * t + i by omega, hL.2.1.1.2 i _ (g_l_get hip), i_succ]
    simp only [zl]
    have p1 : m_fr m N (z_wI N (m + 20) i (Int32.ofNat (g_l pt i))) := m_fr.rfl'.w
    obtain ⟨N', e, p2⟩ := ih (i + 1) f _ (by omega) (by omega) (p1.all hm) ⟨(w_addr _ (by omega)).trans hl.1, fun q hq => (w_addr _ (by omega)).trans (hl.2 q hq)⟩ (fun q h1 h2 => by
      rw [p1.1 _ (by omega), p1.1 _ (by omega), p1.1 _ (by omega), p1.1 _ (by omega), p1.1 _ (by omega)]
      exact hts q h1 h2) (fun q hq => by
      by_cases hqi : q = i
      · rw [hqi, w_same]
      · rw [w_slot _ hqi]
        exact hp q (by omega))
    exact ⟨N', e, p1.tr p2⟩
theorem m_willPay {m t r : Nat} {s : q_S} {n : Nat} {rt pt : List Nat} {N : z_Mem} (hI : q_In s) (ht : t < q_T s.1) (hL : q_taxiL s.1 s.2.1 t n rt pt) (hn : n ≤ 6) (hr : r < q_N s.2.1) (hab : s.2.1 (184 + 17 * r) = 0) (hm : m_all m N s) (hl : m_list N m (g_l rt) rt.length) (hts : m_times N m s.1 s.2.1 t (g_l rt) 0 rt.length) : ∃ N', F_Model_willPay m (Int32.ofNat t) (Int32.ofNat r) N = some (f_S s.1 s.2.1 t pt (g_l rt) r rt.length + f_fl (s.1 67) r (g_l rt) rt.length, N') ∧ m_fr m N N' := by
  have hT4 := hI.I.taxis4
  have h6 := hL.2.1.2.1
  unfold F_Model_willPay
  rw [zb_ok (m_in2L (kl := 24) hm 24 (by omega) (by omega) rfl), show 13 + 40 * t + 24 = 37 + 40 * t by omega, hL.2.1.1.1]
  exact m_pay_P (m := m) (r := r) hI ht hL hn hr hab pt.length 0 10000 N (by omega) (by omega) hm hl hts (fun q hq => by omega)
/-! ===== PURE: fare ===== -/
theorem i_one2 (x : Int32) : (x < 1 ∨ (2 : Int32) < x) ↔ ¬ (x = 1 ∨ x = 2) := by
  have b1 : (1 : Int32).toInt = 1 := rfl
  have b2 : (2 : Int32).toInt = 2 := rfl
  rw [Int32.lt_iff_toInt_lt, Int32.lt_iff_toInt_lt, ← Int32.toInt_inj, ← Int32.toInt_inj, b1, b2]
  omega
theorem a_fare {o L : Nat} {S : Nat → Int32} {i : Int32} {M : z_Mem} {s : q_S} {c : z_Mem → Option (Int32 × z_Mem)} (hI : q_In s) (hc : c_all o M s) (hm : m_all (o + 548) M s) (h1 : z_inb (i + (1 : Int32)) L) : ∃ M', Fc_942 o L S i M c = c M' ∧ c_all o M' s ∧ m_all (o + 548) M' s := by
  generalize hp : S (i + 1).toNatClampNeg = p
  have hN24 := hI.I.rides24
  have hT4 := hI.I.taxis4
  have ct := a_ride_c hI.I hc
  have mt := fun (N : z_Mem) (hN : m_all (o + 548) N s) p => a_ride_m (m := o + 548) (N := z_wI N (o + 548) 0 0) (R := q_N s.2.1) (by omega) (m_rides hI.I (hN.thr 0)) p
  rcases q_split (q_N s.2.1) (by omega) p with ⟨r, hr, rfl⟩ | hb
  · have gr := q_good (n := q_N s.2.1) (by omega) hr
    obtain ⟨x0, -, -, -, -, -, -, -, -, x9, -, -, -, x13, -⟩ := hc.2.1.2.2.2.2.2.2.2.2 r hr
    have of0 : ∀ N, m_all (o + 548) N s → F_Model_of (o + 548) (Int32.ofNat r) 0 N = some (s.2.1 (173 + 17 * r)) := fun N hN => m_ofL (kl := 0) hN 0 (by omega) (by omega) rfl
    have of11 : ∀ N, m_all (o + 548) N s → F_Model_of (o + 548) (Int32.ofNat r) 11 N = some (s.2.1 (184 + 17 * r)) := fun N hN => by
      rw [m_ofL (kl := 11) hN 11 (by omega) (by omega) rfl]
      exact congrArg some (congrArg s.2.1 (by omega))
    have inS : ∀ N, F_Model_in (s.2.1 (173 + 17 * r)).toInt64 1 2 N = some (if s.2.1 (173 + 17 * r) < 1 then 0 else if (2 : Int32) < s.2.1 (173 + 17 * r) then 0 else 1) := fun N => p_in _ 1 2 N
    have e27 : F_Sys_fare_J27 o (Int32.ofNat r) (o + 5 + 16 + r) 0 M = some (.ok (-1), M) := by
      unfold F_Sys_fare_J27
      rw [if_pos rfl]
    by_cases hst : s.2.1 (173 + 17 * r) = 1 ∨ s.2.1 (173 + 17 * r) = 2
    · have hin : ∀ N, F_Model_in (s.2.1 (173 + 17 * r)).toInt64 1 2 N = some 1 := fun N => by
        have hz := fun q => (i_one2 (s.2.1 (173 + 17 * r))).mp q hst
        rw [inS, if_neg (fun q => hz (Or.inl q)), if_neg (fun q => hz (Or.inr q))]
      have eC : F_Sys_fare o (Int32.ofNat r) M = F_Sys_fare_J27 o (Int32.ofNat r) (o + 5 + 16 + r) 1 M := by
        unfold F_Sys_fare F_Sys_fare_J22
        simp only [zxm, zb, (ct _).2 r hr rfl]
        rw [x0]
        rcases hst with h | h
        · rw [if_pos h]
        · rw [if_neg (by rw [h]; decide), if_pos h]
      rcases hI.2.1.abs r hr with hab | hab
      · obtain ⟨t, ht, et⟩ := (hI.2.1.2.2.1 r hr).2.2 hst
        obtain ⟨n, rt, pt, hn, en, hL⟩ := hI.L ht
        rw [et] at x9
        have hz4 : z_inb (Int32.ofNat t) 4 := (i_inb (by omega)).mpr (by omega)
        have ctt : (Int32.ofNat t).toNatClampNeg = t := i_cl (by omega)
        obtain ⟨M1, e1, p1⟩ := c_fareAtDrop (o := o) (r := r) hI ht hL hn hr hc
        have of7 : ∀ N, m_all (o + 548) N s → F_Model_of (o + 548) (Int32.ofNat r) 7 N = some (Int32.ofNat t) := fun N hN => by
          rw [m_ofL (kl := 7) hN 7 (by omega) (by omega) rfl, show 173 + 17 * r + 7 = 180 + 17 * r by omega, et]
        have of10 : ∀ N, m_all (o + 548) N s → F_Model_of (o + 548) (Int32.ofNat r) 10 N = some (s.2.1 (183 + 17 * r)) := fun N hN => by
          rw [m_ofL (kl := 10) hN 10 (by omega) (by omega) rfl]
          exact congrArg some (congrArg s.2.1 (by omega))
        have efl : f_fl (s.1 67) r (g_l rt) rt.length = if s.2.1 (173 + 17 * r) = 1 then s.1 67 else 0 := by
          rw [f_fl_eq _ (Nat.le_refl _), List.take_length, f_fl_ofr, hL.1.2.2.2 r]
          unfold q_should
          rw [if_pos ⟨hr, et⟩]
          rcases hst with h | h
          · rw [if_pos h, if_pos h, if_neg (by rw [hab]; decide)]
            show (if 2 * r + 1 = 2 * r + 1 then s.1 67 else 0) + ((if 2 * r = 2 * r + 1 then s.1 67 else 0) + 0) = _
            rw [if_pos rfl, if_neg (by omega), Int32.add_zero, Int32.add_zero]
          · have hn1 : ¬ s.2.1 (173 + 17 * r) = 1 := by rw [h]; decide
            rw [if_neg hn1, if_pos h, if_neg hn1]
            show (if 2 * r = 2 * r + 1 then s.1 67 else 0) + 0 = _
            rw [if_neg (by omega), Int32.add_zero]
        refine k_fare (y := .ok (s.2.1 (183 + 17 * r) + (if s.2.1 (173 + 17 * r) = 1 then s.1 67 else 0) + f_S s.1 s.2.1 t pt (g_l rt) r rt.length)) q_c1n hm h1 (l_of (c_ok (M' := M1) ?_ (p1.all hc) p1.C) (fun e M1 he => by cases he)) (fun N hN => ?_)
        · rw [hp, eC]
          unfold F_Sys_fare_J27
          rw [if_neg (by decide), x13, if_pos hab, x9, zb_ok (a_hasTaxi hI.I hc ht), if_neg (by decide), if_pos hz4, ctt]
          simp only [zl]
          rw [zb2_ok e1]
        · rw [hp]
          have hN0 := hN.thr 0
          obtain ⟨N1, f1, q1, l1⟩ := m_lists (m := o + 548) (t := t) (by omega) hL hN0
          obtain ⟨b', N2, f2, q2, l2, hb', ts⟩ := m_plans (m := o + 548) hI ht (by have := hL.1.2.1; omega) hL.val (q1.all hN0) l1
          have qq := q1.tr q2
          obtain ⟨N3, f3, q3⟩ := m_willPay (m := o + 548) (r := r) hI ht hL hn hr hab (qq.all hN0) l2 (ts hL.con)
          refine m_ok (N' := N3) (b := s.2.1 (183 + 17 * r) + (f_S s.1 s.2.1 t pt (g_l rt) r rt.length + f_fl (s.1 67) r (g_l rt) rt.length)) ?_ ?_ (q3.all (qq.all hN0)) ?_ (qq.M.tr q3.M)
          · unfold F_Model_fare
            simp only [zl]
            rw [zb2_ok ((mt N hN _).2 gr), if_pos rfl, zb_ok (of0 _ hN0), zb_ok (hin _), if_neg (by decide), zb_ok (of11 _ hN0), if_neg (by rw [hab]; decide), zb_ok (of7 _ hN0), zb_ok f1, zb_ok (of7 _ (q1.all hN0)), zb2_ok f2, zb_ok (of10 _ (qq.all hN0)), zb_ok (of7 _ (qq.all hN0)), zb2_ok f3]
          · rw [efl, Int32.add_assoc, Int32.add_comm (f_S s.1 s.2.1 t pt (g_l rt) r rt.length)]
          · rw [q3.1 _ (by omega), qq.2.1 0 (by decide), w_same]
      · refine k_fare (y := .ok (-1)) q_c1n hm h1 (l_of (c_ok (M' := M) ?_ hc q_C.rfl') (fun e M1 he => by cases he)) (fun N hN => m_val hN (b := -1) rfl ?_)
        · rw [hp, eC]
          unfold F_Sys_fare_J27
          rw [if_neg (by decide), x13, if_neg (by rw [hab]; decide)]
        · rw [hp]
          unfold F_Model_fare
          simp only [zl]
          rw [zb2_ok ((mt N hN _).2 gr), if_pos rfl, zb_ok (of0 _ (hN.thr 0)), zb_ok (hin _), if_neg (by decide), zb_ok (of11 _ (hN.thr 0)), if_pos hab]
    · have hin : ∀ N, F_Model_in (s.2.1 (173 + 17 * r)).toInt64 1 2 N = some 0 := fun N => by
        rw [inS]
        rcases (i_one2 (s.2.1 (173 + 17 * r))).mpr hst with h | h
        · rw [if_pos h]
        · by_cases h' : s.2.1 (173 + 17 * r) < 1
          · rw [if_pos h']
          · rw [if_neg h', if_pos h]
      refine k_fare (y := .ok (-1)) q_c1n hm h1 (l_of (c_ok (M' := M) ?_ hc q_C.rfl') (fun e M1 he => by cases he)) (fun N hN => m_val hN (b := -1) rfl ?_)
      · rw [hp]
        unfold F_Sys_fare
        simp only [zxm, zb, (ct _).2 r hr rfl]
        rw [x0, if_neg (fun q => hst (Or.inl q)), if_neg (fun q => hst (Or.inr q)), e27]
      · rw [hp]
        unfold F_Model_fare
        simp only [zl]
        rw [zb2_ok ((mt N hN _).2 gr), if_pos rfl, zb_ok (of0 _ (hN.thr 0)), zb_ok (hin _), if_pos rfl]
  · refine k_fare (y := .error 1) q_c1n hm h1 (l_of (c_thr hc ?_) (fun e M1 he => by cases he; rfl)) (fun N hN => m_err hN (b := 0) (v := 1) rfl ?_)
    · rw [hp]
      unfold F_Sys_fare
      simp only [zxm, zb, (ct _).1 hb]
    · rw [hp]
      unfold F_Model_fare
      simp only [zl]
      rw [zb2_ok ((mt N hN _).1 hb)]
      rfl
