/-! ===== PURE: the scanner's next token ===== -/
theorem x_kd_0 {t : Nat} : x_kd t = 0 ↔ t = 32 ∨ t = 10 := by
  constructor
  · intro h
    by_cases h1 : t = 32 ∨ t = 10
    · exact h1
    · unfold x_kd at h
      rw [if_neg h1] at h
      by_cases h2 : 97 ≤ t ∧ t ≤ 122
      · rw [if_pos h2] at h
        cases h
      · rw [if_neg h2] at h
        by_cases h3 : 48 ≤ t ∧ t ≤ 57
        · rw [if_pos h3] at h
          cases h
        · rw [if_neg h3] at h
          cases h
  · intro h
    unfold x_kd
    rw [if_pos h]
/-- the scanner stands behind the token that starts at q, or at the end -/
def y_at (N : z_Mem) (m n : Nat) (T : Nat → Nat) (q : Nat) : Prop := N.1 m 26 = Int32.ofNat q ∧ (q < n → N.1 m 27 = Int32.ofNat (x_kd (T q)) ∧ N.1 m 25 = Int32.ofNat (x_en T n q) ∧ (x_kd (T q) = 2 → N.1 m 28 = Int32.ofNat (y_nm T q (x_en T n q - q))) ∧ (x_kd (T q) = 1 → N.2 m 29 = Int64.ofNat (y_wd T q (x_en T n q - q)))) ∧ (¬ q < n → N.1 m 27 = 0 ∧ N.1 m 25 = Int32.ofNat q)
/-- slots 25 to 28, and 29 of the long ones, alone change -/
def y_nx (m : Nat) (N N' : z_Mem) : Prop := (∀ x, x ≠ m → N'.1 x = N.1 x) ∧ (∀ k, (k < 25 ∨ 29 ≤ k) → N'.1 m k = N.1 m k) ∧ ∀ x k, x ≠ m ∨ k ≠ 29 → N'.2 x k = N.2 x k
theorem m_next_L {m n : Nat} {T : Nat → Nat} (hT : ∀ k, T k < 256) : ∀ (r p f : Nat) (N : z_Mem), n - p ≤ r → r < f → p ≤ n → y_rd N m n T → N.1 m 25 = Int32.ofNat p → ∃ N', F_Model_next_L0 m f N = some N' ∧ y_at N' m n T (x_rn T n 0 r p) ∧ y_nx m N N' := by
  intro r
  induction r with
  | zero =>
    intro p f N hr hf hp h h25
    obtain ⟨f, rfl⟩ : ∃ g, f = g + 1 := ⟨f - 1, by omega⟩
    have eb := m_byteAt' h hp
    rw [if_neg (by omega)] at eb
    unfold F_Model_next_L0 F_Model_next_B0
    rw [h25, zb_ok eb, if_neg (by decide), zb_ok eb, if_neg (by decide), zl_eq, w_slot _ (show (25 : Nat) ≠ 26 by decide), w_slot _ (show (24 : Nat) ≠ 26 by decide), h25, h.1, if_neg (fun g => by
      have hn := h.2.1
      have := (i_lt (by omega) (by omega)).mp g
      omega), zl_eq]
    refine ⟨_, rfl, ⟨(w_slot _ (by decide)).trans (w_same _ _ _ _), fun g => by
      have g : p < n := g
      omega, fun _ => ⟨w_same _ _ _ _, (w_slot _ (by decide)).trans ((w_slot _ (by decide)).trans h25)⟩⟩, fun x hx => funext fun k => (w_addr k hx).trans (w_addr k hx), fun k hk => (w_slot _ (by omega)).trans (w_slot _ (by omega)), fun x k _ => rfl⟩
  | succ r ih =>
    intro p f N hr hf hp h h25
    obtain ⟨f, rfl⟩ : ∃ g, f = g + 1 := ⟨f - 1, by omega⟩
    have hn8 := h.2.1
    have eU : F_Model_next_L0 m (f + 1) N = F_Model_next_B0 m (F_Model_next_L0 m f) N := rfl
    have eb := m_byteAt' h hp
    by_cases hpn : p < n
    · rw [if_pos hpn] at eb
      have ht := hT p
      have e32 : Int32.ofNat (T p) = 32 ↔ T p = 32 := i_eq (b := 32) (by omega) (by decide)
      have e10 : Int32.ofNat (T p) = 10 ↔ T p = 10 := i_eq (b := 10) (by omega) (by decide)
      unfold x_rn
      by_cases h0 : x_kd (T p) = 0
      · rw [if_pos ⟨hpn, h0⟩]
        obtain ⟨N', e, a, c1, c2, c3⟩ := ih (p + 1) f (z_wI N m 25 (Int32.ofNat (p + 1))) (by omega) (by omega) (by omega) ⟨(w_slot _ (by decide)).trans h.1, hn8, fun k hk => (w_addr _ (by omega)).trans (h.2.2 k hk)⟩ (w_same _ _ _ _)
        refine ⟨N', ?_, a, fun x hx => (c1 x hx).trans (funext fun k => w_addr k hx), fun k hk => (c2 k hk).trans (w_slot _ (by omega)), c3⟩
        have e26 : F_Model_next_J26 m (F_Model_next_L0 m f) N = some N' := by
          unfold F_Model_next_J26
          rw [zl_eq, h25, i_succ]
          exact e
        rw [eU]
        unfold F_Model_next_B0
        rw [h25, zb_ok eb]
        rcases x_kd_0.mp h0 with g | g
        · rw [if_pos (e32.mpr g)]
          exact e26
        · rw [if_neg (fun q => by have := e32.mp q; omega), zb_ok eb, if_pos (e10.mpr g)]
          exact e26
      · rw [if_neg (fun g => h0 g.2), eU]
        obtain ⟨N3, eN⟩ : ∃ N3, N3 = z_wI N m 26 (Int32.ofNat p) := ⟨_, rfl⟩
        have k3 : ∀ x, x ≠ m → N3.1 x = N.1 x := fun x hx => by rw [eN]; exact funext fun k => w_addr k hx
        have s3 : ∀ k, k ≠ 26 → N3.1 m k = N.1 m k := fun k hk => by rw [eN]; exact w_slot _ hk
        have l3 : N3.2 = N.2 := by rw [eN]; rfl
        have z26 : N3.1 m 26 = Int32.ofNat p := by rw [eN]; exact w_same _ _ _ _
        have z25 : N3.1 m 25 = Int32.ofNat p := (s3 25 (by decide)).trans h25
        have rd3 : y_rd N3 m n T := ⟨(s3 24 (by decide)).trans h.1, hn8, fun k hk => (congrFun (k3 _ (by omega)) k).trans (h.2.2 k hk)⟩
        have e12 : N3.1 (m + 12) p = Int32.ofNat (T p) := rd3.2.2 p hpn
        have ib : z_inb (Int32.ofNat p) 800 := (i_inb (by omega)).mpr (by omega)
        unfold F_Model_next_B0
        rw [h25, zb_ok eb, if_neg (fun q => h0 (x_kd_0.mpr (Or.inl (e32.mp q)))), zb_ok eb, if_neg (fun q => h0 (x_kd_0.mpr (Or.inr (e10.mp q)))), zl_eq, ← eN, z25, rd3.1, if_pos ((i_lt (by omega) (by omega)).mpr hpn)]
        simp only [if_pos ib]
        rw [i_cl (by omega), e12, zb_ok (m_isLetter ht N3)]
        have hx : ∀ j, x_kd (T p) = j → j ≠ 3 → x_en T n p = x_rn T n j (n - p) p := fun j hj hj3 => by
          unfold x_en
          rw [hj, if_neg hj3]
        by_cases h1 : x_kd (T p) = 1
        · rw [if_pos h1, if_neg (by decide)]
          obtain ⟨N', e, g27, g25, g29, g26, gc, g2⟩ := m_word_L (m := m) (n := n) (q := p) hT (n - p) 0 10000 (z_wL N3 m 29 0) (by omega) (by omega) (by omega) rd3 z26 z25 (by
            show (if m = m ∧ (29 : Nat) = 29 then (0 : Int64) else N3.2 m 29) = _
            rw [if_pos ⟨rfl, rfl⟩]
            rfl)
          have e' : F_Model_readsWord m N3 = some N' := by
            unfold F_Model_readsWord
            rw [zl_eq]
            exact e
          rw [zb_ok e']
          refine ⟨N', rfl, ⟨g26.trans z26, fun _ => ⟨by rw [g27, h1]; rfl, by rw [g25, hx 1 h1 (by decide)]; rfl, fun g => absurd (h1.symm.trans g) (by decide), fun _ => by rw [g29, hx 1 h1 (by decide)]; rfl⟩, fun g => absurd hpn g⟩, fun x hx => (gc.1 x hx).trans (k3 x hx), fun k hk => (gc.2 k hk).trans (s3 k (by omega)), fun x k hx => (g2 x k hx).trans ?_⟩
          show (if x = m ∧ k = 29 then (0 : Int64) else N3.2 x k) = _
          rw [if_neg (by omega), l3]
        · rw [if_neg h1, if_pos rfl, zb_ok (m_isFigure ht N3)]
          by_cases h2 : x_kd (T p) = 2
          · rw [if_pos h2, if_neg (by decide)]
            obtain ⟨N', e, g27, g25, g28, g26, gc, g2⟩ := m_num_L' (m := m) (n := n) (q := p) hT (n - p) 0 10000 (z_wI N3 m 28 0) (by omega) (by omega) (by omega) ⟨(w_slot _ (by decide)).trans rd3.1, hn8, fun k hk => (w_addr _ (by omega)).trans (rd3.2.2 k hk)⟩ ((w_slot _ (by decide)).trans z25) (w_same _ _ _ _)
            have e' : F_Model_readsNumber m N3 = some N' := by
              unfold F_Model_readsNumber
              rw [zl_eq]
              exact e
            rw [zb_ok e']
            exact ⟨N', rfl, ⟨(g26.trans (w_slot _ (by decide))).trans z26, fun _ => ⟨by rw [g27, h2]; rfl, by rw [g25, hx 2 h2 (by decide)]; rfl, fun _ => by rw [g28, hx 2 h2 (by decide)]; rfl, fun g => absurd g h1⟩, fun g => absurd hpn g⟩, fun x hx => (gc.1 x hx).trans ((funext fun k => w_addr k hx).trans (k3 x hx)), fun k hk => (gc.2 k hk).trans ((w_slot _ (by omega)).trans (s3 k (by omega))), fun x k _ => by rw [g2]; exact congrFun (congrFun l3 x) k⟩
          · have h3 : x_kd (T p) = 3 := by
              have := x_kd_le (T p)
              omega
            rw [if_neg h2, if_pos rfl, zl_eq, zl_eq, w_slot _ (show (25 : Nat) ≠ 27 by decide), z25, i_succ]
            refine ⟨_, rfl, ⟨(w_slot _ (by decide)).trans ((w_slot _ (by decide)).trans z26), fun _ => ⟨(w_slot _ (by decide)).trans ((w_same _ _ _ _).trans (by rw [h3]; rfl)), (w_same _ _ _ _).trans (by rw [(x_en_spec hpn).2.2.2.2 h3]), fun g => absurd g h2, fun g => absurd g h1⟩, fun g => absurd hpn g⟩, fun x hx => (funext fun k => (w_addr k hx).trans (w_addr k hx)).trans (k3 x hx), fun k hk => (w_slot _ (by omega)).trans ((w_slot _ (by omega)).trans (s3 k (by omega))), fun x k _ => congrFun (congrFun l3 x) k⟩
    · rw [if_neg hpn] at eb
      unfold x_rn
      rw [if_neg (fun g => hpn g.1), eU]
      unfold F_Model_next_B0
      rw [h25, zb_ok eb, if_neg (by decide), zb_ok eb, if_neg (by decide), zl_eq, w_slot _ (show (25 : Nat) ≠ 26 by decide), w_slot _ (show (24 : Nat) ≠ 26 by decide), h25, h.1, if_neg (fun g => by
        have := (i_lt (by omega) (by omega)).mp g
        omega), zl_eq]
      refine ⟨_, rfl, ⟨(w_slot _ (by decide)).trans (w_same _ _ _ _), fun g => absurd g hpn, fun _ => ⟨w_same _ _ _ _, (w_slot _ (by decide)).trans ((w_slot _ (by decide)).trans h25)⟩⟩, fun x hx => funext fun k => (w_addr k hx).trans (w_addr k hx), fun k hk => (w_slot _ (by omega)).trans (w_slot _ (by omega)), fun x k _ => rfl⟩
theorem m_next {m n p : Nat} {T : Nat → Nat} {N : z_Mem} (hT : ∀ k, T k < 256) (hp : p ≤ n) (h : y_rd N m n T) (h25 : N.1 m 25 = Int32.ofNat p) : ∃ N', F_Model_next m N = some N' ∧ y_at N' m n T (x_sk T n p) ∧ y_nx m N N' :=
  m_next_L hT (n - p) p 10000 N (Nat.le_refl _) (by have := h.2.1; omega) hp h h25
