/-! ===== PURE: query: the reference's codes and its stack ===== -/
def n_kq (m : Nat) (N N' : z_Mem) : Prop := (∀ x, x ≠ m → (x < m + 22 ∨ m + 25 ≤ x) → N'.1 x = N.1 x) ∧ (∀ k, (k < 25 ∨ 32 ≤ k) → (k < 51 ∨ 54 ≤ k) → N'.1 m k = N.1 m k) ∧ ∀ x k, x ≠ m ∨ k ≠ 29 → N'.2 x k = N.2 x k
theorem n_kq.rfl' {m : Nat} {N : z_Mem} : n_kq m N N := ⟨fun _ _ _ => rfl, fun _ _ _ => rfl, fun _ _ _ => rfl⟩
theorem n_kq.tr {m : Nat} {N N' N'' : z_Mem} (h : n_kq m N N') (h' : n_kq m N' N'') : n_kq m N N'' := ⟨fun x a b => (h'.1 x a b).trans (h.1 x a b), fun k a b => (h'.2.1 k a b).trans (h.2.1 k a b), fun x k hk => (h'.2.2 x k hk).trans (h.2.2 x k hk)⟩
theorem n_ks.kq {m : Nat} {N N' : z_Mem} (h : n_ks m N N') : n_kq m N N' := ⟨fun x a _ => h.1 x a, fun k a _ => h.2.1 k a, h.2.2⟩
/-- only codes and stack are written -/
def n_st (m : Nat) (N N' : z_Mem) : Prop := (∀ x, x ≠ m → (x < m + 22 ∨ m + 25 ≤ x) → N'.1 x = N.1 x) ∧ (∀ k, (k < 51 ∨ 54 ≤ k) → N'.1 m k = N.1 m k) ∧ N'.2 = N.2
theorem n_st.rfl' {m : Nat} {N : z_Mem} : n_st m N N := ⟨fun _ _ _ => rfl, fun _ _ => rfl, rfl⟩
theorem n_st.tr {m : Nat} {N N' N'' : z_Mem} (h : n_st m N N') (h' : n_st m N' N'') : n_st m N N'' := ⟨fun x a b => (h'.1 x a b).trans (h.1 x a b), fun k a => (h'.2.1 k a).trans (h.2.1 k a), h'.2.2.trans h.2.2⟩
theorem n_st.kq {m : Nat} {N N' : z_Mem} (h : n_st m N N') : n_kq m N N' := ⟨h.1, fun k _ b => h.2.1 k b, fun x k _ => by rw [h.2.2]⟩
theorem n_st.w {m a k : Nat} {N : z_Mem} {v : Int32} (h : m + 22 ≤ a ∧ a < m + 25) : n_st m N (z_wI N a k v) := ⟨fun x h1 h2 => funext fun j => w_addr _ (by omega), fun j _ => w_addr _ (by omega), rfl⟩
theorem n_st.s {m k : Nat} {N : z_Mem} {v : Int32} (h : 51 ≤ k ∧ k < 54) : n_st m N (z_wI N m k v) := ⟨fun x h1 _ => funext fun j => w_addr _ h1, fun j h1 => w_slot _ (by omega), rfl⟩
theorem z_g.st {o n q : Nat} {M N N' : z_Mem} {T : Nat → Nat} (h : z_g o M N T n q) (hs : n_st (o + 548) N N') : z_g o M N' T n q := by
  unfold z_g y_rd y_at
  rw [hs.1 (o + 548 + 12) (by omega) (by omega), hs.2.1 24 (by omega), hs.2.1 25 (by omega), hs.2.1 26 (by omega), hs.2.1 27 (by omega), hs.2.1 28 (by omega), hs.2.1 30 (by omega), hs.2.1 31 (by omega), hs.2.2]
  exact h
theorem z_b.st {o : Nat} {M N N' : z_Mem} (h : z_b o M N) (hs : n_st (o + 548) N N') : z_b o M N' := h.nn (hs.2.1 30 (by omega)) (hs.2.1 31 (by omega))
/-- how many openings lie on the stack -/
def h_dep : List Nat → Nat
  | [] => 0
  | s :: l => (if s = 1 ∨ s = 23 then 1 else 0) + h_dep l
theorem h_dep_app : ∀ (l k : List Nat), h_dep (l ++ k) = h_dep l + h_dep k
  | [], k => (Nat.zero_add _).symm
  | s :: l, k => by
    show _ + h_dep (l ++ k) = _ + h_dep l + h_dep k
    rw [h_dep_app l k, Nat.add_assoc]
def h_str (s : Nat) : Nat := if s = 25 then 1 else if s = 24 then 2 else if s = 23 then 3 else 0
/-- stack S (its bottom first) and codes C lie in the reference's memory -/
def y_Q (m : Nat) (N : z_Mem) (S C : List Nat) : Prop := N.1 m 51 = Int32.ofNat C.length ∧ N.1 m 52 = Int32.ofNat S.length ∧ N.1 m 53 = Int32.ofNat (h_dep S) ∧ (∀ k s, C[k]? = some s → N.1 (m + 22) k = Int32.ofNat s) ∧ (∀ k s, S[k]? = some s → N.1 (m + 23) k = Int32.ofNat s) ∧ (∀ s, s ∈ S → s = 1 ∨ s = 23 ∨ s = 24 ∨ s = 25) ∧ S.length ≤ 200 ∧ C.length ≤ 200 ∧ h_dep S ≤ 200
theorem y_Q.ks {m : Nat} {N N' : z_Mem} {S C : List Nat} (h : y_Q m N S C) (hk : n_ks m N N') : y_Q m N' S C := by
  unfold y_Q
  rw [hk.2.1 51 (by omega), hk.2.1 52 (by omega), hk.2.1 53 (by omega), hk.1 (m + 22) (by omega), hk.1 (m + 23) (by omega)]
  exact h
theorem m_strength {s : Nat} (hs : s = 1 ∨ s = 23 ∨ s = 24 ∨ s = 25) (N : z_Mem) : F_Model_strength (Int32.ofNat s) N = some (Int32.ofNat (h_str s)) := by
  rcases hs with rfl | rfl | rfl | rfl <;> rfl
theorem l_snoc {α : Type} {l : List α} {x : α} {k : Nat} {s : α} (h : (l ++ [x])[k]? = some s) : (k < l.length ∧ l[k]? = some s) ∨ (k = l.length ∧ s = x) := by
  rcases Nat.lt_trichotomy k l.length with g | g | g
  · rw [List.getElem?_append_left g] at h
    exact Or.inl ⟨g, h⟩
  · rw [g, List.getElem?_concat_length] at h
    exact Or.inr ⟨g, (Option.some.inj h).symm⟩
  · rw [List.getElem?_append_right (by omega), List.getElem?_eq_none (by simp; omega)] at h
    cases h
theorem l_snoc_lt {α : Type} {l : List α} {x s : α} {k : Nat} (h : l[k]? = some s) : (l ++ [x])[k]? = some s := by
  have hk : k < l.length := by
    rcases Nat.lt_or_ge k l.length with g | g
    · exact g
    · rw [List.getElem?_eq_none g] at h
      cases h
  rw [List.getElem?_append_left hk]
  exact h
/-- a code more -/
theorem m_adds {m k : Nat} {N : z_Mem} {S C : List Nat} (h : y_Q m N S C) (hC : C.length < 200) : ∃ N', F_Model_adds m (Int32.ofNat k) N = some N' ∧ y_Q m N' S (C ++ [k]) ∧ n_st m N N' := by
  obtain ⟨h51, h52, h53, hc, hs, hm, l1, l2, l3⟩ := h
  unfold F_Model_adds
  rw [h51, if_pos ((i_inb (by omega)).mpr hC), i_cl (by omega), zl_eq, w_addr _ (show m ≠ m + 22 by omega), h51, zl_eq, i_succ]
  refine ⟨_, rfl, ⟨?_, ?_, ?_, fun j s hj => ?_, fun j s hj => ?_, hm, l1, by rw [List.length_append]; show C.length + 1 ≤ 200; omega, l3⟩, (n_st.w (by omega)).tr (n_st.s (by omega))⟩
  · rw [w_same, List.length_append]
    rfl
  · rw [w_slot _ (by decide), w_addr _ (by omega)]; exact h52
  · rw [w_slot _ (by decide), w_addr _ (by omega)]; exact h53
  · rw [w_addr _ (by omega)]
    rcases l_snoc hj with ⟨g1, g2⟩ | ⟨g1, g2⟩
    · rw [w_slot _ (by omega)]
      exact hc j s g2
    · rw [g1, w_same, g2]
  · rw [w_addr _ (by omega), w_addr _ (by omega)]
    exact hs j s hj
/-- nothing above strength k lies on top -/
def h_stop (k : Nat) (S : List Nat) : Prop := ∀ S0 s, S = S0 ++ [s] → h_str s < k
theorem m_settle_stop {m k f : Nat} {N : z_Mem} {S C : List Nat} (h : y_Q m N S C) (hk : k ≤ 3) (hs : h_stop k S) : F_Model_settles_L0 m (f + 1) (Int32.ofNat k) N = some N := by
  obtain ⟨h51, h52, h53, hc, hS, hm, l1, l2, l3⟩ := h
  unfold F_Model_settles_L0 F_Model_settles_B0
  rw [h52]
  by_cases g : N.1 m 30 = 0
  · rw [zb_ok (b_ok g), if_neg ne10]
    rcases List.eq_nil_or_concat S with e | ⟨S0, s, e⟩
    · rw [e, if_pos (by decide)]
    · have e : S = S0 ++ [s] := by rw [e, List.concat_eq_append]
      have hl : S.length = S0.length + 1 := by rw [e, List.length_append]; rfl
      have hx := hs S0 s e
      rw [if_neg (show ¬ Int32.ofNat S.length ≤ (0 : Int32) from i_nle (b := 0) (by omega) (by decide) (by omega)), show Int32.ofNat S.length - 1 = Int32.ofNat S0.length by rw [hl]; exact i_sub (a := S0.length + 1) (b := 1) (by omega), if_pos ((i_inb (by omega)).mpr (by omega)), i_cl (by omega), hS S0.length s (by rw [e, List.getElem?_concat_length]), zb_ok (m_strength (hm s (by rw [e]; simp)) N), if_pos ((i_lt (by omega) (by omega)).mpr hx)]
  · rw [zb_ok (b_good g), if_pos rfl]
/-- the top goes to the codes -/
theorem m_settle_pop {m k f s : Nat} {N : z_Mem} {S C : List Nat} (h : y_Q m N (S ++ [s]) C) (h30 : N.1 m 30 = 0) (hC : C.length < 200) (hk : 1 ≤ k) (hs : k ≤ h_str s) : ∃ N', F_Model_settles_L0 m (f + 1) (Int32.ofNat k) N = F_Model_settles_L0 m f (Int32.ofNat k) N' ∧ y_Q m N' S (C ++ [s]) ∧ n_st m N N' := by
  have h' := h
  obtain ⟨h51, h52, h53, hc, hS, hm, l1, l2, l3⟩ := h
  have hl : (S ++ [s]).length = S.length + 1 := by rw [List.length_append]; rfl
  have hs4 := hm s (by simp)
  have hst : h_str s ≤ 3 := by
    rcases hs4 with rfl | rfl | rfl | rfl <;> decide
  have htop := hS S.length s List.getElem?_concat_length
  have eU : F_Model_settles_L0 m (f + 1) (Int32.ofNat k) N = F_Model_settles_B0 m (F_Model_settles_L0 m f) (Int32.ofNat k) N := rfl
  have e1 : Int32.ofNat (S.length + 1) - 1 = Int32.ofNat S.length := i_sub (a := S.length + 1) (b := 1) (by omega)
  have ib : z_inb (Int32.ofNat S.length) 200 := (i_inb (by omega)).mpr (by omega)
  have hdep : h_dep (S ++ [s]) = h_dep S + (if s = 1 ∨ s = 23 then 1 else 0) := h_dep_app S [s]
  rw [eU]
  unfold F_Model_settles_B0
  rw [zb_ok (b_ok h30), if_neg ne10, h52, hl, if_neg (show ¬ Int32.ofNat (S.length + 1) ≤ (0 : Int32) from i_nle (b := 0) (by omega) (by decide) (by omega)), e1, if_pos ib, i_cl (by omega), htop, zb_ok (m_strength hs4 N), if_neg (fun g => by have := (i_lt (by omega) (by omega)).mp g; omega), zl_eq, w_same, if_pos ib, i_cl (by omega), w_addr _ (show m + 23 ≠ m by omega), htop]
  have q1 : y_Q m (z_wI N m 52 (Int32.ofNat S.length)) S C ∨ True := Or.inr trivial
  -- the codes grow
  have hadd : ∃ N4, F_Model_adds m (Int32.ofNat s) (z_wI N m 52 (Int32.ofNat S.length)) = some N4 ∧ N4 = z_wI (z_wI (z_wI N m 52 (Int32.ofNat S.length)) (m + 22) C.length (Int32.ofNat s)) m 51 (Int32.ofNat (C.length + 1)) := by
    unfold F_Model_adds
    rw [w_slot _ (show (51 : Nat) ≠ 52 by decide), h51, if_pos ((i_inb (by omega)).mpr hC), i_cl (by omega), zl_eq, w_addr _ (show m ≠ m + 22 by omega), w_slot _ (show (51 : Nat) ≠ 52 by decide), h51, zl_eq, i_succ]
    exact ⟨_, rfl, rfl⟩
  obtain ⟨N4, e4, eN4⟩ := hadd
  have n4 : n_st m N N4 := by
    rw [eN4]
    exact (n_st.s (by omega)).tr ((n_st.w (by omega)).tr (n_st.s (by omega)))
  have a52 : N4.1 m 52 = Int32.ofNat S.length := by rw [eN4, w_slot _ (by decide), w_addr _ (by omega), w_same]
  have a53 : N4.1 m 53 = Int32.ofNat (h_dep (S ++ [s])) := by rw [eN4, w_slot _ (by decide), w_addr _ (by omega), w_slot _ (by decide)]; exact h53
  have a51 : N4.1 m 51 = Int32.ofNat (C.length + 1) := by rw [eN4, w_same]
  have a23 : ∀ j, N4.1 (m + 23) j = N.1 (m + 23) j := fun j => by rw [eN4, w_addr _ (by omega), w_addr _ (by omega), w_addr _ (by omega)]
  have a22 : ∀ j v, (C ++ [s])[j]? = some v → N4.1 (m + 22) j = Int32.ofNat v := fun j v hj => by
    rw [eN4, w_addr _ (by omega)]
    rcases l_snoc hj with ⟨g1, g2⟩ | ⟨g1, g2⟩
    · rw [w_slot _ (by omega), w_addr _ (by omega)]
      exact hc j v g2
    · rw [g1, w_same, g2]
  rw [zb_ok e4, a52, if_pos ib, i_cl (by omega), a23, htop]
  have rest : ∀ (j v : Nat), S[j]? = some v → N4.1 (m + 23) j = Int32.ofNat v := fun j v hj => (a23 j).trans (hS j v (l_snoc_lt hj))
  have hm' : ∀ v, v ∈ S → v = 1 ∨ v = 23 ∨ v = 24 ∨ v = 25 := fun v hv => hm v (by simp [hv])
  have lc : (C ++ [s]).length = C.length + 1 := by rw [List.length_append]; rfl
  by_cases h23 : s = 23
  · rw [if_pos (by rw [h23]; rfl), zl_eq, a53]
    rw [if_pos (Or.inr h23)] at hdep
    refine ⟨_, rfl, ⟨?_, ?_, ?_, fun j v hj => (w_addr _ (by omega)).trans (a22 j v hj), fun j v hj => (w_addr _ (by omega)).trans (rest j v hj), hm', by omega, by omega, by omega⟩, n4.tr (n_st.s (by omega))⟩
    · rw [w_slot _ (by decide), lc]; exact a51
    · rw [w_slot _ (by decide)]; exact a52
    · rw [w_same, hdep]
      exact i_sub (a := h_dep S + 1) (b := 1) (by omega)
  · have hne : ¬ Int32.ofNat s = (23 : Int32) := fun g => h23 ((i_eq (b := 23) (by rcases hs4 with rfl | rfl | rfl | rfl <;> decide) (by decide)).mp g)
    have h1 : s ≠ 1 := fun g => by rw [g] at hs; have : h_str 1 = 0 := rfl; omega
    rw [if_neg hne]
    rw [if_neg (by omega)] at hdep
    refine ⟨N4, rfl, ⟨by rw [lc]; exact a51, a52, by rw [a53, hdep]; rfl, a22, rest, hm', by omega, by omega, by omega⟩, n4⟩
/-- what is above strength k goes, from the top -/
theorem m_settles_L {m k : Nat} {S : List Nat} (hk : 1 ≤ k) (hk3 : k ≤ 3) (hst : h_stop k S) : ∀ (d : Nat) (P C : List Nat) (f : Nat) (N : z_Mem), P.length = d → d < f → (∀ s, s ∈ P → k ≤ h_str s) → y_Q m N (S ++ P) C → N.1 m 30 = 0 → P.length + C.length ≤ 200 → ∃ N', F_Model_settles_L0 m f (Int32.ofNat k) N = some N' ∧ y_Q m N' S (C ++ P.reverse) ∧ n_st m N N' := by
  intro d
  induction d with
  | zero =>
    intro P C f N hP hf hp h h30 hl
    obtain ⟨f, rfl⟩ : ∃ g, f = g + 1 := ⟨f - 1, by omega⟩
    have e : P = [] := List.length_eq_zero_iff.mp hP
    rw [e, List.append_nil] at h
    refine ⟨N, m_settle_stop h hk3 hst, ?_, n_st.rfl'⟩
    rw [e, List.reverse_nil, List.append_nil]
    exact h
  | succ d ih =>
    intro P C f N hP hf hp h h30 hl
    obtain ⟨f, rfl⟩ : ∃ g, f = g + 1 := ⟨f - 1, by omega⟩
    rcases List.eq_nil_or_concat P with e | ⟨P0, s, e⟩
    · rw [e] at hP
      cases hP
    · have e : P = P0 ++ [s] := by rw [e, List.concat_eq_append]
      have lP : P.length = P0.length + 1 := by rw [e, List.length_append]; rfl
      rw [e, ← List.append_assoc] at h
      obtain ⟨N1, e1, h1, n1⟩ := m_settle_pop (f := f) h h30 (by omega) hk (hp s (by rw [e]; simp))
      obtain ⟨N', e2, h2, n2⟩ := ih P0 (C ++ [s]) f N1 (by omega) (by omega) (fun v hv => hp v (by rw [e]; simp [hv])) h1 (by rw [n1.2.1 30 (by omega)]; exact h30) (by rw [List.length_append]; show _ + (C.length + 1) ≤ 200; omega)
      refine ⟨N', e1.trans e2, ?_, n1.tr n2⟩
      rw [e, List.reverse_append, ← List.append_assoc]
      exact h2
theorem m_settles {m k : Nat} {S P C : List Nat} {N : z_Mem} (hk : 1 ≤ k) (hk3 : k ≤ 3) (hst : h_stop k S) (hp : ∀ s, s ∈ P → k ≤ h_str s) (h : y_Q m N (S ++ P) C) (h30 : N.1 m 30 = 0) (hl : P.length + C.length ≤ 200) : ∃ N', F_Model_settles m (Int32.ofNat k) N = some N' ∧ y_Q m N' S (C ++ P.reverse) ∧ n_st m N N' :=
  m_settles_L hk hk3 hst P.length P C 10000 N rfl (by omega) hp h h30 hl
theorem b_settles {m : Nat} {N : z_Mem} (h : N.1 m 30 ≠ 0) (k : Int32) : F_Model_settles m k N = some N := by
  unfold F_Model_settles F_Model_settles_L0 F_Model_settles_B0
  rw [zb_ok (b_good h), if_pos rfl]
/-- is there an opening bracket on the stack? -/
theorem m_inside_L {m : Nat} {N : z_Mem} {S C : List Nat} (h : y_Q m N S C) : ∀ (d i f : Nat), i + d = S.length → d < f → (∀ k s, k < i → S[k]? = some s → s ≠ 1) → F_Model_isInside_L2 m f (Int32.ofNat i) N = some (if 1 ∈ S then 1 else 0) := by
  have h0 := h
  obtain ⟨h51, h52, h53, hc, hS, hm, l1, l2, l3⟩ := h
  intro d
  induction d with
  | zero =>
    intro i f hi hf hno
    obtain ⟨f, rfl⟩ : ∃ g, f = g + 1 := ⟨f - 1, by omega⟩
    unfold F_Model_isInside_L2 F_Model_isInside_B2
    rw [h52, if_pos ((i_le (by omega) (by omega)).mpr (by omega)), if_neg (fun g => by
      obtain ⟨k, hk⟩ := List.getElem?_of_mem g
      have hkl : k < S.length := by
        rcases Nat.lt_or_ge k S.length with z | z
        · exact z
        · rw [List.getElem?_eq_none z] at hk
          cases hk
      exact hno k 1 (by omega) hk rfl)]
  | succ d ih =>
    intro i f hi hf hno
    obtain ⟨f, rfl⟩ : ∃ g, f = g + 1 := ⟨f - 1, by omega⟩
    have eU : F_Model_isInside_L2 m (f + 1) (Int32.ofNat i) N = F_Model_isInside_B2 m (F_Model_isInside_L2 m f) (Int32.ofNat i) N := rfl
    have hil : i < S.length := by omega
    obtain ⟨s, es⟩ : ∃ s, S[i]? = some s := ⟨S[i], List.getElem?_eq_getElem hil⟩
    have hsm := hm s (List.mem_of_getElem? es)
    rw [eU]
    unfold F_Model_isInside_B2
    rw [h52, if_neg (i_nle (by omega) (by omega) hil), if_pos ((i_inb (by omega)).mpr (by omega)), i_cl (by omega), hS i s es]
    by_cases h1 : s = 1
    · rw [if_pos (by rw [h1]; rfl), if_pos (by rw [← h1]; exact List.mem_of_getElem? es)]
    · rw [if_neg (show ¬ Int32.ofNat s = (1 : Int32) from fun g => h1 ((i_eq (b := 1) (by rcases hsm with rfl | rfl | rfl | rfl <;> decide) (by decide)).mp g)), zl_eq, i_succ]
      refine ih (i + 1) f (by omega) (by omega) (fun k v hk hv => ?_)
      by_cases hki : k = i
      · rw [hki, es] at hv
        rw [← Option.some.inj hv]
        exact h1
      · exact hno k v (by omega) hv
theorem m_inside {m : Nat} {N : z_Mem} {S C : List Nat} (h : y_Q m N S C) : F_Model_isInside m N = some (if 1 ∈ S then 1 else 0) :=
  m_inside_L h S.length 0 10000 (by omega) (by have := h.2.2.2.2.2.2.1; omega) (fun k s hk => absurd hk (Nat.not_lt_zero k))
/-- push an opening or an operator -/
theorem y_Q.push {m s : Nat} {N : z_Mem} {S C : List Nat} (h : y_Q m N S C) (hs : s = 1 ∨ s = 23 ∨ s = 24 ∨ s = 25) (hl : S.length < 200) (hd : h_dep S < 200) : y_Q m (z_wI (z_wI (z_wI N m 53 (Int32.ofNat (h_dep S + (if s = 1 ∨ s = 23 then 1 else 0)))) (m + 23) S.length (Int32.ofNat s)) m 52 (Int32.ofNat (S.length + 1))) (S ++ [s]) C := by
  obtain ⟨h51, h52, h53, hc, hS, hm, l1, l2, l3⟩ := h
  have ld : h_dep (S ++ [s]) = h_dep S + (if s = 1 ∨ s = 23 then 1 else 0) := h_dep_app S [s]
  have ll : (S ++ [s]).length = S.length + 1 := by rw [List.length_append]; rfl
  refine ⟨?_, ?_, ?_, fun j v hj => ?_, fun j v hj => ?_, fun v hv => ?_, by omega, l2, ?_⟩
  · rw [w_slot _ (by decide), w_addr _ (by omega), w_slot _ (by decide)]; exact h51
  · rw [w_same, ll]
  · rw [w_slot _ (by decide), w_addr _ (by omega), w_same, ld]
  · rw [w_addr _ (by omega), w_addr _ (by omega), w_addr _ (by omega)]; exact hc j v hj
  · rw [w_addr _ (by omega)]
    rcases l_snoc hj with ⟨g1, g2⟩ | ⟨g1, g2⟩
    · rw [w_slot _ (by omega), w_addr _ (by omega)]
      exact hS j v g2
    · rw [g1, w_same, g2]
  · rcases List.mem_append.mp hv with g | g
    · exact hm v g
    · rw [List.mem_singleton.mp g]
      exact hs
  · rw [ld]
    split <;> omega
/-- the bracket on top goes -/
theorem y_Q.shut {m : Nat} {N : z_Mem} {S C : List Nat} (h : y_Q m N (S ++ [1]) C) : y_Q m (z_wI (z_wI N m 52 (N.1 m 52 - 1)) m 53 ((z_wI N m 52 (N.1 m 52 - 1)).1 m 53 - 1)) S C := by
  obtain ⟨h51, h52, h53, hc, hS, hm, l1, l2, l3⟩ := h
  have ld : h_dep (S ++ [1]) = h_dep S + 1 := h_dep_app S [1]
  have ll : (S ++ [1]).length = S.length + 1 := by rw [List.length_append]; rfl
  refine ⟨?_, ?_, ?_, fun j v hj => ?_, fun j v hj => ?_, fun v hv => hm v (by simp [hv]), by omega, l2, by omega⟩
  · rw [w_slot _ (by decide), w_slot _ (by decide)]; exact h51
  · rw [w_slot _ (by decide), w_same, h52, ll]
    exact i_sub (a := S.length + 1) (b := 1) (by omega)
  · rw [w_same, w_slot _ (by decide), h53, ld]
    exact i_sub (a := h_dep S + 1) (b := 1) (by omega)
  · rw [w_addr _ (by omega), w_addr _ (by omega)]; exact hc j v hj
  · rw [w_addr _ (by omega), w_addr _ (by omega)]; exact hS j v (l_snoc_lt hj)
/-! the codes are run for a ride -/
theorem m_property {o k r : Nat} {N : z_Mem} {s : q_S} (hm : m_all (o + 548) N s) (hr : r < 24) (hk : k < 9) : F_Model_propertyOf (o + 548) (Int32.ofNat k) (Int32.ofNat r) N = some (h_vm s.2.1 r k) := by
  unfold F_Model_propertyOf
  rcases (show k = 0 ∨ k = 1 ∨ k = 2 ∨ k = 3 ∨ k = 4 ∨ k = 5 ∨ k = 6 ∨ k = 7 ∨ k = 8 by omega) with rfl | rfl | rfl | rfl | rfl | rfl | rfl | rfl | rfl
  · rw [if_pos (show Int32.ofNat 0 = (0 : Int32) from rfl)]
    rfl
  · rw [if_neg (show ¬ Int32.ofNat 1 = (0 : Int32) by decide), if_pos (show Int32.ofNat 1 = (1 : Int32) from rfl), zb_ok (m_ofL hm 0 (kl := 0) hr (by decide) rfl)]
    rfl
  · rw [if_neg (show ¬ Int32.ofNat 2 = (0 : Int32) by decide), if_neg (show ¬ Int32.ofNat 2 = (1 : Int32) by decide), if_pos (show Int32.ofNat 2 = (2 : Int32) from rfl), zb_ok (m_ofL hm 1 (kl := 1) hr (by decide) rfl)]
    rw [show 173 + 17 * r + 1 = 174 + 17 * r by omega]
    rfl
  · rw [if_neg (show ¬ Int32.ofNat 3 = (0 : Int32) by decide), if_neg (show ¬ Int32.ofNat 3 = (1 : Int32) by decide), if_neg (show ¬ Int32.ofNat 3 = (2 : Int32) by decide), if_pos (show Int32.ofNat 3 = (3 : Int32) from rfl), zb_ok (m_ofL hm 2 (kl := 2) hr (by decide) rfl)]
    rw [show 173 + 17 * r + 2 = 175 + 17 * r by omega]
    rfl
  · rw [if_neg (show ¬ Int32.ofNat 4 = (0 : Int32) by decide), if_neg (show ¬ Int32.ofNat 4 = (1 : Int32) by decide), if_neg (show ¬ Int32.ofNat 4 = (2 : Int32) by decide), if_neg (show ¬ Int32.ofNat 4 = (3 : Int32) by decide), if_pos (show Int32.ofNat 4 = (4 : Int32) from rfl), zb_ok (m_ofL hm 3 (kl := 3) hr (by decide) rfl)]
    rw [show 173 + 17 * r + 3 = 176 + 17 * r by omega]
    rfl
  · rw [if_neg (show ¬ Int32.ofNat 5 = (0 : Int32) by decide), if_neg (show ¬ Int32.ofNat 5 = (1 : Int32) by decide), if_neg (show ¬ Int32.ofNat 5 = (2 : Int32) by decide), if_neg (show ¬ Int32.ofNat 5 = (3 : Int32) by decide), if_neg (show ¬ Int32.ofNat 5 = (4 : Int32) by decide), if_pos (show Int32.ofNat 5 = (5 : Int32) from rfl), zb_ok (m_ofL hm 4 (kl := 4) hr (by decide) rfl)]
    rw [show 173 + 17 * r + 4 = 177 + 17 * r by omega]
    rfl
  · rw [if_neg (show ¬ Int32.ofNat 6 = (0 : Int32) by decide), if_neg (show ¬ Int32.ofNat 6 = (1 : Int32) by decide), if_neg (show ¬ Int32.ofNat 6 = (2 : Int32) by decide), if_neg (show ¬ Int32.ofNat 6 = (3 : Int32) by decide), if_neg (show ¬ Int32.ofNat 6 = (4 : Int32) by decide), if_neg (show ¬ Int32.ofNat 6 = (5 : Int32) by decide), if_pos (show Int32.ofNat 6 = (6 : Int32) from rfl), zb_ok (m_ofL hm 6 (kl := 6) hr (by decide) rfl)]
    rw [show 173 + 17 * r + 6 = 179 + 17 * r by omega]
    rfl
  · rw [if_neg (show ¬ Int32.ofNat 7 = (0 : Int32) by decide), if_neg (show ¬ Int32.ofNat 7 = (1 : Int32) by decide), if_neg (show ¬ Int32.ofNat 7 = (2 : Int32) by decide), if_neg (show ¬ Int32.ofNat 7 = (3 : Int32) by decide), if_neg (show ¬ Int32.ofNat 7 = (4 : Int32) by decide), if_neg (show ¬ Int32.ofNat 7 = (5 : Int32) by decide), if_neg (show ¬ Int32.ofNat 7 = (6 : Int32) by decide), if_pos (show Int32.ofNat 7 = (7 : Int32) from rfl), zb_ok (m_ofL hm 10 (kl := 10) hr (by decide) rfl)]
    rw [show 173 + 17 * r + 10 = 183 + 17 * r by omega]
    rfl
  · rw [if_neg (show ¬ Int32.ofNat 8 = (0 : Int32) by decide), if_neg (show ¬ Int32.ofNat 8 = (1 : Int32) by decide), if_neg (show ¬ Int32.ofNat 8 = (2 : Int32) by decide), if_neg (show ¬ Int32.ofNat 8 = (3 : Int32) by decide), if_neg (show ¬ Int32.ofNat 8 = (4 : Int32) by decide), if_neg (show ¬ Int32.ofNat 8 = (5 : Int32) by decide), if_neg (show ¬ Int32.ofNat 8 = (6 : Int32) by decide), if_neg (show ¬ Int32.ofNat 8 = (7 : Int32) by decide), zb_ok (m_ofL hm 7 (kl := 7) hr (by decide) rfl)]
    rw [show 173 + 17 * r + 7 = 180 + 17 * r by omega]
    rfl
theorem m_joined {k : Nat} (hk : 20 ≤ k ∧ k ≤ 25 ∧ k ≠ 23) (x y : Int32) (N : z_Mem) : F_Model_joined (Int32.ofNat k) x y N = some (h_jo k x y) := by
  unfold F_Model_joined h_jo
  rcases (show k = 20 ∨ k = 21 ∨ k = 22 ∨ k = 24 ∨ k = 25 by omega) with rfl | rfl | rfl | rfl | rfl
  · rw [if_pos (show Int32.ofNat 20 = (20 : Int32) from rfl), if_pos (show (20 : Nat) = 20 from rfl)]
    split <;> rfl
  · rw [if_neg (show ¬ Int32.ofNat 21 = (20 : Int32) by decide), if_pos (show Int32.ofNat 21 = (21 : Int32) from rfl), if_neg (show ¬ (21 : Nat) = 20 by decide), if_pos (show (21 : Nat) = 21 from rfl)]
    split <;> rfl
  · rw [if_neg (show ¬ Int32.ofNat 22 = (20 : Int32) by decide), if_neg (show ¬ Int32.ofNat 22 = (21 : Int32) by decide), if_pos (show Int32.ofNat 22 = (22 : Int32) from rfl), if_neg (show ¬ (22 : Nat) = 20 by decide), if_neg (show ¬ (22 : Nat) = 21 by decide), if_pos (show (22 : Nat) = 22 from rfl)]
    split <;> rfl
  · rw [if_neg (show ¬ Int32.ofNat 24 = (20 : Int32) by decide), if_neg (show ¬ Int32.ofNat 24 = (21 : Int32) by decide), if_neg (show ¬ Int32.ofNat 24 = (22 : Int32) by decide), if_neg (show ¬ Int32.ofNat 24 = (23 : Int32) by decide), if_pos (show Int32.ofNat 24 = (24 : Int32) from rfl), if_neg (show ¬ (24 : Nat) = 20 by decide), if_neg (show ¬ (24 : Nat) = 21 by decide), if_neg (show ¬ (24 : Nat) = 22 by decide), if_pos (show (24 : Nat) = 24 from rfl)]
    split <;> rfl
  · rw [if_neg (show ¬ Int32.ofNat 25 = (20 : Int32) by decide), if_neg (show ¬ Int32.ofNat 25 = (21 : Int32) by decide), if_neg (show ¬ Int32.ofNat 25 = (22 : Int32) by decide), if_neg (show ¬ Int32.ofNat 25 = (23 : Int32) by decide), if_neg (show ¬ Int32.ofNat 25 = (24 : Int32) by decide), if_neg (show ¬ (25 : Nat) = 20 by decide), if_neg (show ¬ (25 : Nat) = 21 by decide), if_neg (show ¬ (25 : Nat) = 22 by decide), if_neg (show ¬ (25 : Nat) = 24 by decide)]
    split <;> rfl
/-- codes are what they may be -/
def h_okc (k : Nat) : Prop := k < 9 ∨ (20 ≤ k ∧ k ≤ 25) ∨ (100 ≤ k ∧ k ≤ 100099)
/-- the values lie below place st.length, the top last -/
def y_V (m : Nat) (N : z_Mem) (st : List Int32) : Prop := ∀ k v, st.reverse[k]? = some v → N.1 (m + 24) k = v
theorem h_jo_01 (k : Nat) (x y : Int32) : h_jo k x y = 0 ∨ h_jo k x y = 1 := by
  unfold h_jo
  repeat' split
  all_goals first | exact Or.inl rfl | exact Or.inr rfl
theorem m_holds_L {o r : Nat} {s : q_S} {S C : List Nat} {b : Int32} (hr : r < 24) (hok : ∀ k, k ∈ C → h_okc k) : ∀ (d i f : Nat) (st : List Int32) (N : z_Mem), i + d = C.length → d < f → st.length ≤ i → m_all (o + 548) N s → y_Q (o + 548) N S C → y_V (o + 548) N st → h_run s.2.1 r (C.drop i) st = some [b] → ∃ N', F_Model_holds_L4 (o + 548) f (Int32.ofNat r) (Int32.ofNat st.length) (Int32.ofNat i) N = some (if b = 1 then 1 else 0, N') ∧ n_st (o + 548) N N' ∧ m_all (o + 548) N' s ∧ y_Q (o + 548) N' S C := by
  intro d
  induction d with
  | zero =>
    intro i f st N hi hf hl hm hQ hV hrun
    obtain ⟨f, rfl⟩ : ∃ g, f = g + 1 := ⟨f - 1, by omega⟩
    have hC := hQ.2.2.2.2.2.2.2.1
    rw [List.drop_eq_nil_of_le (by omega)] at hrun
    have est : st = [b] := Option.some.inj hrun
    rw [est] at hV
    refine ⟨N, ?_, n_st.rfl', hm, hQ⟩
    unfold F_Model_holds_L4 F_Model_holds_B4
    rw [hQ.1, if_pos ((i_le (by omega) (by omega)).mpr (by omega)), if_pos (show z_inb (0 : Int32) 200 by decide), show N.1 (o + 548 + 24) (0 : Int32).toNatClampNeg = b from hV 0 b rfl]
    split <;> rfl
  | succ d ih =>
    intro i f st N hi hf hl hm hQ hV hrun
    obtain ⟨f, rfl⟩ : ∃ g, f = g + 1 := ⟨f - 1, by omega⟩
    have hC := hQ.2.2.2.2.2.2.2.1
    have hil : i < C.length := by omega
    have ek : C[i]? = some C[i] := List.getElem?_eq_getElem hil
    have hkok := hok C[i] (List.getElem_mem hil)
    have hdrop : C.drop i = C[i] :: C.drop (i + 1) := List.drop_eq_getElem_cons hil
    rw [hdrop] at hrun
    have e22 := hQ.2.2.2.1 i C[i] ek
    generalize C[i] = k at ek hkok hdrop hrun e22
    have hk31 : k < 2 ^ 31 := by
      rcases hkok with g | g | g <;> omega
    have eU : F_Model_holds_L4 (o + 548) (f + 1) (Int32.ofNat r) (Int32.ofNat st.length) (Int32.ofNat i) N = F_Model_holds_B4 (o + 548) (F_Model_holds_L4 (o + 548) f) (Int32.ofNat r) (Int32.ofNat st.length) (Int32.ofNat i) N := rfl
    rw [eU]
    unfold F_Model_holds_B4
    rw [hQ.1, if_neg (i_nle (by omega) (by omega) hil), if_pos ((i_inb (by omega)).mpr (by omega)), i_cl (by omega), e22, zl_eq]
    unfold h_run at hrun
    -- what a write of the values leaves
    have wr : ∀ j v, m_all (o + 548) (z_wI N (o + 548 + 24) j v) s ∧ y_Q (o + 548) (z_wI N (o + 548 + 24) j v) S C ∧ n_st (o + 548) N (z_wI N (o + 548 + 24) j v) := fun j v => by
      refine ⟨hm.scr (fun a _ => w_addr _ (by omega)) (fun a _ _ => funext fun z => w_addr _ (by omega)), ?_, n_st.w (by omega)⟩
      unfold y_Q
      have w1 : ∀ a, (z_wI N (o + 548 + 24) j v).1 (o + 548) a = N.1 (o + 548) a := fun a => w_addr _ (by omega)
      have w2 : ∀ a, (z_wI N (o + 548 + 24) j v).1 (o + 548 + 22) a = N.1 (o + 548 + 22) a := fun a => w_addr _ (by omega)
      have w3 : ∀ a, (z_wI N (o + 548 + 24) j v).1 (o + 548 + 23) a = N.1 (o + 548 + 23) a := fun a => w_addr _ (by omega)
      simp only [w1, w2, w3]
      exact hQ
    have fin : ∀ (st' : List Int32) (j : Nat) (v : Int32), st'.length ≤ i + 1 → y_V (o + 548) (z_wI N (o + 548 + 24) j v) st' → h_run s.2.1 r (C.drop (i + 1)) st' = some [b] → ∃ N', F_Model_holds_L4 (o + 548) f (Int32.ofNat r) (Int32.ofNat st'.length) (Int32.ofNat (i + 1)) (z_wI N (o + 548 + 24) j v) = some (if b = 1 then 1 else 0, N') ∧ n_st (o + 548) N N' ∧ m_all (o + 548) N' s ∧ y_Q (o + 548) N' S C := fun st' j v hl' hV' hrun' => by
      obtain ⟨N', e, n1, m1, q1⟩ := ih (i + 1) f st' _ (by omega) (by omega) hl' (wr j v).1 (wr j v).2.1 hV' hrun'
      exact ⟨N', e, (wr j v).2.2.tr n1, m1, q1⟩
    by_cases h23 : k = 23
    · rw [if_pos h23] at hrun
      cases st with
      | nil => cases hrun
      | cons x st =>
        have hl : st.length + 1 ≤ i := hl
        have e1 : Int32.ofNat (x :: st).length - 1 = Int32.ofNat st.length := i_sub (a := st.length + 1) (b := 1) (by omega)
        have ib : z_inb (Int32.ofNat st.length) 200 := (i_inb (by omega)).mpr (by omega)
        have ex : N.1 (o + 548 + 24) st.length = x := hV st.length x (by
          rw [List.reverse_cons, List.getElem?_append_right (by simp)]
          simp)
        rw [if_pos (by rw [h23]; rfl), e1, if_pos ib, if_pos ib, i_cl (by omega), ex, zl_eq, zl_eq, i_succ]
        refine fin ((1 - x) :: st) st.length (1 - x) (by show st.length + 1 ≤ i + 1; omega) (fun j v hj => ?_) hrun
        rw [List.reverse_cons] at hj
        rcases l_snoc hj with ⟨g1, g2⟩ | ⟨g1, g2⟩
        · rw [List.length_reverse] at g1
          rw [w_slot _ (by omega)]
          exact hV j v (by rw [List.reverse_cons]; exact l_snoc_lt g2)
        · rw [List.length_reverse] at g1
          rw [g1, w_same, g2]
    · rw [if_neg h23] at hrun
      rw [if_neg (show ¬ Int32.ofNat k = (23 : Int32) from fun g => h23 ((i_eq (b := 23) hk31 (by decide)).mp g)), zb_ok (p_inx (Int32.ofNat k) 20 25 N (lo := 20) (hi := 25) (by decide) (by decide))]
      by_cases h20 : 20 ≤ k ∧ k ≤ 25
      · rw [if_pos h20] at hrun
        rw [if_neg (show ¬ (Int32.ofNat k < (20 : Int32) ∨ (25 : Int32) < Int32.ofNat k) from fun g => by
          rcases g with g | g
          · have := (i_lt (b := 20) hk31 (by decide)).mp g
            omega
          · have := (i_lt (a := 25) (by decide) hk31).mp g
            omega), if_neg (by decide), zl_eq]
        rcases st with _ | ⟨y, _ | ⟨x, st⟩⟩
        · cases hrun
        · cases hrun
        · skip
          have hl : st.length + 1 + 1 ≤ i := hl
          have e1 : Int32.ofNat (y :: x :: st).length + -1 = Int32.ofNat (st.length + 1) := by
            rw [Int32.add_neg_eq_sub]
            exact i_sub (a := st.length + 1 + 1) (b := 1) (by omega)
          have e2 : Int32.ofNat (st.length + 1) - 1 = Int32.ofNat st.length := i_sub (a := st.length + 1) (b := 1) (by omega)
          have rv : (y :: x :: st).reverse = st.reverse ++ [x] ++ [y] := by rw [List.reverse_cons, List.reverse_cons]
          have lx : (st.reverse ++ [x]).length = st.length + 1 := by simp
          have ey : N.1 (o + 548 + 24) (st.length + 1) = y := hV _ _ (by rw [rv, ← lx]; exact List.getElem?_concat_length)
          have ex : N.1 (o + 548 + 24) st.length = x := hV _ _ (by
            rw [rv]
            refine l_snoc_lt ?_
            have := List.getElem?_concat_length (l := st.reverse) (a := x)
            rw [List.length_reverse] at this
            exact this)
          have j100 : ∀ z : Int32, F_Model_holds_J100 (o + 548) (F_Model_holds_L4 (o + 548) f) (Int32.ofNat r) (Int32.ofNat (st.length + 1)) (Int32.ofNat i) z (Int32.ofNat st.length) N = F_Model_holds_L4 (o + 548) f (Int32.ofNat r) (Int32.ofNat (st.length + 1)) (Int32.ofNat (i + 1)) (z_wI N (o + 548 + 24) st.length z) := fun z => by
            unfold F_Model_holds_J100
            rw [if_pos ((i_inb (by omega)).mpr (by omega)), zl_eq, zl_eq, i_cl (by omega), i_succ]
          rw [e1, e2, if_pos ((i_inb (by omega)).mpr (by omega)), if_pos ((i_inb (by omega)).mpr (by omega)), i_cl (by omega), i_cl (by omega), ex, ey, zb_ok (m_joined ⟨h20.1, h20.2, h23⟩ x y N)]
          have hfin := fin (h_jo k x y :: st) st.length (h_jo k x y) (by show st.length + 1 ≤ i + 1; omega) (fun j v hj => by
            rw [List.reverse_cons] at hj
            rcases l_snoc hj with ⟨g1, g2⟩ | ⟨g1, g2⟩
            · rw [List.length_reverse] at g1
              rw [w_slot _ (by omega)]
              exact hV j v (by rw [rv]; exact l_snoc_lt (l_snoc_lt g2))
            · rw [List.length_reverse] at g1
              rw [g1, w_same, g2]) hrun
          have hfin : ∃ N', F_Model_holds_L4 (o + 548) f (Int32.ofNat r) (Int32.ofNat (st.length + 1)) (Int32.ofNat (i + 1)) (z_wI N (o + 548 + 24) st.length (h_jo k x y)) = _ ∧ _ := hfin
          rcases h_jo_01 k x y with g | g
          · rw [g] at hfin ⊢
            rw [if_pos rfl, j100]
            exact hfin
          · rw [g] at hfin ⊢
            rw [if_neg (by decide), j100]
            exact hfin
      · rw [if_neg h20] at hrun
        have hcase : k < 9 ∨ (100 ≤ k ∧ k ≤ 100099) := by
          rcases hkok with g | g | g
          · exact Or.inl g
          · exact absurd g h20
          · exact Or.inr g
        have j131 : ∃ N', F_Model_holds_J131 (o + 548) (F_Model_holds_L4 (o + 548) f) (Int32.ofNat r) (Int32.ofNat st.length) (Int32.ofNat i) (h_vm s.2.1 r k) (Int32.ofNat st.length) N = some (if b = 1 then 1 else 0, N') ∧ n_st (o + 548) N N' ∧ m_all (o + 548) N' s ∧ y_Q (o + 548) N' S C := by
          unfold F_Model_holds_J131
          rw [if_pos ((i_inb (by omega)).mpr (by omega)), zl_eq, zl_eq, zl_eq, i_cl (by omega), i_succ, i_succ]
          refine fin (h_vm s.2.1 r k :: st) st.length _ (by show st.length + 1 ≤ i + 1; omega) (fun j v hj => ?_) hrun
          rw [List.reverse_cons] at hj
          rcases l_snoc hj with ⟨g1, g2⟩ | ⟨g1, g2⟩
          · rw [List.length_reverse] at g1
            rw [w_slot _ (by omega)]
            exact hV j v g2
          · rw [List.length_reverse] at g1
            rw [g1, w_same, g2]
        rw [if_pos (show Int32.ofNat k < (20 : Int32) ∨ (25 : Int32) < Int32.ofNat k from by
          rcases hcase with g | g
          · exact Or.inl ((i_lt (b := 20) hk31 (by decide)).mpr (by omega))
          · exact Or.inr ((i_lt (a := 25) (by decide) hk31).mpr (by omega))), if_pos rfl]
        rcases hcase with g | g
        · rw [if_pos (show Int32.ofNat k < (100 : Int32) from (i_lt (b := 100) hk31 (by decide)).mpr (by omega)), zb_ok (m_property hm hr g)]
          exact j131
        · have e100 : Int32.ofNat k - 100 = h_vm s.2.1 r k := by
            unfold h_vm
            rw [if_neg (by omega), if_neg (by omega), if_neg (by omega), if_neg (by omega), if_neg (by omega), if_neg (by omega), if_neg (by omega), if_neg (by omega), if_neg (by omega)]
            exact i_sub (a := k) (b := 100) (by omega)
          rw [if_neg (show ¬ Int32.ofNat k < (100 : Int32) from fun z => by have := (i_lt (b := 100) hk31 (by decide)).mp z; omega), e100]
          exact j131
theorem m_holds {o r : Nat} {N : z_Mem} {s : q_S} {S C : List Nat} {b : Int32} (hr : r < 24) (hok : ∀ k, k ∈ C → h_okc k) (hm : m_all (o + 548) N s) (hQ : y_Q (o + 548) N S C) (hrun : h_run s.2.1 r C [] = some [b]) : ∃ N', F_Model_holds (o + 548) (Int32.ofNat r) N = some (if b = 1 then 1 else 0, N') ∧ n_st (o + 548) N N' ∧ m_all (o + 548) N' s ∧ y_Q (o + 548) N' S C :=
  m_holds_L hr hok C.length 0 10000 [] N (by omega) (by have := hQ.2.2.2.2.2.2.2.1; omega) (Nat.le_refl _) hm hQ (fun k v hk => by cases hk) hrun
