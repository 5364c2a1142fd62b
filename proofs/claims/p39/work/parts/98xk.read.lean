/-! ===== PURE: a known text as the reader's words, numbers and signs ===== -/
def v_at (T : Nat → Nat) (n q : Nat) (X : List Nat) : Prop := q + X.length = n ∧ ∀ k x, X[k]? = some x → T (q + k) = x
theorem v_at.app {T : Nat → Nat} {n q : Nat} {A B : List Nat} (h : v_at T n q (A ++ B)) : v_at T n (q + A.length) B := by
  refine ⟨?_, fun k x hk => ?_⟩
  · have := h.1
    rw [List.length_append] at this
    omega
  · have := h.2 (A.length + k) x (by
      rw [List.getElem?_append_right (by omega), show A.length + k - A.length = k by omega]
      exact hk)
    rw [show q + A.length + k = q + (A.length + k) by omega]
    exact this
theorem v_at.in {T : Nat → Nat} {n q : Nat} {A B : List Nat} (h : v_at T n q (A ++ B)) : ∀ k x, A[k]? = some x → T (q + k) = x := fun k x hk => h.2 k x (by
  rw [List.getElem?_append_left (List.getElem?_eq_some_iff.mp hk).1]
  exact hk)
theorem v_at.tl {T : Nat → Nat} {n q x : Nat} {B : List Nat} (h : v_at T n q (x :: B)) : q < n ∧ T q = x ∧ v_at T n (q + 1) B := by
  have h1 := h.1
  rw [List.length_cons] at h1
  refine ⟨by omega, h.2 0 x rfl, by omega, fun k y hk => ?_⟩
  rw [show q + 1 + k = q + (k + 1) by omega]
  exact h.2 (k + 1) y hk
/-- what follows starts with no blank -/
def v_hd (X : List Nat) : Prop := ∀ x, X[0]? = some x → x_kd x ≠ 0
theorem x_en_eq {T : Nat → Nat} {n q l : Nat} (hl : 0 < l) (hqn : q + l ≤ n) (h : ∀ i, i < l → x_kd (T (q + i)) = x_kd (T q)) (h3 : x_kd (T q) ≠ 3) (he : q + l < n → x_kd (T (q + l)) ≠ x_kd (T q)) : x_en T n q = q + l := by
  obtain ⟨a1, a2, a3, a4, -⟩ := x_en_spec (T := T) (n := n) (q := q) (by omega)
  rcases Nat.lt_trichotomy (x_en T n q) (q + l) with k | k | k
  · have := h (x_en T n q - q) (by omega)
    rw [show q + (x_en T n q - q) = x_en T n q by omega] at this
    exact absurd (a4 (by omega) this) h3
  · exact k
  · exact absurd (a3 (q + l) (by omega) k) (he (by omega))
theorem x_sk_eq {T : Nat → Nat} {n p e : Nat} (h1 : p ≤ e) (h2 : e ≤ n) (hb : ∀ r, p ≤ r → r < e → x_kd (T r) = 0) (he : e < n → x_kd (T e) ≠ 0) : x_sk T n p = e := by
  obtain ⟨a1, a2, a3, a4⟩ := x_sk_spec (T := T) (n := n) (p := p) (by omega)
  rcases Nat.lt_trichotomy (x_sk T n p) e with k | k | k
  · exact absurd (hb _ a1 k) (a4 (by omega))
  · exact k
  · exact absurd (a3 e h1 k) (he (by omega))
theorem v_hd.at {T : Nat → Nat} {n q : Nat} {B : List Nat} (hB : v_hd B) (h : v_at T n q B) : q < n → x_kd (T q) ≠ 0 := fun hq => by
  cases B with
  | nil =>
    have h1 := h.1
    rw [List.length_nil] at h1
    omega
  | cons x B =>
    rw [h.tl.2.1]
    exact hB x rfl
/-- behind a blank -/
theorem v_sk1 {T : Nat → Nat} {n p : Nat} {B : List Nat} (h : v_at T n p (32 :: B)) (hB : v_hd B) : x_sk T n p = p + 1 ∧ v_at T n (p + 1) B := by
  obtain ⟨h1, h2, h3⟩ := h.tl
  refine ⟨x_sk_eq (by omega) (by omega) (fun r h4 h5 => ?_) (hB.at h3), h3⟩
  rw [show r = p by omega, h2]
  rfl
theorem v_sk0 {T : Nat → Nat} {n p : Nat} {B : List Nat} (h : v_at T n p B) (hB : v_hd B) : x_sk T n p = p := by
  have := h.1
  exact x_sk_eq (Nat.le_refl _) (by omega) (fun r h4 h5 => by omega) (hB.at h)
/-- words -/
def v_wd (j : Nat) : List Nat := (List.range (w_l j)).map fun i => w_n (w_s j + i)
theorem v_wd_len (j : Nat) : (v_wd j).length = w_l j := by
  unfold v_wd
  rw [List.length_map, List.length_range]
theorem v_wd_at {j i : Nat} (hi : i < w_l j) : (v_wd j)[i]? = some (w_n (w_s j + i)) := by
  unfold v_wd
  rw [List.getElem?_map, List.getElem?_range hi]
  rfl
theorem v_wd_hd {j : Nat} (hj : j < 26) (B : List Nat) : v_hd (v_wd j ++ B) := fun x hx => by
  have hl := w_len ⟨j, hj⟩
  have hl : 0 < w_l j := hl.1
  rw [List.getElem?_append_left (by rw [v_wd_len]; omega), v_wd_at hl] at hx
  have := w_let ⟨j, hj⟩ ⟨0, by omega⟩ hl
  have h1 : x_kd x = 1 := x_kd_1.mpr (by rw [← Option.some.inj hx]; exact this)
  omega
theorem v_word {T : Nat → Nat} {n q j : Nat} {B : List Nat} (hj : j < 26) (h : v_at T n q (v_wd j ++ 32 :: B)) (hB : v_hd B) : q < n ∧ x_kd (T q) = 1 ∧ x_va T n q = Int32.ofNat j ∧ v_at T n (x_to T n q) B := by
  have hl : 0 < w_l j ∧ w_l j ≤ 10 ∧ w_s j + w_l j ≤ 144 := w_len ⟨j, hj⟩
  have h2 := h.app
  rw [v_wd_len] at h2
  obtain ⟨g1, g2, -⟩ := h2.tl
  have le : ∀ i, i < w_l j → T (q + i) = w_n (w_s j + i) := fun i hi => h.in i _ (v_wd_at hi)
  have lt : ∀ i, i < w_l j → 97 ≤ T (q + i) ∧ T (q + i) ≤ 122 := fun i hi => by
    rw [le i hi]
    exact w_let ⟨j, hj⟩ ⟨i, by omega⟩ hi
  have k1 : ∀ i, i < w_l j → x_kd (T (q + i)) = 1 := fun i hi => x_kd_1.mpr (lt i hi)
  have k0 : x_kd (T q) = 1 := k1 0 hl.1
  have en : x_en T n q = q + w_l j := x_en_eq hl.1 (by omega) (fun i hi => (k1 i hi).trans k0.symm) (by omega) (fun _ => by rw [g2, k0]; decide)
  have hq : q < n := by omega
  refine ⟨hq, k0, ?_, ?_⟩
  · unfold x_va
    rw [if_pos k0, en, show q + w_l j - q = w_l j by omega]
    exact w_ix_of hj ((w_is_iff hj lt).mp ⟨rfl, le⟩)
  · unfold x_to
    obtain ⟨s1, s2⟩ := v_sk1 h2 hB
    rw [if_pos hq, en, s1]
    exact s2
/-- numbers below a thousand -/
def v_dg (v : Nat) : List Nat := if v < 10 then [48 + v] else if v < 100 then [48 + v / 10, 48 + v % 10] else [48 + v / 100, 48 + v / 10 % 10, 48 + v % 10]
theorem v_dg_at {v : Nat} (hv : v < 1000) : ∀ (i x : Nat), (v_dg v)[i]? = some x → 48 ≤ x ∧ x ≤ 57 := by
  have h : ∀ x, x ∈ v_dg v → 48 ≤ x ∧ x ≤ 57 := fun x hx => by
    unfold v_dg at hx
    split at hx
    · rw [List.mem_singleton] at hx
      omega
    · split at hx
      · rcases List.mem_cons.mp hx with e | hx
        · omega
        · rw [List.mem_singleton] at hx
          omega
      · rcases List.mem_cons.mp hx with e | hx
        · omega
        · rcases List.mem_cons.mp hx with e | hx
          · omega
          · rw [List.mem_singleton] at hx
            omega
  exact fun i x hx => h x (List.mem_of_getElem? hx)
theorem x_kd_2 {t : Nat} (h : 48 ≤ t ∧ t ≤ 57) : x_kd t = 2 := by
  unfold x_kd
  rw [if_neg (by omega), if_neg (by omega), if_pos h]
theorem v_dg_len (v : Nat) : 0 < (v_dg v).length ∧ (v_dg v).length ≤ 3 := by
  unfold v_dg
  split
  · exact ⟨by show 0 < 1; omega, by show 1 ≤ 3; omega⟩
  · split
    · exact ⟨by show 0 < 2; omega, by show 2 ≤ 3; omega⟩
    · exact ⟨by show 0 < 3; omega, by show 3 ≤ 3; omega⟩
theorem v_dg_hd {v : Nat} (hv : v < 1000) (B : List Nat) : v_hd (v_dg v ++ B) := fun x hx => by
  rw [List.getElem?_append_left (v_dg_len v).1] at hx
  rw [x_kd_2 (v_dg_at hv 0 x hx)]
  omega
theorem v_number {T : Nat → Nat} {n q v : Nat} {R : List Nat} (hv : v < 1000) (h : v_at T n q (v_dg v ++ R)) (hR : ∃ x B, R = x :: B ∧ x_kd x ≠ 2) (hs : x_st T q = true) : q < n ∧ x_kd (T q) = 2 ∧ x_va T n q = Int32.ofNat v ∧ x_en T n q = q + (v_dg v).length ∧ v_at T n (q + (v_dg v).length) R := by
  have h2 := h.app
  obtain ⟨x, B, eR, hx⟩ := hR
  obtain ⟨l0, l3⟩ := v_dg_len v
  have g : q + (v_dg v).length < n ∧ x_kd (T (q + (v_dg v).length)) ≠ 2 := by
    rw [eR] at h2
    obtain ⟨g1, g2, -⟩ := h2.tl
    exact ⟨g1, by rw [g2]; exact hx⟩
  have k2 : ∀ i, i < (v_dg v).length → x_kd (T (q + i)) = 2 := fun i hi => by
    have e := h.in i _ (List.getElem?_eq_getElem hi)
    rw [e]
    exact x_kd_2 (v_dg_at hv i _ (List.getElem?_eq_getElem hi))
  have k0 : x_kd (T q) = 2 := k2 0 l0
  have hq : q < n := by omega
  have en : x_en T n q = q + (v_dg v).length := x_en_eq l0 (by omega) (fun i hi => (k2 i hi).trans k0.symm) (by omega) (fun _ => by rw [k0]; exact g.2)
  have ns : ∀ i, 0 < i → i < (v_dg v).length → x_st T (q + i) = false := fun i h1 h2 => x_in_st hq (by omega) (by omega) (by omega)
  refine ⟨hq, k0, ?_, en, h2⟩
  unfold x_va
  rw [if_neg (by omega), en]
  have v0 : x_vl T q = T q - 48 := by rw [x_vl_st hs, if_pos k0]
  have vs : ∀ i, 0 < i → i < (v_dg v).length → x_vl T (q + i) = min 1000000 (10 * x_vl T (q + i - 1) + T (q + i) - 48) := fun i h1 h2 => by
    rw [x_vl_ns (by omega) (ns i h1 h2), if_pos (k2 i h2)]
  have ha := fun i x hx => h.in i x hx
  congr 1
  by_cases c1 : v < 10
  · have ed : v_dg v = [48 + v] := if_pos c1
    rw [ed] at ha ⊢
    have t0 : T q = 48 + v := ha 0 _ rfl
    show x_vl T (q + 1 - 1) = v
    rw [show q + 1 - 1 = q by omega, v0, t0]
    omega
  · by_cases c2 : v < 100
    · have ed : v_dg v = [48 + v / 10, 48 + v % 10] := (if_neg c1).trans (if_pos c2)
      rw [ed] at ha vs ⊢
      have t0 : T q = 48 + v / 10 := ha 0 _ rfl
      have t1 : T (q + 1) = 48 + v % 10 := ha 1 _ rfl
      show x_vl T (q + 2 - 1) = v
      have w1 := vs 1 (by omega) (by show 1 < 2; omega)
      rw [show q + 1 - 1 = q by omega, v0, t0, t1] at w1
      rw [show q + 2 - 1 = q + 1 by omega, w1]
      omega
    · have ed : v_dg v = [48 + v / 100, 48 + v / 10 % 10, 48 + v % 10] := (if_neg c1).trans (if_neg c2)
      rw [ed] at ha vs ⊢
      have t0 : T q = 48 + v / 100 := ha 0 _ rfl
      have t1 : T (q + 1) = 48 + v / 10 % 10 := ha 1 _ rfl
      have t2 : T (q + 2) = 48 + v % 10 := ha 2 _ rfl
      show x_vl T (q + 3 - 1) = v
      have w1 := vs 1 (by omega) (by show 1 < 3; omega)
      rw [show q + 1 - 1 = q by omega, v0, t0, t1] at w1
      have w2 := vs 2 (by omega) (by show 2 < 3; omega)
      rw [show q + 2 - 1 = q + 1 by omega, w1, t2] at w2
      rw [show q + 3 - 1 = q + 2 by omega, w2]
      omega
/-- what may follow a number, and where the reader then stands -/
def v_ns (R B : List Nat) : Prop := v_hd B ∧ (R = 32 :: B ∨ (R = B ∧ ∃ B', B = 59 :: B'))
theorem v_num {T : Nat → Nat} {n q v : Nat} {R B : List Nat} (hv : v < 1000) (h : v_at T n q (v_dg v ++ R)) (hR : v_ns R B) (hs : x_st T q = true) : q < n ∧ x_kd (T q) = 2 ∧ x_va T n q = Int32.ofNat v ∧ v_at T n (x_to T n q) B := by
  obtain ⟨hB, hR⟩ := hR
  obtain ⟨hq, h1, h2, h3, h4⟩ := v_number hv h (by
    rcases hR with e | ⟨e, B', e'⟩
    · exact ⟨32, B, e, by decide⟩
    · exact ⟨59, B', e.trans e', by decide⟩) hs
  refine ⟨hq, h1, h2, ?_⟩
  unfold x_to
  rw [if_pos hq, h3]
  rcases hR with e | ⟨e, -⟩
  · rw [e] at h4
    obtain ⟨s1, s2⟩ := v_sk1 h4 hB
    rw [s1]
    exact s2
  · rw [e] at h4
    rw [v_sk0 h4 hB]
    exact h4
theorem v_sign {T : Nat → Nat} {n q : Nat} {B : List Nat} (h : v_at T n q (59 :: B)) (hB : v_hd B) (hs : x_st T q = true) : q < n ∧ x_kd (T q) = 3 ∧ x_va T n q = Int32.ofNat 59 ∧ v_at T n (x_to T n q) B := by
  obtain ⟨hq, e, h1⟩ := h.tl
  have k : x_kd (T q) = 3 := by
    rw [e]
    decide
  have en : x_en T n q = q + 1 := (x_en_spec hq).2.2.2.2 k
  refine ⟨hq, k, ?_, ?_⟩
  · unfold x_va
    rw [if_neg (by omega), en, show q + 1 - 1 = q by omega, x_vl_st hs, if_neg (by omega), e]
  · unfold x_to
    rw [if_pos hq, en, v_sk0 h1 hB]
    exact h1
/-! the reader of the class stands before X -/
def v_K (o : Nat) (M : z_Mem) (X : List Nat) : Prop := ∃ T n q, (∀ k : Nat, T k < 256) ∧ n ≤ 800 ∧ x_all M o T n q ∧ v_at T n q X
theorem v_K.keep {o : Nat} {M M' : z_Mem} {X : List Nat} (h : v_K o M X) (hx : ∀ x, o + 499 ≤ x → x ≤ o + 503 → M'.1 x = M.1 x) : v_K o M' X := by
  obtain ⟨T, n, q, hT, hn, ⟨h1, h2, h3, h4, h5, h6⟩, h7⟩ := h
  refine ⟨T, n, q, hT, hn, ⟨h1.keep (by rw [hx _ (by omega) (by omega)]) (fun x a b => hx x (by omega) (by omega)), h2, h3, ?_, ?_, ?_⟩, h7⟩
  · rw [hx _ (by omega) (by omega)]; exact h4
  · rw [hx _ (by omega) (by omega)]; exact h5
  · rw [hx _ (by omega) (by omega)]; exact h6
theorem v_K.go {o k v : Nat} {M : z_Mem} {X B : List Nat} (h : v_K o M X) (hX : ∀ T n q, v_at T n q X → (q < n → x_st T q = true) → q < n ∧ x_kd (T q) = k ∧ x_va T n q = Int32.ofNat v ∧ v_at T n (x_to T n q) B) : M.1 (o + 499) 9 = Int32.ofNat k ∧ M.1 (o + 499) 10 = Int32.ofNat v ∧ ∃ M', F_Tokens_next o M = some M' ∧ v_K o M' B ∧ x_nx o M M' := by
  obtain ⟨T, n, q, hT, hn, hA, h7⟩ := h
  obtain ⟨hq, e1, e2, h8⟩ := hX T n q h7 hA.2.2.1
  obtain ⟨M', e, hA', hx⟩ := c_next hn hA
  refine ⟨?_, ?_, M', e, ⟨T, n, _, hT, hn, hA', h8⟩, hx⟩
  · rw [hA.2.2.2.2.1, if_pos hq, e1]
  · rw [hA.2.2.2.2.2 hq, e2]
theorem v_K.word {o j : Nat} {M : z_Mem} {B : List Nat} (h : v_K o M (v_wd j ++ 32 :: B)) (hj : j < 26) (hB : v_hd B) : M.1 (o + 499) 9 = 1 ∧ M.1 (o + 499) 10 = Int32.ofNat j ∧ ∃ M', F_Tokens_next o M = some M' ∧ v_K o M' B ∧ x_nx o M M' :=
  h.go (k := 1) (fun _ _ _ h _ => v_word hj h hB)
theorem v_K.num {o v : Nat} {M : z_Mem} {R B : List Nat} (h : v_K o M (v_dg v ++ R)) (hv : v < 1000) (hR : v_ns R B) : M.1 (o + 499) 9 = 2 ∧ M.1 (o + 499) 10 = Int32.ofNat v ∧ ∃ M', F_Tokens_next o M = some M' ∧ v_K o M' B ∧ x_nx o M M' := by
  refine h.go (k := 2) (fun T n q h hs => v_num hv h hR (hs ?_))
  have h1 := h.1
  have := (v_dg_len v).1
  rw [List.length_append] at h1
  omega
theorem v_K.sign {o : Nat} {M : z_Mem} {B : List Nat} (h : v_K o M (59 :: B)) (hB : v_hd B) : M.1 (o + 499) 9 = 3 ∧ M.1 (o + 499) 10 = 59 ∧ ∃ M', F_Tokens_next o M = some M' ∧ v_K o M' B ∧ x_nx o M M' :=
  h.go (k := 3) (v := 59) (fun T n q h hs => v_sign h hB (hs h.tl.1))
theorem v_K.end {o : Nat} {M : z_Mem} (h : v_K o M []) : M.1 (o + 499) 9 = 4 := by
  obtain ⟨T, n, q, hT, hn, hA, h7⟩ := h
  have h1 := h7.1
  rw [List.length_nil] at h1
  rw [hA.2.2.2.2.1, if_neg (by omega)]
/-- frame of reading -/
def v_kp (o : Nat) (M M' : z_Mem) : Prop := (∀ x, x ≠ o + 499 → (x < o + 505 ∨ o + 547 ≤ x) → M'.1 x = M.1 x) ∧ (∀ k, k ≠ 8 → k ≠ 9 → k ≠ 10 → M'.1 (o + 499) k = M.1 (o + 499) k) ∧ M'.2 = M.2
theorem v_kp.rfl' {o : Nat} {M : z_Mem} : v_kp o M M := ⟨fun _ _ _ => rfl, fun _ _ _ _ => rfl, rfl⟩
theorem v_kp.tr {o : Nat} {M M' M'' : z_Mem} (h : v_kp o M M') (h' : v_kp o M' M'') : v_kp o M M'' := ⟨fun x a b => (h'.1 x a b).trans (h.1 x a b), fun k a b c => (h'.2.1 k a b c).trans (h.2.1 k a b c), h'.2.2.trans h.2.2⟩
theorem x_nx.kp {o : Nat} {M M' : z_Mem} (h : x_nx o M M') : v_kp o M M' := ⟨fun x a _ => h.1 x a, h.2⟩
theorem v_kp.in {o : Nat} {M M' : z_Mem} (h : ∀ x, (x < o + 505 ∨ o + 547 ≤ x) → M'.1 x = M.1 x) (h2 : M'.2 = M.2) : v_kp o M M' := ⟨fun x _ hy => h x hy, fun k _ _ _ => by rw [h _ (by omega)], h2⟩
theorem x_nx.ks {o : Nat} {M M' : z_Mem} (h : x_nx o M M') : c_ks o M M' := ⟨h.1, fun k _ a b c => h.2.1 k a b c, h.2.2, fun _ => ⟨h.2.1 0 (by decide) (by decide) (by decide), h.2.1 1 (by decide) (by decide) (by decide)⟩⟩
theorem v_takeWord {o j : Nat} {lo hi : Int32} {M : z_Mem} {B : List Nat} (h : v_K o M (v_wd j ++ 32 :: B)) (hj : j < 26) (hB : v_hd B) (h1 : ¬ Int32.ofNat j < lo) (h2 : Int32.ofNat j ≤ hi) : ∃ M', F_Tokens_takeWord o lo hi M = some (Int32.ofNat j, M') ∧ v_K o M' B ∧ x_nx o M M' := by
  obtain ⟨e9, e10, M', e, hK, hx⟩ := h.word hj hB
  refine ⟨M', ?_, hK, hx⟩
  unfold F_Tokens_takeWord
  rw [if_pos e9, e10, if_neg h1, if_pos h2, zl_eq, zb_ok e]
theorem v_check {o v a b : Nat} {M : z_Mem} {R B : List Nat} (h : v_K o M (v_dg v ++ R)) (hv : v < 1000) (hR : v_ns R B) (ha : a ≤ v) (hb : v ≤ b) (hb3 : b < 2 ^ 31) : F_Tokens_checkNumber o (Int32.ofNat a) (Int32.ofNat b) M = some (Int32.ofNat v, M) := by
  obtain ⟨e9, e10, -⟩ := h.num hv hR
  unfold F_Tokens_checkNumber
  rw [if_pos e9, e10, if_neg (fun q => absurd ((i_lt (by omega) (by omega)).mp q) (by omega)), if_pos ((i_le (by omega) hb3).mpr hb)]
theorem v_takeNumber {o v a b : Nat} {M : z_Mem} {R B : List Nat} (h : v_K o M (v_dg v ++ R)) (hv : v < 1000) (hR : v_ns R B) (ha : a ≤ v) (hb : v ≤ b) (hb3 : b < 2 ^ 31) : ∃ M', F_Tokens_takeNumber o (Int32.ofNat a) (Int32.ofNat b) M = some (Int32.ofNat v, M') ∧ v_K o M' B ∧ x_nx o M M' := by
  obtain ⟨e9, e10, M', e, hK, hx⟩ := h.num hv hR
  refine ⟨M', ?_, hK, hx⟩
  unfold F_Tokens_takeNumber
  rw [zb2_ok (v_check h hv hR ha hb hb3), zb_ok e]
theorem v_takeSign {o : Nat} {M : z_Mem} {B : List Nat} (h : v_K o M (59 :: B)) (hB : v_hd B) : ∃ M', F_Tokens_takeSign o 59 M = some M' ∧ v_K o M' B ∧ x_nx o M M' := by
  obtain ⟨e9, e10, M', e, hK, hx⟩ := h.sign hB
  refine ⟨M', ?_, hK, hx⟩
  unfold F_Tokens_takeSign
  rw [if_pos e9, if_pos e10, zb_ok e]
