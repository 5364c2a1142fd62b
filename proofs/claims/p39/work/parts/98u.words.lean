/-! ===== the class's side (out of whole, by program) ===== -/
def w_t : List Nat := [122, 111, 110, 101, 115, 32, 114, 111, 97, 100, 32, 116, 97, 114, 105, 102, 102, 32, 100, 105, 115, 99, 111, 117, 110, 116, 32, 114, 117, 108, 101, 32, 116, 97, 120, 105, 32, 114, 105, 100, 101, 32, 115, 116, 97, 116, 101, 32, 102, 114, 111, 109, 32, 116, 111, 32, 112, 101, 114, 115, 111, 110, 115, 32, 114, 101, 97, 100, 121, 32, 100, 101, 116, 111, 117, 114, 32, 102, 97, 114, 101, 32, 119, 97, 105, 116, 32, 100, 119, 101, 108, 108, 32, 111, 102, 102, 101, 114, 32, 112, 97, 116, 105, 101, 110, 99, 101, 32, 102, 101, 101, 32, 115, 116, 105, 110, 116, 32, 114, 101, 115, 116, 32, 109, 97, 110, 121, 32, 102, 105, 114, 115, 116, 32, 111, 114, 32, 97, 110, 100, 32, 110, 111, 116]
def w_n (v : Nat) : Nat := w_t.getD v 0
def w_s (j : Nat) : Nat := ([0, 6, 11, 18, 27, 32, 37, 42, 48, 53, 56, 64, 70, 77, 82, 87, 93, 99, 108, 112, 118, 123, 128, 134, 137, 141] : List Nat).getD j 0
def w_l (j : Nat) : Nat := ([5, 4, 6, 8, 4, 4, 4, 5, 4, 2, 7, 5, 6, 4, 4, 5, 5, 8, 3, 5, 4, 4, 5, 2, 3, 3] : List Nat).getD j 0
def w_c (j : Nat) : Nat := ([14123071, 365260, 287870604, 45602731721, 369932, 395046, 360968, 10492313, 131638, 555, 6280423606, 9665215, 60458013, 119318, 453701, 2582454, 8094240, 168044941553, 4514, 10497998, 358472, 257011, 3379448, 423, 1111, 10631] : List Nat).getD j 0
/-- which word, and where it starts, at place v of the words' text -/
def w_j : Nat → Nat
  | 0 => 0
  | v + 1 => if v = 144 ∨ w_n v = 32 then w_j v + 1 else w_j v
def w_b : Nat → Nat
  | 0 => 0
  | v + 1 => if v = 144 ∨ w_n v = 32 then v + 1 else w_b v
theorem w_wc : ∀ v : Fin 144, z_wc v.val = Int32.ofNat (w_n v.val) ∧ w_n v.val < 256 := by decide +kernel
theorem w_end : ∀ v : Fin 145, (v.val = 144 ∨ w_n v.val = 32) → w_j v.val < 26 ∧ w_b v.val = w_s (w_j v.val) ∧ v.val = w_s (w_j v.val) + w_l (w_j v.val) := by decide +kernel
theorem w_j26 : w_j 145 = 26 := by decide +kernel
theorem w_jb : ∀ v : Fin 145, w_j v.val < 26 ∧ w_b v.val ≤ v.val := by decide +kernel
theorem w_let : ∀ j : Fin 26, ∀ i : Fin 12, i.val < w_l j.val → 97 ≤ w_n (w_s j.val + i.val) ∧ w_n (w_s j.val + i.val) ≤ 122 := by decide +kernel
theorem w_len : ∀ j : Fin 26, 0 < w_l j.val ∧ w_l j.val ≤ 10 ∧ w_s j.val + w_l j.val ≤ 144 := by decide +kernel
theorem w_cod : ∀ j : Fin 26, y_wd w_n (w_s j.val) (w_l j.val) = w_c j.val := by decide +kernel
theorem w_cinj : ∀ j k : Fin 26, w_c j.val = w_c k.val → j = k := by decide +kernel
/-- the code of a word of at most ten letters is its own -/
theorem y_wd_S {T : Nat → Nat} {q d : Nat} (h : d < 10) : y_wd T q (d + 1) = 27 * y_wd T q d + T (q + d) - 96 := if_neg (by omega)
theorem y_wd_inj {T T' : Nat → Nat} {q q' : Nat} : ∀ (l l' : Nat), l ≤ 10 → l' ≤ 10 → (∀ i, i < l → 97 ≤ T (q + i) ∧ T (q + i) ≤ 122) → (∀ i, i < l' → 97 ≤ T' (q' + i) ∧ T' (q' + i) ≤ 122) → y_wd T q l = y_wd T' q' l' → l = l' ∧ ∀ i, i < l → T (q + i) = T' (q' + i)
  | 0, 0, _, _, _, _, _ => ⟨rfl, fun i hi => absurd hi (by omega)⟩
  | 0, l' + 1, _, h2, _, h4, e => by
    rw [y_wd_S (by omega)] at e
    have := h4 l' (by omega)
    have e : 0 = 27 * y_wd T' q' l' + T' (q' + l') - 96 := e
    omega
  | l + 1, 0, h1, _, h3, _, e => by
    rw [y_wd_S (by omega)] at e
    have := h3 l (by omega)
    have e : 27 * y_wd T q l + T (q + l) - 96 = 0 := e
    omega
  | l + 1, l' + 1, h1, h2, h3, h4, e => by
    rw [y_wd_S (by omega), y_wd_S (by omega)] at e
    have a := h3 l (by omega)
    have b := h4 l' (by omega)
    have e1 : y_wd T q l = y_wd T' q' l' := by omega
    have e2 : T (q + l) = T' (q' + l') := by omega
    obtain ⟨g1, g2⟩ := y_wd_inj l l' (by omega) (by omega) (fun i hi => h3 i (by omega)) (fun i hi => h4 i (by omega)) e1
    refine ⟨by omega, fun i hi => ?_⟩
    by_cases hil : i = l
    · rw [hil, e2, g1]
    · exact g2 i (by omega)
theorem y_wd_congr {T T' : Nat → Nat} {q q' : Nat} : ∀ l, (∀ i, i < l → T (q + i) = T' (q' + i)) → y_wd T q l = y_wd T' q' l
  | 0, _ => rfl
  | l + 1, h => by
    unfold y_wd
    rw [y_wd_congr l (fun i hi => h i (by omega)), h l (by omega)]
/-- the text's l letters from q are word j: as the class compares them, as the reference does -/
def w_m (T : Nat → Nat) (q l j : Nat) : Prop := l = w_l j ∧ ∀ i, i < l → T (q + i) = w_n (w_s j + i)
abbrev w_is (T : Nat → Nat) (q l j : Nat) : Prop := l ≤ 10 ∧ y_wd T q l = w_c j
theorem w_is_iff {T : Nat → Nat} {q l j : Nat} (hj : j < 26) (hl : ∀ i, i < l → 97 ≤ T (q + i) ∧ T (q + i) ≤ 122) : w_m T q l j ↔ w_is T q l j := by
  have hlen := w_len ⟨j, hj⟩
  have hcod := w_cod ⟨j, hj⟩
  dsimp only at hlen hcod
  constructor
  · intro h
    refine ⟨by have := h.1; omega, ?_⟩
    rw [← hcod, ← h.1]
    exact y_wd_congr l h.2
  · intro h
    have e := h.2
    rw [← hcod] at e
    exact y_wd_inj l (w_l j) h.1 hlen.2.1 hl (fun i hi => w_let ⟨j, hj⟩ ⟨i, by omega⟩ hi) e
/-- the number of the word that lies there, or -1 -/
def w_ix (T : Nat → Nat) (q l : Nat) : Int32 := match (List.range 26).find? (fun j => decide (w_is T q l j)) with
  | some j => Int32.ofNat j
  | none => -1
theorem w_is_one {T : Nat → Nat} {q l j k : Nat} (hj : j < 26) (hk : k < 26) (h : w_is T q l j) (h' : w_is T q l k) : j = k :=
  congrArg Fin.val (w_cinj ⟨j, hj⟩ ⟨k, hk⟩ (h.2.symm.trans h'.2))
theorem w_ix_of {T : Nat → Nat} {q l j : Nat} (hj : j < 26) (h : w_is T q l j) : w_ix T q l = Int32.ofNat j := by
  unfold w_ix
  cases e : (List.range 26).find? (fun j => decide (w_is T q l j)) with
  | some k =>
    have h1 := List.find?_some e
    have h2 := List.mem_of_find?_eq_some e
    rw [w_is_one (List.mem_range.mp h2) hj (of_decide_eq_true h1) h]
  | none =>
    have := List.find?_eq_none.mp e j (List.mem_range.mpr hj)
    exact absurd (decide_eq_true h) this
theorem w_ix_no {T : Nat → Nat} {q l : Nat} (h : ∀ j, j < 26 → ¬ w_is T q l j) : w_ix T q l = -1 := by
  unfold w_ix
  cases e : (List.range 26).find? (fun j => decide (w_is T q l j)) with
  | some k =>
    have h1 := List.find?_some e
    have h2 := List.mem_of_find?_eq_some e
    exact absurd (of_decide_eq_true h1) (h k (List.mem_range.mp h2))
  | none => rfl
theorem c_isWordAt_L {o n q l j : Nat} {T : Nat → Nat} {M : z_Mem} (hT : ∀ k, T k < 256) (hn : n ≤ 800) (hb : ∀ k, k < n → M.1 (o + 1) k &&& 255 = Int32.ofNat (T k)) (hq : q + l ≤ n) (hj : j < 26) (hl : l = w_l j) : ∀ (r d f : Nat), d + r = l → r < f → (∀ i, i < d → T (q + i) = w_n (w_s j + i)) → ∃ x, F_Tokens_isWordAt_L3 o f (Int32.ofNat (w_s j)) (Int32.ofNat q) (Int32.ofNat l) (Int32.ofNat d) M = some x ∧ ((x = 1 ∧ w_m T q l j) ∨ (x = 0 ∧ ¬ w_m T q l j)) := by
  intro r
  induction r with
  | zero =>
    intro d f hd hf h
    obtain ⟨f, rfl⟩ : ∃ g, f = g + 1 := ⟨f - 1, by omega⟩
    refine ⟨1, ?_, Or.inl ⟨rfl, hl, fun i hi => h i (by omega)⟩⟩
    unfold F_Tokens_isWordAt_L3 F_Tokens_isWordAt_B3
    rw [if_pos ((i_le (by omega) (by omega)).mpr (by omega))]
  | succ r ih =>
    intro d f hd hf h
    obtain ⟨f, rfl⟩ : ∃ g, f = g + 1 := ⟨f - 1, by omega⟩
    have hlen := w_len ⟨j, hj⟩
    dsimp only at hlen
    have hw := w_wc ⟨w_s j + d, by omega⟩
    dsimp only at hw
    have e8 : F_Tokens_isWordAt_L3 o (f + 1) (Int32.ofNat (w_s j)) (Int32.ofNat q) (Int32.ofNat l) (Int32.ofNat d) M = F_Tokens_isWordAt_B3 o (F_Tokens_isWordAt_L3 o f) (Int32.ofNat (w_s j)) (Int32.ofNat q) (Int32.ofNat l) (Int32.ofNat d) M := rfl
    rw [e8]
    unfold F_Tokens_isWordAt_B3
    have i1 : z_inb (Int32.ofNat (w_s j + d)) 144 := (i_inb (by omega)).mpr (by omega)
    rw [if_neg (i_nle (by omega) (by omega) (by omega)), zl_eq, i_add, if_neg (i_nn (by omega)), if_neg (show ¬ (144 : Int32) ≤ Int32.ofNat (w_s j + d) from i_nle (a := 144) (by decide) (by omega) (by omega)), if_pos i1, i_add, zb_ok (c_byteAt hn (show q + d < n by omega) hb), i_cl (by omega), hw.1]
    by_cases hc : T (q + d) = w_n (w_s j + d)
    · rw [if_pos (by rw [hc]), zl_eq, i_succ]
      exact ih (d + 1) f (by omega) (by omega) (fun i hi => by
        by_cases hid : i = d
        · rw [hid]
          exact hc
        · exact h i (by omega))
    · rw [if_neg (fun g => hc ((i_eq (by omega) (by have := hT (q + d); omega)).mp g).symm)]
      exact ⟨0, rfl, Or.inr ⟨rfl, fun g => hc (g.2 d (by omega))⟩⟩
theorem c_isWordAt {o n q l j : Nat} {T : Nat → Nat} {M : z_Mem} (hT : ∀ k, T k < 256) (hn : n ≤ 800) (hb : ∀ k, k < n → M.1 (o + 1) k &&& 255 = Int32.ofNat (T k)) (hq : q + l ≤ n) (hj : j < 26) (hl : l = w_l j) : ∃ x, F_Tokens_isWordAt o (Int32.ofNat (w_s j)) (Int32.ofNat q) (Int32.ofNat l) M = some x ∧ ((x = 1 ∧ w_m T q l j) ∨ (x = 0 ∧ ¬ w_m T q l j)) :=
  c_isWordAt_L hT hn hb hq hj hl l 0 10000 (by omega) (by omega) (fun i hi => absurd hi (by omega))
theorem c_place_L {o n q l : Nat} {T : Nat → Nat} {M : z_Mem} (hT : ∀ k, T k < 256) (hn : n ≤ 800) (hb : ∀ k, k < n → M.1 (o + 1) k &&& 255 = Int32.ofNat (T k)) (hq : q + l ≤ n) : ∀ (r v f : Nat), v + r = 145 → r < f → (∀ j, j < w_j v → ¬ w_m T q l j) → ∃ x, F_Tokens_placeOfWord_L8 o f (Int32.ofNat q) (Int32.ofNat l) (Int32.ofNat (w_j v)) (Int32.ofNat (w_b v)) (Int32.ofNat v) M = some x ∧ ((∃ j, j < 26 ∧ w_m T q l j ∧ x = Int32.ofNat j) ∨ (x = -1 ∧ ∀ j, j < 26 → ¬ w_m T q l j)) := by
  intro r
  induction r with
  | zero =>
    intro v f hd hf h
    obtain ⟨f, rfl⟩ : ∃ g, f = g + 1 := ⟨f - 1, by omega⟩
    have hv : v = 145 := by omega
    rw [hv, w_j26] at h
    refine ⟨-1, ?_, Or.inr ⟨rfl, h⟩⟩
    unfold F_Tokens_placeOfWord_L8 F_Tokens_placeOfWord_B8
    rw [if_pos (show (144 : Int32) < Int32.ofNat v from (i_lt (a := 144) (by decide) (by omega)).mpr (by omega))]
  | succ r ih =>
    intro v f hd hf h
    obtain ⟨f, rfl⟩ : ∃ g, f = g + 1 := ⟨f - 1, by omega⟩
    have hv : v < 145 := by omega
    have e8 : ∀ a b c d e, F_Tokens_placeOfWord_L8 o (f + 1) a b c d e M = F_Tokens_placeOfWord_B8 o (F_Tokens_placeOfWord_L8 o f) a b c d e M := fun a b c d e => rfl
    rw [e8]
    have hjb := w_jb ⟨v, hv⟩
    dsimp only at hjb
    unfold F_Tokens_placeOfWord_B8
    rw [if_neg (show ¬ (144 : Int32) < Int32.ofNat v from fun g => by have := (i_lt (a := 144) (by decide) (by omega)).mp g; omega)]
    have hend : (v = 144 ∨ w_n v = 32) → ∃ x, F_Tokens_placeOfWord_J40 o (F_Tokens_placeOfWord_L8 o f) (Int32.ofNat q) (Int32.ofNat l) (Int32.ofNat (w_j v)) (Int32.ofNat (w_b v)) (Int32.ofNat v) M = some x ∧ ((∃ j, j < 26 ∧ w_m T q l j ∧ x = Int32.ofNat j) ∨ (x = -1 ∧ ∀ j, j < 26 → ¬ w_m T q l j)) := fun hve => by
      obtain ⟨a1, a2, a3⟩ := w_end ⟨v, hv⟩ hve
      dsimp only at a1 a2 a3
      have jS : w_j (v + 1) = w_j v + 1 := if_pos hve
      have bS : w_b (v + 1) = v + 1 := if_pos hve
      have nx : ¬ w_m T q l (w_j v) → ∃ x, F_Tokens_placeOfWord_J62 o (F_Tokens_placeOfWord_L8 o f) (Int32.ofNat q) (Int32.ofNat l) (Int32.ofNat (w_j v)) (Int32.ofNat v) M = some x ∧ ((∃ j, j < 26 ∧ w_m T q l j ∧ x = Int32.ofNat j) ∨ (x = -1 ∧ ∀ j, j < 26 → ¬ w_m T q l j)) := fun hno => by
        unfold F_Tokens_placeOfWord_J62
        rw [zl_eq, zl_eq, zl_eq, i_succ, i_succ]
        have := ih (v + 1) f (by omega) (by omega) (fun j hj => by
          rw [jS] at hj
          by_cases hjj : j = w_j v
          · rw [hjj]
            exact hno
          · exact h j (by omega))
        rw [jS, bS] at this
        exact this
      unfold F_Tokens_placeOfWord_J40
      rw [i_sub hjb.2]
      by_cases hl : v - w_b v = l
      · rw [if_pos (by rw [hl])]
        have hlj : l = w_l (w_j v) := by omega
        obtain ⟨x, ex, hx⟩ := c_isWordAt (T := T) hT hn hb hq a1 hlj
        rw [a2, zb_ok ex]
        rcases hx with ⟨g1, g2⟩ | ⟨g1, g2⟩
        · rw [if_neg (by rw [g1]; decide)]
          exact ⟨_, rfl, Or.inl ⟨w_j v, a1, g2, rfl⟩⟩
        · rw [if_pos g1]
          exact nx g2
      · have hlt := w_len ⟨w_j v, a1⟩
        dsimp only at hlt
        rw [if_neg (fun g => hl ((i_eq (by omega) (by omega)).mp g))]
        exact nx (fun g => hl (by have := g.1; omega))
    by_cases h144 : v = 144
    · rw [if_pos (by rw [h144]; rfl)]
      exact hend (Or.inl h144)
    · have hw := w_wc ⟨v, by omega⟩
      dsimp only at hw
      rw [if_neg (show ¬ Int32.ofNat v = (144 : Int32) from fun g => h144 ((i_eq (b := 144) (by omega) (by decide)).mp g)), if_pos ((i_inb (by omega)).mpr (by omega)), i_cl (by omega), hw.1]
      by_cases h32 : w_n v = 32
      · rw [if_pos (by rw [h32]; rfl)]
        exact hend (Or.inr h32)
      · rw [if_neg (show ¬ Int32.ofNat (w_n v) = (32 : Int32) from fun g => h32 ((i_eq (b := 32) (by omega) (by decide)).mp g)), zl_eq, i_succ]
        have hne : ¬ (v = 144 ∨ w_n v = 32) := fun g => by
          rcases g with g | g
          · exact h144 g
          · exact h32 g
        have jS : w_j (v + 1) = w_j v := if_neg hne
        have bS : w_b (v + 1) = w_b v := if_neg hne
        have := ih (v + 1) f (by omega) (by omega) (by rw [jS]; exact h)
        rw [jS, bS] at this
        exact this
theorem c_placeOfWord {o n q l : Nat} {T : Nat → Nat} {M : z_Mem} (hT : ∀ k, T k < 256) (hn : n ≤ 800) (hb : ∀ k, k < n → M.1 (o + 1) k &&& 255 = Int32.ofNat (T k)) (hq : q + l ≤ n) (hl : ∀ i, i < l → 97 ≤ T (q + i) ∧ T (q + i) ≤ 122) : F_Tokens_placeOfWord o (Int32.ofNat q) (Int32.ofNat l) M = some (w_ix T q l) := by
  obtain ⟨x, ex, hx⟩ := c_place_L (M := M) hT hn hb hq 145 0 10000 rfl (by omega) (fun j hj => absurd hj (by show ¬ j < 0; omega))
  have e : x = w_ix T q l := by
    rcases hx with ⟨j, hj, g, rfl⟩ | ⟨rfl, g⟩
    · exact (w_ix_of hj ((w_is_iff hj hl).mp g)).symm
    · exact (w_ix_no (fun j hj w => g j hj ((w_is_iff hj hl).mpr w))).symm
  rw [← e]
  exact ex
theorem x_cn_inj {T : Nat → Nat} {q q' : Nat} (h : x_st T q = true) (h' : x_st T q' = true) (e : x_cn T q = x_cn T q') : q = q' := by
  rcases Nat.lt_trichotomy q q' with g | g | g
  · have := x_cn_lt h g
    omega
  · exact g
  · have := x_cn_lt h' g
    omega
theorem x_cn_sur {T : Nat → Nat} : ∀ n i, i < x_cn T n → ∃ q, q < n ∧ x_st T q = true ∧ x_cn T q = i
  | 0, i, h => absurd h (by show ¬ i < 0; omega)
  | n + 1, i, h => by
    by_cases hi : i < x_cn T n
    · obtain ⟨q, h1, h2, h3⟩ := x_cn_sur n i hi
      exact ⟨q, by omega, h2, h3⟩
    · have h : i < x_cn T n + (if x_st T n then 1 else 0) := h
      cases hs : x_st T n with
      | false =>
        rw [hs] at h
        exact absurd h (by simpa using hi)
      | true =>
        rw [hs, if_pos rfl] at h
        exact ⟨n, by omega, hs, by omega⟩
/-- what a token is worth in the end -/
def x_va (T : Nat → Nat) (n q : Nat) : Int32 := if x_kd (T q) = 1 then w_ix T q (x_en T n q - q) else Int32.ofNat (x_vl T (x_en T n q - 1))
/-- the arrays while the words are named: those before place i are -/
def x_nam (M : z_Mem) (o : Nat) (T : Nat → Nat) (n i : Nat) : Prop := M.1 (o + 499) 7 = Int32.ofNat (x_cn T n + 1) ∧ M.1 (o + 500) (x_cn T n) = 4 ∧ M.1 (o + 501) (x_cn T n) = Int32.ofNat n ∧ ∀ q, q < n → x_st T q = true → M.1 (o + 500) (x_cn T q) = Int32.ofNat (x_kd (T q)) ∧ M.1 (o + 501) (x_cn T q) = Int32.ofNat q ∧ M.1 (o + 502) (x_cn T q) = Int32.ofNat (x_en T n q - q) ∧ M.1 (o + 503) (x_cn T q) = if x_cn T q < i then x_va T n q else Int32.ofNat (x_vl T (x_en T n q - 1))
theorem x_en_let {T : Nat → Nat} {n q : Nat} (hq : q < n) (h1 : x_kd (T q) = 1) : ∀ i, i < x_en T n q - q → 97 ≤ T (q + i) ∧ T (q + i) ≤ 122 := fun i hi =>
  x_kd_1.mp (((x_en_spec hq).2.2.1 (q + i) (by omega) (by omega)).trans h1)
theorem c_nam_L {o n : Nat} {T : Nat → Nat} (hT : ∀ k, T k < 256) (hn : n ≤ 800) : ∀ (r i f : Nat) (M : z_Mem), i + r = x_cn T n + 1 → r < f → (∀ k, k < n → M.1 (o + 1) k &&& 255 = Int32.ofNat (T k)) → x_nam M o T n i → ∃ M', F_Tokens_nameWords_L2 o f (Int32.ofNat i) M = some M' ∧ x_nam M' o T n (x_cn T n + 1) ∧ (∀ x, x ≠ o + 503 → M'.1 x = M.1 x) ∧ M'.2 = M.2 := by
  intro r
  induction r with
  | zero =>
    intro i f M hi hf hb h
    obtain ⟨f, rfl⟩ : ∃ g, f = g + 1 := ⟨f - 1, by omega⟩
    have hc := x_cn_le T n
    have hin : i = x_cn T n + 1 := by omega
    rw [hin] at h ⊢
    refine ⟨M, ?_, h, fun _ _ => rfl, rfl⟩
    unfold F_Tokens_nameWords_L2 F_Tokens_nameWords_B2
    rw [h.1, if_pos ((i_le (by omega) (by omega)).mpr (Nat.le_refl _))]
  | succ r ih =>
    intro i f M hi hf hb h
    obtain ⟨f, rfl⟩ : ∃ g, f = g + 1 := ⟨f - 1, by omega⟩
    have hc := x_cn_le T n
    have ib : z_inb (Int32.ofNat i) 801 := (i_inb (by omega)).mpr (by omega)
    have e8 : F_Tokens_nameWords_L2 o (f + 1) (Int32.ofNat i) M = F_Tokens_nameWords_B2 o (F_Tokens_nameWords_L2 o f) (Int32.ofNat i) M := rfl
    rw [e8]
    unfold F_Tokens_nameWords_B2
    rw [h.1, if_neg (i_nle (by omega) (by omega) (by omega)), if_neg (show ¬ (800 : Int32) < Int32.ofNat i from fun g => by have := (i_lt (a := 800) (by decide) (by omega)).mp g; omega)]
    simp only [if_pos ib]
    rw [i_cl (by omega)]
    by_cases hin : i < x_cn T n
    · obtain ⟨q, hq, hs, hqi⟩ := x_cn_sur n i hin
      obtain ⟨g0, g1, g2, g3⟩ := h.2.2.2 q hq hs
      rw [hqi] at g0 g1 g2
      rw [g0, g1, g2]
      have hk := x_kd_le (T q)
      by_cases h1 : x_kd (T q) = 1
      · have he := x_en_spec (T := T) hq
        rw [if_pos (by rw [h1]; rfl), zb_ok (c_placeOfWord hT hn hb (show q + (x_en T n q - q) ≤ n by omega) (x_en_let hq h1)), zl_eq, zl_eq, i_succ]
        obtain ⟨M', e', h', f1, f2⟩ := ih (i + 1) f (z_wI M (o + 503) i (w_ix T q (x_en T n q - q))) (by omega) (by omega) (fun k hk => by rw [w_addr _ (by omega)]; exact hb k hk) ⟨(w_addr _ (by omega)).trans h.1, (w_addr _ (by omega)).trans h.2.1, (w_addr _ (by omega)).trans h.2.2.1, fun q' hq' hs' => by
          obtain ⟨k0, k1, k2, k3⟩ := h.2.2.2 q' hq' hs'
          refine ⟨(w_addr _ (by omega)).trans k0, (w_addr _ (by omega)).trans k1, (w_addr _ (by omega)).trans k2, ?_⟩
          by_cases hqq : q' = q
          · rw [hqq, hqi, w_same, if_pos (by omega)]
            unfold x_va
            rw [if_pos h1]
          · have hne : x_cn T q' ≠ i := fun g => hqq (x_cn_inj hs' hs (g.trans hqi.symm))
            rw [w_slot _ hne, k3]
            by_cases g : x_cn T q' < i
            · rw [if_pos g, if_pos (by omega)]
            · rw [if_neg g, if_neg (by omega)]⟩
        exact ⟨M', e', h', fun x hx => (f1 x hx).trans (funext fun a => w_addr a hx), f2⟩
      · rw [if_neg (show ¬ Int32.ofNat (x_kd (T q)) = (1 : Int32) from fun g => h1 ((i_eq (b := 1) (by omega) (by decide)).mp g)), zl_eq, i_succ]
        refine ih (i + 1) f M (by omega) (by omega) hb ⟨h.1, h.2.1, h.2.2.1, fun q' hq' hs' => ?_⟩
        obtain ⟨k0, k1, k2, k3⟩ := h.2.2.2 q' hq' hs'
        refine ⟨k0, k1, k2, k3.trans ?_⟩
        by_cases hqq : q' = q
        · rw [hqq, hqi, if_neg (by omega), if_pos (by omega)]
          unfold x_va
          rw [if_neg h1]
        · have hne : x_cn T q' ≠ i := fun g => hqq (x_cn_inj hs' hs (g.trans hqi.symm))
          by_cases g : x_cn T q' < i
          · rw [if_pos g, if_pos (by omega)]
          · rw [if_neg g, if_neg (by omega)]
    · have hie : i = x_cn T n := by omega
      have g0 := h.2.1
      rw [← hie] at g0
      rw [g0, if_neg (by decide), zl_eq, i_succ]
      refine ih (i + 1) f M (by omega) (by omega) hb ⟨h.1, h.2.1, h.2.2.1, fun q' hq' hs' => ?_⟩
      obtain ⟨k0, k1, k2, k3⟩ := h.2.2.2 q' hq' hs'
      have hlt := x_cn_lt hs' hq'
      exact ⟨k0, k1, k2, k3.trans (by rw [if_pos (by omega), if_pos (by omega)])⟩
def x_arr (M : z_Mem) (o : Nat) (T : Nat → Nat) (n : Nat) : Prop := M.1 (o + 499) 7 = Int32.ofNat (x_cn T n + 1) ∧ M.1 (o + 500) (x_cn T n) = 4 ∧ M.1 (o + 501) (x_cn T n) = Int32.ofNat n ∧ ∀ q, q < n → x_st T q = true → M.1 (o + 500) (x_cn T q) = Int32.ofNat (x_kd (T q)) ∧ M.1 (o + 501) (x_cn T q) = Int32.ofNat q ∧ M.1 (o + 503) (x_cn T q) = x_va T n q
def x_all (M : z_Mem) (o : Nat) (T : Nat → Nat) (n q : Nat) : Prop := x_arr M o T n ∧ q ≤ n ∧ (q < n → x_st T q = true) ∧ M.1 (o + 499) 8 = Int32.ofNat (x_cn T q) ∧ M.1 (o + 499) 9 = (if q < n then Int32.ofNat (x_kd (T q)) else 4) ∧ (q < n → M.1 (o + 499) 10 = x_va T n q)
def x_nx (o : Nat) (M M' : z_Mem) : Prop := (∀ x, x ≠ o + 499 → M'.1 x = M.1 x) ∧ (∀ k, k ≠ 8 → k ≠ 9 → k ≠ 10 → M'.1 (o + 499) k = M.1 (o + 499) k) ∧ M'.2 = M.2
theorem x_arr.keep {M M' : z_Mem} {o n : Nat} {T : Nat → Nat} (h : x_arr M o T n) (h0 : M'.1 (o + 499) 7 = M.1 (o + 499) 7) (hx : ∀ x, o + 500 ≤ x → x ≤ o + 503 → M'.1 x = M.1 x) : x_arr M' o T n := by
  unfold x_arr
  rw [h0, hx (o + 500) (by omega) (by omega), hx (o + 501) (by omega) (by omega), hx (o + 503) (by omega) (by omega)]
  exact h
/-- next shows the token at its place -/
theorem c_show {o n q : Nat} {T : Nat → Nat} {M : z_Mem} (hn : n ≤ 800) (ha : x_arr M o T n) (hq : q ≤ n) (hs : q < n → x_st T q = true) (h8 : M.1 (o + 499) 8 = Int32.ofNat (x_cn T q)) : ∃ M', F_Tokens_next_J23 o M = some M' ∧ x_all M' o T n q ∧ x_nx o M M' := by
  have hc := x_cn_le T q
  have ib : z_inb (Int32.ofNat (x_cn T q)) 801 := (i_inb (by omega)).mpr (by omega)
  have e0 : M.1 (o + 500) (x_cn T q) = (if q < n then Int32.ofNat (x_kd (T q)) else 4) := by
    by_cases g : q < n
    · rw [if_pos g]
      exact (ha.2.2.2 q g (hs g)).1
    · rw [if_neg g, show q = n by omega]
      exact ha.2.1
  unfold F_Tokens_next_J23 F_Tokens_next_J45 F_Tokens_next_J64 F_Tokens_next_J85
  rw [h8, if_neg (i_nn (by omega)), if_neg (show ¬ (800 : Int32) < Int32.ofNat (x_cn T q) from fun g => by have := (i_lt (a := 800) (by decide) (by omega)).mp g; omega), if_neg (by decide), if_pos ib, i_cl (by omega), e0, zl_eq, if_neg (by decide), w_slot _ (show (8 : Nat) ≠ 9 by decide), h8, if_pos ib, i_cl (by omega), zl_eq]
  refine ⟨_, rfl, ⟨ha.keep ((w_slot _ (by decide)).trans (w_slot _ (by decide))) (fun x h1 h2 => funext fun k => (w_addr _ (by omega)).trans (w_addr _ (by omega))), hq, hs, (w_slot _ (by decide)).trans ((w_slot _ (by decide)).trans h8), (w_slot _ (by decide)).trans (w_same _ _ _ _), fun g => (w_same _ _ _ _).trans ((w_addr _ (by omega)).trans (ha.2.2.2 q g (hs g)).2.2)⟩, fun x hx => funext fun k => (w_addr _ hx).trans (w_addr _ hx), fun k h8' h9 h10 => (w_slot _ h10).trans (w_slot _ h9), rfl⟩
/-- the place behind the token at q -/
def x_to (T : Nat → Nat) (n q : Nat) : Nat := if q < n then x_sk T n (x_en T n q) else n
theorem c_next {o n q : Nat} {T : Nat → Nat} {M : z_Mem} (hn : n ≤ 800) (h : x_all M o T n q) : ∃ M', F_Tokens_next o M = some M' ∧ x_all M' o T n (x_to T n q) ∧ x_nx o M M' := by
  obtain ⟨ha, hq, hs, h8, h9, h10⟩ := h
  have hc := x_cn_le T n
  have hcq := x_cn_le T q
  unfold F_Tokens_next
  rw [ha.1, show Int32.ofNat (x_cn T n + 1) - 1 = Int32.ofNat (x_cn T n) from i_sub (a := x_cn T n + 1) (b := 1) (by omega), h8]
  by_cases g : q < n
  · have hlt := x_cn_lt (hs g) g
    obtain ⟨n1, n2, n3, n4⟩ := x_next g (hs g)
    rw [if_neg (i_nle (by omega) (by omega) (by omega)), zl_eq, i_succ]
    have et : x_to T n q = x_sk T n (x_en T n q) := if_pos g
    rw [et]
    obtain ⟨M', e, h', k1, k2, k3⟩ := c_show (M := z_wI M (o + 499) 8 (Int32.ofNat (x_cn T q + 1))) hn (ha.keep (w_slot _ (by decide)) (fun x h1 h2 => funext fun k => w_addr _ (by omega))) n4 n2 ((w_same _ _ _ _).trans (by rw [n1]))
    exact ⟨M', e, h', fun x hx => (k1 x hx).trans (funext fun k => w_addr _ hx), fun k a8 a9 a10 => (k2 k a8 a9 a10).trans (w_slot _ a8), k3⟩
  · have hqn : q = n := by omega
    rw [if_pos (by rw [hqn]; exact Int32.le_refl _)]
    have et : x_to T n q = q := by
      unfold x_to
      rw [if_neg g, hqn]
    rw [et]
    exact c_show hn ha hq hs h8
/-- the class at the start of a text -/
theorem c_begin {o n : Nat} {T : Nat → Nat} {M : z_Mem} (hT : ∀ k, T k < 256) (hn : n ≤ 800) (hb : ∀ k, k < n → M.1 (o + 1) k &&& 255 = Int32.ofNat (T k)) : ∃ M', F_Tokens_begin o (Int32.ofNat n) M = some M' ∧ x_all M' o T n (x_sk T n 0) ∧ M'.1 (o + 499) 0 = 0 ∧ M'.1 (o + 499) 1 = -1 ∧ (∀ x, (x < o + 499 ∨ o + 504 ≤ x) → M'.1 x = M.1 x) ∧ M'.2 = M.2 := by
  unfold F_Tokens_begin
  rw [zl_eq, zl_eq, zl_eq]
  obtain ⟨M1, eM⟩ : ∃ M1, M1 = z_wI (z_wI (z_wI M (o + 499) 0 0) (o + 499) 1 (-1)) (o + 499) 7 0 := ⟨_, rfl⟩
  have k1 : ∀ x, x ≠ o + 499 → M1.1 x = M.1 x := fun x hx => by rw [eM]; exact funext fun k => (w_addr _ hx).trans ((w_addr _ hx).trans (w_addr _ hx))
  have k7 : M1.1 (o + 499) 7 = 0 := by rw [eM]; exact w_same _ _ _ _
  have k0 : M1.1 (o + 499) 0 = 0 := by rw [eM]; exact (w_slot _ (by decide)).trans ((w_slot _ (by decide)).trans (w_same _ _ _ _))
  have k01 : M1.1 (o + 499) 1 = -1 := by rw [eM]; exact (w_slot _ (by decide)).trans (w_same _ _ _ _)
  have k2 : M1.2 = M.2 := by rw [eM]; rfl
  rw [← eM]
  obtain ⟨M2, f, e2, t2, c2⟩ := c_tok_L (o := o) (n := n) hT hn n 0 10000 M1 (by omega) (by omega) (fun k hk => by rw [k1 _ (by omega)]; exact hb k hk) ⟨k7, fun q hq => absurd hq (by omega)⟩
  have e2 : F_Tokens_begin_L19 o 10000 (Int32.ofNat n) 0 0 M1 = _ := e2
  rw [e2]
  have eU : F_Tokens_begin_L19 o (f + 1) (Int32.ofNat n) (Int32.ofNat (x_pv T n)) (Int32.ofNat n) M2 = F_Tokens_begin_B19 o (F_Tokens_begin_L19 o f) (Int32.ofNat n) (Int32.ofNat (x_pv T n)) (Int32.ofNat n) M2 := rfl
  rw [eU]
  generalize F_Tokens_begin_L19 o f = R
  unfold F_Tokens_begin_B19
  have hc := x_cn_le T n
  obtain ⟨M3, e3, a7, a8, ⟨b0, b1, b2, b3⟩, b4, b5, b6⟩ := c_append (k := 4) (p := n) t2.1 (by omega)
  rw [if_pos (Int32.le_refl _), zb_ok (show F_Tokens_appendToken o 4 (Int32.ofNat n) M2 = some M3 from e3)]
  have hx3 : ∀ x, (x < o + 499 ∨ o + 504 ≤ x) → M3.1 x = M.1 x := fun x hx => (b5 x hx).trans ((c2.2.1 x hx).trans (k1 x (by omega)))
  obtain ⟨M4, e4, t4, f1, f2⟩ := c_nam_L (o := o) (n := n) hT hn (x_cn T n + 1) 0 10000 M3 (by omega) (by omega) (fun k hk => by rw [hx3 _ (by omega)]; exact hb k hk) ⟨a7, b0, b1, fun q hq hs => by
    have hlt := x_cn_lt hs hq
    obtain ⟨g0, g1, g2, g3⟩ := t2.2 q hq hs
    have he := (x_en_spec (T := T) hq).2.1
    rw [Nat.min_eq_left he] at g2 g3
    exact ⟨(b4 _ _ (by omega) (by omega)).trans g0, (b4 _ _ (by omega) (by omega)).trans g1, (b4 _ _ (by omega) (by omega)).trans g2, (b4 _ _ (by omega) (by omega)).trans (g3.trans (if_neg (by omega)).symm)⟩⟩
  have e4 : F_Tokens_nameWords o M3 = some M4 := e4
  rw [zb_ok e4, zl_eq]
  have s4 : ∀ k, k ≠ 7 → M4.1 (o + 499) k = M1.1 (o + 499) k := fun k hk => by
    rw [f1 _ (by omega), a8 k hk, c2.1 k hk]
  have ar : x_arr M4 o T n := ⟨t4.1, t4.2.1, t4.2.2.1, fun q hq hs => by
    obtain ⟨g0, g1, g2, g3⟩ := t4.2.2.2 q hq hs
    have hlt := x_cn_lt hs hq
    exact ⟨g0, g1, g3.trans (if_pos (by omega))⟩⟩
  obtain ⟨q1, q2, q3, q4⟩ := x_sk_spec (T := T) (n := n) (p := 0) (by omega)
  have cz : x_cn T (x_sk T n 0) = 0 := by
    have := x_cn_same (T := T) (p := 0) (x_sk T n 0) (fun r h1 h2 => by
      have k0 := q3 r h1 (by omega)
      cases hh : x_st T r with
      | false => rfl
      | true => exact absurd k0 (x_st_iff.mp hh).1)
    rw [Nat.zero_add] at this
    exact this
  have en : F_Tokens_next o (z_wI M4 (o + 499) 8 (-1)) = F_Tokens_next_J23 o (z_wI (z_wI M4 (o + 499) 8 (-1)) (o + 499) 8 0) := by
    unfold F_Tokens_next
    rw [w_slot _ (show (7 : Nat) ≠ 8 by decide), t4.1, show Int32.ofNat (x_cn T n + 1) - 1 = Int32.ofNat (x_cn T n) from i_sub (a := x_cn T n + 1) (b := 1) (by omega), w_same, if_neg (fun g => by
      rw [Int32.le_iff_toInt_le, i_toInt (by omega)] at g
      have : ((-1 : Int32)).toInt = -1 := by decide
      omega), zl_eq]
    rfl
  obtain ⟨M5, e5, t5, n1, n2, n3⟩ := c_show (M := z_wI (z_wI M4 (o + 499) 8 (-1)) (o + 499) 8 0) (q := x_sk T n 0) hn (ar.keep ((w_slot _ (by decide)).trans (w_slot _ (by decide))) (fun x h1 h2 => funext fun k => (w_addr _ (by omega)).trans (w_addr _ (by omega)))) q2 (fun h => x_sk_st (by omega) h (Or.inl rfl)) ((w_same _ _ _ _).trans (by rw [cz]; rfl))
  rw [zb_ok (en.trans e5)]
  refine ⟨M5, rfl, t5, ?_, ?_, fun x hx => ?_, ?_⟩
  · rw [n2 0 (by decide) (by decide) (by decide), w_slot _ (by decide), w_slot _ (by decide), s4 0 (by decide), k0]
  · rw [n2 1 (by decide) (by decide) (by decide), w_slot _ (by decide), w_slot _ (by decide), s4 1 (by decide), k01]
  · rw [n1 x (by omega), ← hx3 x hx]
    rw [← f1 x (by omega)]
    exact funext fun k => (w_addr _ (by omega)).trans (w_addr _ (by omega))
  · rw [n3]
    exact f2.trans (b6.trans (c2.2.2.trans k2))
