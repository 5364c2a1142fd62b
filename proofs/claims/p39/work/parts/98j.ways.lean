/-! ===== the class's side (out of whole, by program) ===== -/
abbrev q_W : Type := Nat → Nat → Option Nat
def f_om : Option Nat → Option Nat → Option Nat
  | none, y => y
  | some x, none => some x
  | some x, some y => some (min x y)
def f_oa : Option Nat → Option Nat → Option Nat
  | some x, some y => some (x + y)
  | _, _ => none
def f_w1 (W : q_W) (k i j : Nat) : q_W := fun a b => if a = i ∧ b = j then f_om (W i j) (f_oa (W i k) (W k j)) else W a b
def f_wj (W : q_W) (k i : Nat) : Nat → q_W
  | 0 => W
  | n + 1 => f_w1 (f_wj W k i n) k i n
def f_wi (W : q_W) (k Z : Nat) : Nat → q_W
  | 0 => W
  | n + 1 => f_wj (f_wi W k Z n) k n Z
def f_st (W : q_W) (k : Nat) : q_W := fun a b => f_om (W a b) (f_oa (W a k) (W k b))
theorem f_om_self (x : Option Nat) : f_om x x = x := by
  cases x with
  | none => rfl
  | some v => show some (min v v) = some v; rw [Nat.min_self]
theorem f_oa_0 (x : Option Nat) : f_oa x (some 0) = x := by
  cases x <;> rfl
theorem f_0_oa (x : Option Nat) : f_oa (some 0) x = x := by
  cases x with
  | none => rfl
  | some v => show some (0 + v) = some v; rw [Nat.zero_add]
theorem f_st_col {W : q_W} {k : Nat} (h : W k k = some 0) (a : Nat) : f_st W k a k = W a k := by
  show f_om (W a k) (f_oa (W a k) (W k k)) = _
  rw [h, f_oa_0, f_om_self]
theorem f_st_row {W : q_W} {k : Nat} (h : W k k = some 0) (b : Nat) : f_st W k k b = W k b := by
  show f_om (W k b) (f_oa (W k k) (W k b)) = _
  rw [h, f_0_oa, f_om_self]
theorem f_wj_eq {W : q_W} {k : Nat} (h : W k k = some 0) (i : Nat) : ∀ n a b, f_wj W k i n a b = if a = i ∧ b < n then f_st W k i b else W a b
  | 0, a, b => by rw [if_neg (fun q => absurd q.2 (Nat.not_lt_zero b))]; rfl
  | n + 1, a, b => by
    show (if a = i ∧ b = n then f_om (f_wj W k i n i n) (f_oa (f_wj W k i n i k) (f_wj W k i n k n)) else f_wj W k i n a b) = _
    have e1 : f_wj W k i n i n = W i n := by rw [f_wj_eq h i n, if_neg (fun q => absurd q.2 (Nat.lt_irrefl n))]
    have e2 : f_wj W k i n i k = W i k := by
      rw [f_wj_eq h i n]
      split
      · exact f_st_col h i
      · rfl
    have e3 : f_wj W k i n k n = W k n := by rw [f_wj_eq h i n, if_neg (fun q => absurd q.2 (Nat.lt_irrefl n))]
    rw [e1, e2, e3]
    by_cases h1 : a = i ∧ b = n
    · rw [if_pos h1, if_pos ⟨h1.1, by omega⟩, h1.2]
      rfl
    · rw [if_neg h1, f_wj_eq h i n]
      by_cases h2 : a = i ∧ b < n
      · rw [if_pos h2, if_pos ⟨h2.1, by omega⟩]
      · rw [if_neg h2, if_neg (fun q => by
          rcases Nat.lt_succ_iff_lt_or_eq.mp q.2 with q2 | q2
          · exact h2 ⟨q.1, q2⟩
          · exact h1 ⟨q.1, q2⟩)]
theorem f_wi_eq {W : q_W} {k Z : Nat} (h : W k k = some 0) : ∀ n a b, f_wi W k Z n a b = if a < n ∧ b < Z then f_st W k a b else W a b
  | 0, a, b => by rw [if_neg (fun q => absurd q.1 (Nat.not_lt_zero a))]; rfl
  | n + 1, a, b => by
    have e0 : f_wi W k Z n k k = some 0 := by
      rw [f_wi_eq h n]
      split
      · rw [f_st_col h, h]
      · exact h
    show f_wj (f_wi W k Z n) k n Z a b = _
    rw [f_wj_eq e0]
    have en : ∀ b, f_wi W k Z n n b = W n b := fun b => by rw [f_wi_eq h n, if_neg (fun q => absurd q.1 (Nat.lt_irrefl n))]
    have ek : ∀ b, f_wi W k Z n k b = W k b := fun b => by
      rw [f_wi_eq h n]
      split
      · exact f_st_row h b
      · rfl
    by_cases h1 : a = n ∧ b < Z
    · rw [if_pos h1, if_pos ⟨by omega, h1.2⟩, h1.1]
      show f_om (f_wi W k Z n n b) (f_oa (f_wi W k Z n n k) (f_wi W k Z n k b)) = _
      rw [en, en, ek]
      rfl
    · rw [if_neg h1, f_wi_eq h n]
      by_cases h2 : a < n ∧ b < Z
      · rw [if_pos h2, if_pos ⟨by omega, h2.2⟩]
      · rw [if_neg h2, if_neg (fun q => by
          rcases Nat.lt_succ_iff_lt_or_eq.mp q.1 with q2 | q2
          · exact h2 ⟨q2, q.2⟩
          · exact h1 ⟨q2, q.2⟩)]
/-- ways of Z zones: nothing leads out of them; a zone has no way to itself but 0; no way beyond B -/
def f_ok (Z B : Nat) (W : q_W) : Prop := (∀ a, W a a = some 0) ∧ (∀ a b, a ≠ b → Z ≤ a ∨ Z ≤ b → W a b = none) ∧ ∀ a b v, W a b = some v → v ≤ B
theorem f_st_ok {Z B k : Nat} {W : q_W} (h : f_ok Z B W) : f_ok Z (2 * B) (f_st W k) ∧ (Z ≤ k → f_st W k = W) := by
  have hk : ∀ a b, a ≠ b → Z ≤ a ∨ Z ≤ b → f_oa (W a k) (W k b) = none := fun a b hab hz => by
    rcases hz with hz | hz
    · by_cases hak : a = k
      · subst hak
        rw [h.1 a, f_0_oa, h.2.1 a b hab (Or.inl hz)]
      · rw [h.2.1 a k hak (Or.inl hz)]
        rfl
    · by_cases hkb : k = b
      · subst hkb
        rw [h.1 k, f_oa_0, h.2.1 a k hab (Or.inr hz)]
      · rw [h.2.1 k b hkb (Or.inr hz)]
        cases W a k <;> rfl
  refine ⟨⟨fun a => ?_, fun a b hab hz => ?_, fun a b v hv => ?_⟩, fun hZ => funext fun a => funext fun b => ?_⟩
  · show f_om (W a a) _ = _
    rw [h.1 a]
    cases f_oa (W a k) (W k a) with
    | none => rfl
    | some y => show some (min 0 y) = some 0; rw [Nat.zero_min]
  · show f_om (W a b) (f_oa (W a k) (W k b)) = none
    rw [hk a b hab hz, h.2.1 a b hab hz]
    rfl
  · have hv : f_om (W a b) (f_oa (W a k) (W k b)) = some v := hv
    cases e1 : W a b with
    | some x =>
      have hx := h.2.2 a b x e1
      rw [e1] at hv
      cases e2 : f_oa (W a k) (W k b) with
      | none =>
        rw [e2] at hv
        have : some x = some v := hv
        cases this
        omega
      | some y =>
        rw [e2] at hv
        have : some (min x y) = some v := hv
        cases this
        omega
    | none =>
      rw [e1] at hv
      have hv : f_oa (W a k) (W k b) = some v := hv
      cases e2 : W a k with
      | none => rw [e2] at hv; cases hv
      | some x =>
        cases e3 : W k b with
        | none => rw [e2, e3] at hv; cases hv
        | some y =>
          rw [e2, e3] at hv
          have : some (x + y) = some v := hv
          cases this
          have := h.2.2 a k x e2
          have := h.2.2 k b y e3
          omega
  · show f_om (W a b) (f_oa (W a k) (W k b)) = W a b
    by_cases hak : a = k
    · subst hak
      rw [h.1 a, f_0_oa, f_om_self]
    · rw [h.2.1 a k hak (Or.inr hZ)]
      cases W a b <;> rfl
/-- no way is longer than by one of the first k zones -/
def f_cl (k : Nat) (W : q_W) : Prop := ∀ m, m < k → ∀ a b v w, W a m = some v → W m b = some w → ∃ u, W a b = some u ∧ u ≤ v + w
theorem f_om_le {x y : Option Nat} {v : Nat} (h : x = some v ∨ y = some v) : ∃ u, f_om x y = some u ∧ u ≤ v := by
  rcases h with h | h
  · subst h
    cases y with
    | none => exact ⟨v, rfl, Nat.le_refl _⟩
    | some y => exact ⟨min v y, rfl, Nat.min_le_left _ _⟩
  · subst h
    cases x with
    | none => exact ⟨v, rfl, Nat.le_refl _⟩
    | some x => exact ⟨min x v, rfl, Nat.min_le_right _ _⟩
theorem f_om_get {x y : Option Nat} {v : Nat} (h : f_om x y = some v) : x = some v ∨ y = some v := by
  cases x with
  | none => exact Or.inr h
  | some x =>
    cases y with
    | none => exact Or.inl h
    | some y =>
      have h : some (min x y) = some v := h
      rcases Nat.le_total x y with q | q
      · rw [Nat.min_eq_left q] at h
        exact Or.inl h
      · rw [Nat.min_eq_right q] at h
        exact Or.inr h
theorem f_oa_get {x y : Option Nat} {v : Nat} (h : f_oa x y = some v) : ∃ p q, x = some p ∧ y = some q ∧ v = p + q := by
  cases x with
  | none => cases h
  | some p =>
    cases y with
    | none => cases h
    | some q =>
      have h : some (p + q) = some v := h
      cases h
      exact ⟨p, q, rfl, rfl, rfl⟩
theorem f_st_le {W : q_W} {k a b v : Nat} (h : W a b = some v ∨ ∃ p q, W a k = some p ∧ W k b = some q ∧ p + q = v) : ∃ u, f_st W k a b = some u ∧ u ≤ v := by
  rcases h with h | ⟨p, q, h1, h2, h3⟩
  · exact f_om_le (Or.inl h)
  · exact f_om_le (Or.inr (by rw [h1, h2, ← h3]; rfl))
theorem f_st_cl {Z B k : Nat} {W : q_W} (h : f_ok Z B W) (hc : f_cl k W) : f_cl (k + 1) (f_st W k) := by
  have get : ∀ {a b v}, f_st W k a b = some v → W a b = some v ∨ ∃ p q, W a k = some p ∧ W k b = some q ∧ v = p + q := fun {a b v} hv => by
    rcases f_om_get hv with q | q
    · exact Or.inl q
    · exact Or.inr (f_oa_get q)
  have le : ∀ {a b v w}, f_st W k a b = some v → v ≤ w → ∃ u, f_st W k a b = some u ∧ u ≤ w := fun {a b v w} h1 h2 => ⟨v, h1, h2⟩
  have via : ∀ {a b p q w}, W a k = some p → W k b = some q → p + q ≤ w → ∃ u, f_st W k a b = some u ∧ u ≤ w := fun {a b p q w} h1 h2 h3 => by
    obtain ⟨u, e, l⟩ := f_st_le (Or.inr ⟨p, q, h1, h2, rfl⟩)
    exact ⟨u, e, Nat.le_trans l h3⟩
  intro m hm a b v w hv hw
  by_cases hmk : m = k
  · subst hmk
    rw [f_st_col (h.1 m)] at hv
    rw [f_st_row (h.1 m)] at hw
    exact via hv hw (Nat.le_refl _)
  · have hmk : m < k := by omega
    rcases get hv with hv | ⟨p, q, h1, h2, rfl⟩
    · rcases get hw with hw | ⟨p', q', g1, g2, rfl⟩
      · obtain ⟨u, e, l⟩ := hc m hmk a b v w hv hw
        obtain ⟨u', e', l'⟩ := f_st_le (k := k) (Or.inl e)
        exact ⟨u', e', Nat.le_trans l' l⟩
      · obtain ⟨u, e, l⟩ := hc m hmk a k v p' hv g1
        exact via e g2 (by omega)
    · rcases get hw with hw | ⟨p', q', g1, g2, rfl⟩
      · obtain ⟨u, e, l⟩ := hc m hmk k b q w h2 hw
        exact via h1 e (by omega)
      · exact via h1 g2 (by omega)
theorem f_wi_all {Z B k Y : Nat} {W : q_W} (h : f_ok Z B W) (hY : Z ≤ Y) : f_wi W k Y Y = f_st W k := funext fun a => funext fun b => by
  rw [f_wi_eq (h.1 k)]
  split
  · rfl
  · rename_i hn
    by_cases hab : a = b
    · subst hab
      rw [h.1 a, (f_st_ok (k := k) h).1.1 a]
    · rw [h.2.1 a b hab (by omega), (f_st_ok (k := k) h).1.2.1 a b hab (by omega)]
def f_sts (W : q_W) : Nat → q_W
  | 0 => W
  | n + 1 => f_st (f_sts W n) n
theorem f_sts_ok {Z B : Nat} {W : q_W} (h : f_ok Z B W) : ∀ n, f_ok Z (B * 2 ^ n) (f_sts W n) ∧ f_cl n (f_sts W n)
  | 0 => ⟨by rw [Nat.pow_zero, Nat.mul_one]; exact h, fun m hm => absurd hm (Nat.not_lt_zero m)⟩
  | n + 1 => by
    obtain ⟨h1, h2⟩ := f_sts_ok h n
    refine ⟨?_, f_st_cl h1 h2⟩
    rw [show B * 2 ^ (n + 1) = 2 * (B * 2 ^ n) by rw [Nat.pow_succ, ← Nat.mul_assoc, Nat.mul_comm]]
    exact (f_st_ok h1).1
theorem f_sts_end {Z B : Nat} {W : q_W} (h : f_ok Z B W) : ∀ n, f_sts W (Z + n) = f_sts W Z
  | 0 => rfl
  | n + 1 => by
    show f_st (f_sts W (Z + n)) (Z + n) = _
    rw [(f_st_ok (k := Z + n) (f_sts_ok h (Z + n)).1).2 (by omega)]
    exact f_sts_end h n
def q_mat (M : z_Mem) (x : Nat) (W : q_W) : Prop := ∀ a b, a < 8 → b < 8 → M.1 x (8 * a + b) = q_oi (W a b)
theorem q_oi_lt {x : Option Nat} (h : ∀ v, x = some v → v ≤ 2 ^ 20) : (q_oi x < 0 ↔ x = none) ∧ (q_oi x = -1 ↔ x = none) := by
  cases x with
  | none => exact ⟨⟨fun _ => rfl, fun _ => (by decide : (-1 : Int32) < 0)⟩, ⟨fun _ => rfl, fun _ => rfl⟩⟩
  | some v =>
    have := h v rfl
    have hn : ¬ Int32.ofNat v < 0 := i_nn (by omega)
    refine ⟨⟨fun q => absurd q hn, fun q => by cases q⟩, ⟨fun q => ?_, fun q => by cases q⟩⟩
    have q : Int32.ofNat v = -1 := q
    rw [q] at hn
    exact absurd (by decide) hn
theorem q_mat_w {M : z_Mem} {x k i j : Nat} {V : q_W} {v : Int32} (h : q_mat M x V) (hi : i < 8) (hj : j < 8) (hv : v = q_oi (f_om (V i j) (f_oa (V i k) (V k j)))) : q_mat (z_wI M x (8 * i + j) v) x (f_w1 V k i j) := fun a b ha hb => by
  show _ = q_oi (if a = i ∧ b = j then f_om (V i j) (f_oa (V i k) (V k j)) else V a b)
  by_cases hab : a = i ∧ b = j
  · rw [if_pos hab, hab.1, hab.2, w_same, hv]
  · rw [if_neg hab, w_slot _ (by omega)]
    exact h a b ha hb
theorem q_mat_s {M : z_Mem} {x k i j : Nat} {V : q_W} (h : q_mat M x V) (hv : f_om (V i j) (f_oa (V i k) (V k j)) = V i j) : q_mat M x (f_w1 V k i j) := fun a b ha hb => by
  show _ = q_oi (if a = i ∧ b = j then f_om (V i j) (f_oa (V i k) (V k j)) else V a b)
  by_cases hab : a = i ∧ b = j
  · rw [if_pos hab, hv, hab.1, hab.2]
    exact h i j (hab.1 ▸ ha) (hab.2 ▸ hb)
  · rw [if_neg hab]
    exact h a b ha hb
theorem f_om_none (x : Option Nat) : f_om x none = x := by cases x <;> rfl
/-- the class shortens one way -/
theorem c_shorten {a k i j : Nat} {M : z_Mem} {V : q_W} (h : q_mat M (a + 1) V) (hk : k < 8) (hi : i < 8) (hj : j < 8) (hB : ∀ a b v, V a b = some v → v ≤ 2 ^ 20) : ∃ M', F_Town_shorten a (Int32.ofNat i) (Int32.ofNat j) (Int32.ofNat k) M = some M' ∧ q_mat M' (a + 1) (f_w1 V k i j) ∧ (∀ x, x ≠ a + 1 → M'.1 x = M.1 x) ∧ M'.2 = M.2 := by
  have pl : ∀ p q, p < 8 → q < 8 → F_Town_hasPlaces (Int32.ofNat p) (Int32.ofNat q) M = some 1 := fun p q hp hq => by
    unfold F_Town_hasPlaces
    rw [if_neg (i_nn (by omega)), if_neg (show ¬ (8 : Int32) ≤ Int32.ofNat p from i_nle (a := 8) (by decide) (by omega) hp), if_neg (i_nn (by omega)), if_neg (show ¬ (8 : Int32) ≤ Int32.ofNat q from i_nle (a := 8) (by decide) (by omega) hq)]
  have ix : ∀ p q, p < 8 → q < 8 → Int32.ofNat p * 8 + Int32.ofNat q = Int32.ofNat (8 * p + q) := fun p q _ _ => by
    rw [show (8 : Int32) = Int32.ofNat 8 from rfl, i_mul, i_add, Nat.mul_comm]
  have way : ∀ p q, p < 8 → q < 8 → F_Town_wayMinutes a (Int32.ofNat p) (Int32.ofNat q) M = some (q_oi (V p q)) := fun p q hp hq => by
    unfold F_Town_wayMinutes
    rw [zb_ok (pl p q hp hq), if_neg (by decide), ix p q hp hq, if_pos ((i_inb (by omega)).mpr (by omega)), i_cl (by omega), h p q hp hq]
  have key : ∀ x y : Nat, V i k = some x → V k j = some y → f_om (V i j) (f_oa (V i k) (V k j)) = some (x + y) → ∃ M', F_Town_shorten_J61 a (Int32.ofNat i) (Int32.ofNat j) (q_oi (some x)) (q_oi (some y)) M = some M' ∧ q_mat M' (a + 1) (f_w1 V k i j) ∧ (∀ x, x ≠ a + 1 → M'.1 x = M.1 x) ∧ M'.2 = M.2 := fun x y h1 h2 h3 => by
    unfold F_Town_shorten_J61
    rw [ix i j hi hj, if_pos ((i_inb (by omega)).mpr (by omega)), i_cl (by omega)]
    refine ⟨_, rfl, q_mat_w h hi hj ?_, fun x hx => funext fun k => w_addr k hx, rfl⟩
    rw [h3]
    exact i_add x y
  unfold F_Town_shorten
  rw [zb_ok (way i k hi hk), zb_ok (way k j hk hj)]
  cases h1 : V i k with
  | none =>
    rw [if_pos (show q_oi none = -1 from rfl)]
    exact ⟨M, rfl, q_mat_s h (by rw [h1]; exact f_om_none _), fun _ _ => rfl, rfl⟩
  | some x =>
    have hx := hB i k x h1
    rw [if_neg (fun q => by have := (q_oi_lt (x := some x) (fun v e => by cases e; exact hx)).2.mp q; cases this)]
    cases h2 : V k j with
    | none =>
      rw [if_pos (show q_oi none = -1 from rfl)]
      exact ⟨M, rfl, q_mat_s h (by rw [h1, h2]; exact f_om_none _), fun _ _ => rfl, rfl⟩
    | some y =>
      have hy := hB k j y h2
      rw [if_neg (fun q => by have := (q_oi_lt (x := some y) (fun v e => by cases e; exact hy)).2.mp q; cases this), zb_ok (pl i j hi hj), if_neg (by decide), zb_ok (way i j hi hj)]
      cases h3 : V i j with
      | none =>
        rw [if_pos (show q_oi none = -1 from rfl)]
        exact key x y h1 h2 (by rw [h1, h2, h3]; rfl)
      | some z =>
        have hz := hB i j z h3
        rw [if_neg (fun q => by have := (q_oi_lt (x := some z) (fun v e => by cases e; exact hz)).2.mp q; cases this)]
        have es : q_oi (some x) + q_oi (some y) = Int32.ofNat (x + y) := i_add x y
        rw [es]
        by_cases hl : z ≤ x + y
        · rw [if_pos (show q_oi (some z) ≤ Int32.ofNat (x + y) from (i_le (by omega) (by omega)).mpr hl)]
          exact ⟨M, rfl, q_mat_s h (by rw [h1, h2, h3]; show some (min z (x + y)) = some z; rw [Nat.min_eq_left hl]), fun _ _ => rfl, rfl⟩
        · rw [if_neg (show ¬ q_oi (some z) ≤ Int32.ofNat (x + y) from i_nle (by omega) (by omega) (by omega))]
          exact key x y h1 h2 (by rw [h1, h2, h3]; show some (min z (x + y)) = some (x + y); rw [Nat.min_eq_right (by omega)])
theorem f_wi_bd {Z B k Y : Nat} {W : q_W} (h : f_ok Z B W) (i n : Nat) : f_wi W k Y i k k = some 0 ∧ ∀ a b v, f_wj (f_wi W k Y i) k i n a b = some v → v ≤ 4 * B := by
  have h0 : f_wi W k Y i k k = some 0 := by
    rw [f_wi_eq (h.1 k)]
    split
    · exact (f_st_ok (k := k) h).1.1 k
    · exact h.1 k
  have hb : ∀ a b v, f_wi W k Y i a b = some v → v ≤ 2 * B := fun a b v hv => by
    rw [f_wi_eq (h.1 k)] at hv
    split at hv
    · exact (f_st_ok (k := k) h).1.2.2 _ _ _ hv
    · have := h.2.2 _ _ _ hv
      omega
  refine ⟨h0, fun a b v hv => ?_⟩
  rw [f_wj_eq h0] at hv
  split at hv
  · rcases f_om_get hv with q | q
    · have := hb _ _ _ q
      omega
    · obtain ⟨x, y, e1, e2, rfl⟩ := f_oa_get q
      have := hb _ _ _ e1
      have := hb _ _ _ e2
      omega
  · have := hb _ _ _ hv
    omega
theorem c_ways_j {a k i : Nat} {V : q_W} {rec2 : Int32 → z_Mem → Option z_Mem} {rec10 : Int32 → Int32 → z_Mem → Option z_Mem} (hk : k < 8) (hi : i < 8) (hB : ∀ n a b v, f_wj V k i n a b = some v → v ≤ 2 ^ 20) : ∀ (r j f : Nat) (M : z_Mem), j + r = 8 → r < f → q_mat M (a + 1) (f_wj V k i j) → ∃ M', F_Town_findWays_L18 a rec2 rec10 f (Int32.ofNat k) (Int32.ofNat i) (Int32.ofNat j) M = rec10 (Int32.ofNat k) (Int32.ofNat (i + 1)) M' ∧ q_mat M' (a + 1) (f_wj V k i 8) ∧ (∀ x, x ≠ a + 1 → M'.1 x = M.1 x) ∧ M'.2 = M.2 := by
  intro r
  induction r with
  | zero =>
    intro j f M hj hf h
    obtain ⟨f, rfl⟩ : ∃ g, f = g + 1 := ⟨f - 1, by omega⟩
    obtain rfl : j = 8 := by omega
    unfold F_Town_findWays_L18 F_Town_findWays_B18
    rw [if_pos (by decide)]
    simp only [zl]
    rw [i_succ]
    exact ⟨M, rfl, h, fun _ _ => rfl, rfl⟩
  | succ r ih =>
    intro j f M hj hf h
    obtain ⟨f, rfl⟩ : ∃ g, f = g + 1 := ⟨f - 1, by omega⟩
    obtain ⟨M1, e1, h1, k1, s1⟩ := c_shorten (j := j) h hk hi (by omega) (hB j)
    obtain ⟨M', e, h', k', s'⟩ := ih (j + 1) f M1 (by omega) (by omega) h1
    refine ⟨M', ?_, h', fun x hx => (k' x hx).trans (k1 x hx), s'.trans s1⟩
    unfold F_Town_findWays_L18 F_Town_findWays_B18
    rw [if_neg (show ¬ (8 : Int32) ≤ Int32.ofNat j from i_nle (a := 8) (by decide) (by omega) (by omega)), zb_ok e1]
    simp only [zl]
    rw [i_succ]
    exact e
theorem c_ways_i {a k Z B : Nat} {W : q_W} {rec2 : Int32 → z_Mem → Option z_Mem} (hk : k < 8) (hW : f_ok Z B W) (hB : 4 * B ≤ 2 ^ 20) : ∀ (r i f : Nat) (M : z_Mem), i + r = 8 → r < f → q_mat M (a + 1) (f_wi W k 8 i) → ∃ M', F_Town_findWays_L10 a rec2 f (Int32.ofNat k) (Int32.ofNat i) M = rec2 (Int32.ofNat (k + 1)) M' ∧ q_mat M' (a + 1) (f_wi W k 8 8) ∧ (∀ x, x ≠ a + 1 → M'.1 x = M.1 x) ∧ M'.2 = M.2 := by
  intro r
  induction r with
  | zero =>
    intro i f M hi hf h
    obtain ⟨f, rfl⟩ : ∃ g, f = g + 1 := ⟨f - 1, by omega⟩
    obtain rfl : i = 8 := by omega
    unfold F_Town_findWays_L10 F_Town_findWays_B10
    rw [if_pos (by decide)]
    simp only [zl]
    rw [i_succ]
    exact ⟨M, rfl, h, fun _ _ => rfl, rfl⟩
  | succ r ih =>
    intro i f M hi hf h
    obtain ⟨f, rfl⟩ : ∃ g, f = g + 1 := ⟨f - 1, by omega⟩
    obtain ⟨M1, e1, h1, k1, s1⟩ := c_ways_j (a := a) (rec2 := rec2) (rec10 := F_Town_findWays_L10 a rec2 f) (V := f_wi W k 8 i) hk (show i < 8 by omega) (fun n a b v hv => Nat.le_trans ((f_wi_bd hW i n).2 a b v hv) hB) 8 0 10000 M (by omega) (by omega) h
    obtain ⟨M', e, h', k', s'⟩ := ih (i + 1) f M1 (by omega) (by omega) h1
    refine ⟨M', ?_, h', fun x hx => (k' x hx).trans (k1 x hx), s'.trans s1⟩
    unfold F_Town_findWays_L10 F_Town_findWays_B10
    rw [if_neg (show ¬ (8 : Int32) ≤ Int32.ofNat i from i_nle (a := 8) (by decide) (by omega) (by omega))]
    exact e1.trans e
theorem c_ways_k {a Z B : Nat} {W : q_W} (hZ : Z ≤ 8) (hW : f_ok Z B W) (hB : B ≤ 99) : ∀ (r k f : Nat) (M : z_Mem), k + r = 8 → r < f → q_mat M (a + 1) (f_sts W k) → ∃ M', F_Town_findWays_L2 a f (Int32.ofNat k) M = some M' ∧ q_mat M' (a + 1) (f_sts W 8) ∧ (∀ x, x ≠ a + 1 → M'.1 x = M.1 x) ∧ M'.2 = M.2 := by
  intro r
  induction r with
  | zero =>
    intro k f M hi hf h
    obtain ⟨f, rfl⟩ : ∃ g, f = g + 1 := ⟨f - 1, by omega⟩
    obtain rfl : k = 8 := by omega
    unfold F_Town_findWays_L2 F_Town_findWays_B2
    rw [if_pos (by decide)]
    exact ⟨M, rfl, h, fun _ _ => rfl, rfl⟩
  | succ r ih =>
    intro k f M hi hf h
    obtain ⟨f, rfl⟩ : ∃ g, f = g + 1 := ⟨f - 1, by omega⟩
    have hs := (f_sts_ok hW k).1
    have hp : B * 2 ^ k ≤ 99 * 2 ^ 8 := Nat.mul_le_mul hB (Nat.pow_le_pow_right (by omega) (by omega))
    obtain ⟨M1, e1, h1, k1, s1⟩ := c_ways_i (a := a) (rec2 := F_Town_findWays_L2 a f) (k := k) (by omega) hs (by omega) 8 0 10000 M (by omega) (by omega) h
    rw [f_wi_all hs hZ] at h1
    obtain ⟨M', e, h', k', s'⟩ := ih (k + 1) f M1 (by omega) (by omega) h1
    refine ⟨M', ?_, h', fun x hx => (k' x hx).trans (k1 x hx), s'.trans s1⟩
    unfold F_Town_findWays_L2 F_Town_findWays_B2
    rw [if_neg (show ¬ (8 : Int32) ≤ Int32.ofNat k from i_nle (a := 8) (by decide) (by omega) (by omega))]
    exact e1.trans e
theorem c_findWays {a Z B : Nat} {W : q_W} {M : z_Mem} (hZ : Z ≤ 8) (hW : f_ok Z B W) (hB : B ≤ 99) (h : q_mat M (a + 1) W) : ∃ M', F_Town_findWays a M = some M' ∧ q_mat M' (a + 1) (f_sts W 8) ∧ (∀ x, x ≠ a + 1 → M'.1 x = M.1 x) ∧ M'.2 = M.2 :=
  c_ways_k hZ hW hB 8 0 10000 M (by omega) (by omega) h
theorem f_sts_J {Z B : Nat} {W : q_W} {c : q_R} (hZ : Z ≤ 8) (hW : f_ok Z B W) (hB : B ≤ 99) (h : ∀ a b, a < 8 → b < 8 → c (8 * a + b) = q_oi (f_sts W 8 a b)) : q_conJ c := by
  obtain ⟨h1, h2⟩ := f_sts_ok hW 8
  refine ⟨f_sts W 8, h, fun a b w _ _ e => ?_, fun a b d v w _ hb _ e1 e2 => h2 b hb a d v w e1 e2⟩
  have := h1.2.2 a b w e
  have hp : B * 2 ^ 8 ≤ 99 * 2 ^ 8 := Nat.mul_le_mul_right _ hB
  omega
