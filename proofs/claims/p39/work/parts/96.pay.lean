/-! ===== the class's side (out of whole, by program) ===== -/
theorem f_sh_at {amt : Int32} {n : Nat} : ∀ (L : List Nat) (i j0 : Nat), L.Nodup → i < L.length → f_sh amt n (g_l L i) L j0 = f_part amt n (j0 + i)
  | [], i, _, _, h => absurd h (Nat.not_lt_zero i)
  | u :: L, 0, j0, _, _ => by
    show (if u = u then _ else _) = _
    rw [if_pos rfl]
    rfl
  | u :: L, i + 1, j0, hn, h => by
    rw [List.nodup_cons] at hn
    have hi : i < L.length := by rw [List.length_cons] at h; omega
    have e : g_l (u :: L) (i + 1) = g_l L i := rfl
    rw [e]
    show (if u = g_l L i then _ else _) = _
    rw [if_neg (fun q => hn.1 (by rw [q]; exact g_l_mem hi)), f_sh_at L i (j0 + 1) hn.2 hi, show j0 + 1 + i = j0 + (i + 1) by omega]
/-- what the first of them pay together -/
def f_parts (amt : Int32) (n : Nat) : Nat → Int32
  | 0 => 0
  | j + 1 => f_parts amt n j + f_part amt n j
theorem f_parts_N {a n : Nat} (ha : a < 2 ^ 30) (hn : 1 ≤ n) (hn7 : n ≤ 7) : ∀ j, j ≤ n → f_parts (Int32.ofNat a) n j = Int32.ofNat (j * (a / n) + min j (a % n)) := by
  intro j
  induction j with
  | zero =>
    intro _
    rw [Nat.zero_mul, Nat.zero_add, Nat.min_eq_left (Nat.zero_le _)]
    rfl
  | succ j ih =>
    intro hj
    have hq : a / n ≤ a := Nat.div_le_self a n
    have hm : n * (a / n) + a % n = a := Nat.div_add_mod a n
    have hr : a % n < n := Nat.mod_lt _ (by omega)
    show f_parts (Int32.ofNat a) n j + f_part (Int32.ofNat a) n j = _
    rw [ih (by omega)]
    unfold f_part
    rw [i_div (by omega) (by omega), i_mul, i_sub (by rw [Nat.mul_comm]; omega), show a - a / n * n = a % n by rw [Nat.mul_comm (a / n)]; omega, Nat.add_mul, Nat.one_mul]
    by_cases hjr : a % n ≤ j
    · rw [if_pos ((i_le (by omega) (by omega)).mpr hjr), Int32.add_zero, i_add]
      congr 1
      omega
    · rw [if_neg (fun q => hjr ((i_le (by omega) (by omega)).mp q)), show (1 : Int32) = Int32.ofNat 1 from rfl, i_add, i_add]
      congr 1
      omega
theorem f_parts_all {a n : Nat} (ha : a < 2 ^ 30) (hn : 1 ≤ n) (hn7 : n ≤ 7) : f_parts (Int32.ofNat a) n n = Int32.ofNat a := by
  rw [f_parts_N ha hn hn7 n (Nat.le_refl _)]
  have hm : n * (a / n) + a % n = a := Nat.div_add_mod a n
  have hr : a % n < n := Nat.mod_lt _ (by omega)
  congr 1
  omega
theorem i_big {x : Nat} (h1 : 2147483648 ≤ x) (h2 : x ≤ 2278679040) : ∃ y : Nat, y = 4294967296 - x ∧ (Int32.ofNat x).toInt = - (y : Int) := by
  refine ⟨4294967296 - x, rfl, ?_⟩
  have h3 : (Int32.ofNat x).toInt = (x : Int).bmod 4294967296 := Int32.toInt_ofNat
  rw [h3, Int.bmod_def]
  have e : ((x : Int) % ((4294967296 : Nat) : Int)) = x := Int.emod_eq_of_lt (by omega) (by omega)
  rw [e, if_neg (by omega)]
  omega
theorem i_neg100 (y : Nat) : (-(y : Int)).tdiv 100 = - ((y / 100 : Nat) : Int) := by
  rw [Int.neg_tdiv]
  rfl
theorem f_amt_N {A : q_R} {w n : Nat} (hs : q_scaJ A) (hw : w ≤ 25344) : ∃ a, a < 2 ^ 30 ∧ f_amt A (Int32.ofNat w) n = Int32.ofNat a := by
  obtain ⟨⟨rt, hrt, ert⟩, hd⟩ := hs
  have hdisc : ∃ d, d ≤ 90 ∧ f_disc A n = Int32.ofNat d := by
    unfold f_disc
    by_cases h2 : n < 2
    · rw [if_pos h2]
      exact ⟨0, by omega, rfl⟩
    · rw [if_neg h2]
      by_cases h4 : n < 4
      · obtain ⟨d, h1, e⟩ := hd (n - 2) (by omega)
        rw [if_pos h4]
        exact ⟨d, h1, by rw [show 8 + n = 10 + (n - 2) by omega]; exact e⟩
      · obtain ⟨d, h1, e⟩ := hd 2 (by omega)
        rw [if_neg h4]
        exact ⟨d, h1, e⟩
  obtain ⟨d, hd90, ed⟩ := hdisc
  have hp : w * rt ≤ 25344 * 999 := Nat.mul_le_mul hw hrt
  have hpd : w * rt * d ≤ 25344 * 999 * 90 := Nat.mul_le_mul hp hd90
  unfold f_amt
  rw [ert, ed, i_mul, i_mul]
  generalize w * rt = p at hp hpd
  generalize hx : p * d = x at hpd
  have hxp : x ≤ p * 90 := by rw [← hx]; exact Nat.mul_le_mul (Nat.le_refl _) hd90
  have e100 : (100 : Int32).toInt = 100 := rfl
  have ep : (Int32.ofNat p).toInt = p := i_toInt (by omega)
  -- the quotient
  have hq : ∃ q : Int, (Int32.ofNat x / 100).toInt = q ∧ q ≤ p ∧ -30000000 ≤ q := by
    by_cases hsm : x < 2 ^ 31
    · refine ⟨((x / 100 : Nat) : Int), ?_, by omega, by omega⟩
      have : Int32.ofNat x / 100 = Int32.ofNat (x / 100) := i_div (b := 100) hsm (by decide)
      rw [this, i_toInt (by omega)]
    · obtain ⟨y, hy, ey⟩ := i_big (x := x) (by omega) (by omega)
      refine ⟨-((y / 100 : Nat) : Int), ?_, by omega, by omega⟩
      rw [Int32.toInt_div, ey, e100, i_neg100]
      exact Int.bmod_eq_of_le (by omega) (by omega)
  obtain ⟨q, eq, q1, q2⟩ := hq
  refine ⟨((p : Int) - q).toNat, by omega, ?_⟩
  apply Int32.toInt_inj.mp
  rw [Int32.toInt_sub, ep, eq, i_toInt (by omega)]
  rw [Int.bmod_eq_of_le (by omega) (by omega)]
  omega
/-- the first of them have paid -/
def q_pd (A : q_R) (amt : Int32) (n : Nat) (L : List Nat) (i : Nat) : q_R := fun k => if 183 ≤ k ∧ (k - 183) % 17 = 0 ∧ (k - 183) / 17 ∈ L.take i then A k + f_sh amt n ((k - 183) / 17) L 0 else A k
theorem q_pd_0 {A : q_R} {amt : Int32} {n : Nat} {L : List Nat} : q_pd A amt n L 0 = A := funext fun k => if_neg (fun q => by have := q.2.2; rw [List.take_zero] at this; cases this)
theorem q_pd_out {A : q_R} {amt : Int32} {n : Nat} {L : List Nat} {i k : Nat} (h : k < 173 ∨ ∀ r, k ≠ 183 + 17 * r) : q_pd A amt n L i k = A k := if_neg (fun q => by
  rcases h with h | h
  · omega
  · exact h ((k - 183) / 17) (by omega))
theorem q_pd_ride {A : q_R} {amt : Int32} {n : Nat} {L : List Nat} {i r : Nat} : q_pd A amt n L i (183 + 17 * r) = if r ∈ L.take i then A (183 + 17 * r) + f_sh amt n r L 0 else A (183 + 17 * r) := by
  unfold q_pd
  have e : (183 + 17 * r - 183) / 17 = r := by omega
  rw [e]
  by_cases h : r ∈ L.take i
  · rw [if_pos ⟨by omega, by omega, h⟩, if_pos h]
  · rw [if_neg (fun q => h q.2.2), if_neg h]
theorem g_nodup_take {L : List Nat} {i : Nat} (hn : L.Nodup) (hi : i < L.length) : g_l L i ∉ L.take i := fun q => by
  have e := g_take hi
  have h2 : (L.take (i + 1)).Nodup := hn.sublist (List.take_sublist _ _)
  rw [e, List.nodup_append] at h2
  exact h2.2.2 _ q _ (List.mem_singleton.mpr rfl) rfl
theorem q_pd_step {A : q_R} {amt : Int32} {n : Nat} {L : List Nat} {i : Nat} (hn : L.Nodup) (hi : i < L.length) : q_w (q_pd A amt n L i) (183 + 17 * g_l L i) (A (183 + 17 * g_l L i) + f_part amt n i) = q_pd A amt n L (i + 1) := funext fun k => by
  by_cases hk : k = 183 + 17 * g_l L i
  · subst hk
    rw [q_w_same, q_pd_ride, if_pos (by rw [g_take hi]; exact List.mem_append.mpr (Or.inr (List.mem_singleton.mpr rfl))), f_sh_at L i 0 hn hi, Nat.zero_add]
  · rw [q_w_ne hk]
    unfold q_pd
    by_cases h : 183 ≤ k ∧ (k - 183) % 17 = 0
    · have hne : (k - 183) / 17 ≠ g_l L i := fun q => hk (by omega)
      have e : ((k - 183) / 17 ∈ L.take (i + 1)) ↔ (k - 183) / 17 ∈ L.take i := by
        rw [g_take hi, List.mem_append, List.mem_singleton]
        exact ⟨fun q => q.resolve_right hne, Or.inl⟩
      simp only [e]
    · rw [if_neg (fun q => h ⟨q.1, q.2.1⟩), if_neg (fun q => h ⟨q.1, q.2.1⟩)]
theorem q_w_over {P : q_R} {a b : Nat} {x v x' : Int32} (h : a ≠ b) : q_w (q_w (q_w P a x) b v) a x' = q_w (q_w P b v) a x' := funext fun k => by
  by_cases h1 : k = a
  · subst h1
    rw [q_w_same, q_w_same]
  · rw [q_w_ne h1, q_w_ne h1]
    by_cases h2 : k = b
    · subst h2
      rw [q_w_same, q_w_same]
    · rw [q_w_ne h2, q_w_ne h2, q_w_ne h1]
theorem q_w_id {P : q_R} {a : Nat} {x : Int32} (h : x = P a) : q_w P a x = P := funext fun k => by
  by_cases h1 : k = a
  · subst h1
    rw [q_w_same, h]
  · rw [q_w_ne h1]
/-- the row when a way is paid -/
def q_py (A : q_R) (t : Nat) (w : Int32) (pt : List Nat) : q_R :=
  q_w (q_w (q_w (q_w (q_w (q_pd A (f_amt A w pt.length) pt.length pt pt.length) (18 + 40 * t) (A (18 + 40 * t) + (if pt.length = 0 then 0 else f_amt A w pt.length))) (23 + 40 * t) (A (23 + 40 * t) + (if pt.length = 0 then 0 else f_amt A w pt.length))) (20 + 40 * t) (A (20 + 40 * t) + w)) (21 + 40 * t) (A (21 + 40 * t) + (if pt.length = 0 then 0 else w))) (22 + 40 * t) (A (22 + 40 * t) + (if pt.length ≤ 1 then 0 else w))
theorem c_pay_L {o t : Nat} {s : q_S} {n : Nat} {rt pt : List Nat} {amt w : Int32} (hI : q_In s) (ht : t < q_T s.1) (hL : q_taxiL s.1 s.2.1 t n rt pt) (hamt : 0 < pt.length → amt = f_amt s.2.1 w pt.length) (hall : f_parts amt pt.length pt.length = amt) (ha0 : pt.length = 0 → amt = 0) : ∀ (j i f : Nat) (N : z_Mem), i + j = pt.length → j < f → c_all o N (q_row s (q_w (q_pd s.2.1 amt pt.length pt i) (18 + 40 * t) (s.2.1 (18 + 40 * t) + f_parts amt pt.length i))) →
    ∃ N', F_Traffic_payWay_L13 o f (o + 5 + 4 + 3 * t) w amt (Int32.ofNat i) N = some N' ∧ c_all o N' (q_row s (q_py s.2.1 t w pt)) ∧ (∀ x, (x < o + 5 ∨ o + 45 ≤ x) → N'.1 x = N.1 x) ∧ N'.2 = N.2 := by
  have hN := hI.I.rides24
  have hT4 := hI.I.taxis4
  have h6 := hL.2.1.2.1
  intro j
  induction j with
  | zero =>
    intro i f N hi hf hc
    obtain ⟨f, rfl⟩ : ∃ g, f = g + 1 := ⟨f - 1, by omega⟩
    have hi' : i = pt.length := by omega
    subst hi'
    have hli : q_li (q_w (q_pd s.2.1 amt pt.length pt pt.length) (18 + 40 * t) (s.2.1 (18 + 40 * t) + f_parts amt pt.length pt.length)) (37 + 40 * t) (38 + 40 * t) pt := hL.2.1.1.same (by rw [q_w_ne (by omega), q_pd_out (Or.inl (by omega))]) (fun k hk => by rw [q_w_ne (by omega), q_pd_out (Or.inl (by omega))])
    have tx := hc.2.1.2.2.2.2.2.2.2.1 t ht
    have h8 := (c_party hc ht hli h6).1
    rw [hall] at hc tx
    -- the accounts
    have c1 := hc.wt ht hT4 (k := 16) (idx := 23) (v := s.2.1 (23 + 40 * t) + amt) (by unfold q_tmap; omega)
    have c2 := c1.wt ht hT4 (k := 13) (idx := 20) (v := s.2.1 (20 + 40 * t) + w) (by unfold q_tmap; omega)
    have c3 := c2.wt ht hT4 (k := 14) (idx := 21) (v := s.2.1 (21 + 40 * t) + (if pt.length = 0 then 0 else w)) (by unfold q_tmap; omega)
    have c4 := c3.wt ht hT4 (k := 15) (idx := 22) (v := s.2.1 (22 + 40 * t) + (if pt.length ≤ 1 then 0 else w)) (by unfold q_tmap; omega)
    have r16 : N.1 (o + 5 + 4 + 3 * t) 16 = s.2.1 (23 + 40 * t) := by
      refine tx.2.2.2.2.2.2.2.2.2.2.2.2.2.2.1.trans ?_
      show q_w (q_pd s.2.1 amt pt.length pt pt.length) (18 + 40 * t) _ (23 + 40 * t) = _
      rw [q_w_ne (by omega), q_pd_out (Or.inl (by omega))]
    have rd : ∀ k idx, 18 < idx → idx < 24 → N.1 (o + 5 + 4 + 3 * t) k = q_w (q_pd s.2.1 amt pt.length pt pt.length) (18 + 40 * t) (s.2.1 (18 + 40 * t) + amt) (idx + 40 * t) → N.1 (o + 5 + 4 + 3 * t) k = s.2.1 (idx + 40 * t) := fun k idx h1 h2 h => by
      rw [h, q_w_ne (by omega), q_pd_out (Or.inl (by omega))]
    have r13 : N.1 (o + 5 + 4 + 3 * t) 13 = s.2.1 (20 + 40 * t) := rd 13 20 (by omega) (by omega) tx.2.2.2.2.2.2.2.2.2.2.2.1
    have r14 : N.1 (o + 5 + 4 + 3 * t) 14 = s.2.1 (21 + 40 * t) := rd 14 21 (by omega) (by omega) tx.2.2.2.2.2.2.2.2.2.2.2.2.1
    have r15 : N.1 (o + 5 + 4 + 3 * t) 15 = s.2.1 (22 + 40 * t) := rd 15 22 (by omega) (by omega) tx.2.2.2.2.2.2.2.2.2.2.2.2.2.1
    have eQ : q_py s.2.1 t w pt = q_w (q_w (q_w (q_w (q_w (q_pd s.2.1 amt pt.length pt pt.length) (18 + 40 * t) (s.2.1 (18 + 40 * t) + amt)) (23 + 40 * t) (s.2.1 (23 + 40 * t) + amt)) (20 + 40 * t) (s.2.1 (20 + 40 * t) + w)) (21 + 40 * t) (s.2.1 (21 + 40 * t) + (if pt.length = 0 then 0 else w))) (22 + 40 * t) (s.2.1 (22 + 40 * t) + (if pt.length ≤ 1 then 0 else w)) := by
      unfold q_py
      by_cases h0 : pt.length = 0
      · rw [h0, q_pd_0, q_pd_0, if_pos rfl, ha0 h0]
      · rw [← hamt (by omega), if_neg h0]
    rw [eQ]
    refine ⟨_, ?_, c4, fun x hx => funext fun k => by rw [w_addr _ (by omega), w_addr _ (by omega), w_addr _ (by omega), w_addr _ (by omega)], rfl⟩
    unfold F_Traffic_payWay_L13 F_Traffic_payWay_B13 F_Traffic_payWay_J92 F_Traffic_payWay_J114
    rw [h8, if_pos ((i_le (by omega) (by omega)).mpr (Nat.le_refl _)), r16]
    simp only [zl]
    have s8 : ∀ (v : Int32), (z_wI (z_wI N (o + 5 + 4 + 3 * t) 16 (s.2.1 (23 + 40 * t) + amt)) (o + 5 + 4 + 3 * t) 13 v).1 (o + 5 + 4 + 3 * t) 8 = Int32.ofNat pt.length := fun v => by rw [w_slot _ (by decide), w_slot _ (by decide), h8]
    have s9 : ∀ (v v' : Int32), (z_wI (z_wI (z_wI N (o + 5 + 4 + 3 * t) 16 (s.2.1 (23 + 40 * t) + amt)) (o + 5 + 4 + 3 * t) 13 v) (o + 5 + 4 + 3 * t) 14 v').1 (o + 5 + 4 + 3 * t) 8 = Int32.ofNat pt.length := fun v v' => by rw [w_slot _ (by decide), s8]
    have s13 : (z_wI N (o + 5 + 4 + 3 * t) 16 (s.2.1 (23 + 40 * t) + amt)).1 (o + 5 + 4 + 3 * t) 13 = s.2.1 (20 + 40 * t) := by rw [w_slot _ (by decide), r13]
    have s14 : ∀ v, (z_wI (z_wI N (o + 5 + 4 + 3 * t) 16 (s.2.1 (23 + 40 * t) + amt)) (o + 5 + 4 + 3 * t) 13 v).1 (o + 5 + 4 + 3 * t) 14 = s.2.1 (21 + 40 * t) := fun v => by rw [w_slot _ (by decide), w_slot _ (by decide), r14]
    have s15 : ∀ v v', (z_wI (z_wI (z_wI N (o + 5 + 4 + 3 * t) 16 (s.2.1 (23 + 40 * t) + amt)) (o + 5 + 4 + 3 * t) 13 v) (o + 5 + 4 + 3 * t) 14 v').1 (o + 5 + 4 + 3 * t) 15 = s.2.1 (22 + 40 * t) := fun v v' => by rw [w_slot _ (by decide), w_slot _ (by decide), w_slot _ (by decide), r15]
    simp only [s13, s8, s14, s9, s15]
    by_cases h0 : pt.length = 0
    · rw [if_pos (show Int32.ofNat pt.length ≤ 0 by rw [h0]; decide), if_pos (show Int32.ofNat pt.length ≤ 1 by rw [h0]; decide), if_pos h0, if_pos (show pt.length ≤ 1 by omega)]
    · rw [if_neg (show ¬ Int32.ofNat pt.length ≤ 0 from i_nle (b := 0) (by omega) (by decide) (by omega)), if_neg h0]
      by_cases h1 : pt.length ≤ 1
      · rw [if_pos (show Int32.ofNat pt.length ≤ 1 from (i_le (b := 1) (by omega) (by decide)).mpr h1), if_pos h1]
      · rw [if_neg (show ¬ Int32.ofNat pt.length ≤ 1 from i_nle (b := 1) (by omega) (by decide) (by omega)), if_neg h1]
  | succ j ih =>
    intro i f N hi hf hc
    obtain ⟨f, rfl⟩ : ∃ g, f = g + 1 := ⟨f - 1, by omega⟩
    have hip : i < pt.length := by omega
    have hu := ((hL.2.1.2.2.2 _).mp (g_l_mem hip)).1
    have hli : q_li (q_w (q_pd s.2.1 amt pt.length pt i) (18 + 40 * t) (s.2.1 (18 + 40 * t) + f_parts amt pt.length i)) (37 + 40 * t) (38 + 40 * t) pt := hL.2.1.1.same (by rw [q_w_ne (by omega), q_pd_out (Or.inl (by omega))]) (fun k hk => by rw [q_w_ne (by omega), q_pd_out (Or.inl (by omega))])
    obtain ⟨h8, hp⟩ := c_party hc ht hli h6
    have hrN : ∀ v v' x, g_l pt i < q_N (q_w (q_w x (18 + 40 * t) v) (183 + 17 * g_l pt i) v') ↔ g_l pt i < q_N x := fun v v' x => by
      unfold q_N
      rw [q_w_ne (by omega), q_w_ne (by omega)]
    have hrN1 : g_l pt i < q_N (q_w (q_pd s.2.1 amt pt.length pt i) (18 + 40 * t) (s.2.1 (18 + 40 * t) + f_parts amt pt.length i)) := by
      unfold q_N
      rw [q_w_ne (by omega), q_pd_out (Or.inl (by omega))]
      exact hu
    have x12 : N.1 (o + 5 + 16 + g_l pt i) 12 = s.2.1 (183 + 17 * g_l pt i) := by
      obtain ⟨-, -, -, -, -, -, -, -, -, -, -, -, y12, -⟩ := hc.2.1.2.2.2.2.2.2.2.2 (g_l pt i) hrN1
      refine y12.trans ?_
      show q_w (q_pd s.2.1 amt pt.length pt i) (18 + 40 * t) _ (183 + 17 * g_l pt i) = _
      rw [q_w_ne (by omega), q_pd_ride, if_neg (g_nodup_take hL.2.1.2.2.1 hip)]
    have c1 := hc.wr (r := g_l pt i) (k := 12) (v := s.2.1 (183 + 17 * g_l pt i) + f_part amt pt.length i) hrN1 (Or.inl (by omega))
    have x11 : (z_wI N (o + 5 + 16 + g_l pt i) 12 (s.2.1 (183 + 17 * g_l pt i) + f_part amt pt.length i)).1 (o + 5 + 4 + 3 * t) 11 = s.2.1 (18 + 40 * t) + f_parts amt pt.length i := by
      rw [w_addr _ (by omega), (hc.2.1.2.2.2.2.2.2.2.1 t ht).2.2.2.2.2.2.2.2.2.1]
      exact q_w_same _ _ _
    have c2 := c1.wt ht hT4 (k := 11) (idx := 18) (v := s.2.1 (18 + 40 * t) + f_parts amt pt.length (i + 1)) (by unfold q_tmap; omega)
    have erow : q_up (q_up (q_row s (q_w (q_pd s.2.1 amt pt.length pt i) (18 + 40 * t) (s.2.1 (18 + 40 * t) + f_parts amt pt.length i))) ((if 12 = 0 then 173 else 171 + 12) + 17 * g_l pt i) (s.2.1 (183 + 17 * g_l pt i) + f_part amt pt.length i)) (18 + 40 * t) (s.2.1 (18 + 40 * t) + f_parts amt pt.length (i + 1)) = q_row s (q_w (q_pd s.2.1 amt pt.length pt (i + 1)) (18 + 40 * t) (s.2.1 (18 + 40 * t) + f_parts amt pt.length (i + 1))) := by
      show q_row s (q_w (q_w (q_w (q_pd s.2.1 amt pt.length pt i) (18 + 40 * t) _) (183 + 17 * g_l pt i) _) (18 + 40 * t) _) = _
      rw [q_w_over (by omega), q_pd_step hL.2.1.2.2.1 hip]
    rw [erow] at c2
    obtain ⟨N', e, g1, g2, g3⟩ := ih (i + 1) f _ (by omega) (by omega) c2
    refine ⟨N', ?_, g1, fun x hx => (g2 x hx).trans (funext fun k => by rw [w_addr _ (by omega), w_addr _ (by omega)]), g3⟩
    unfold F_Traffic_payWay_L13 F_Traffic_payWay_B13
    rw [h8, if_neg (i_nle (by omega) (by omega) hip), zb_ok ((c_partyAt h8 h6 hip).trans (congrArg some (hp i hip))), zb_ok (a_rideAt (M := N) (d := o + 5) (by omega)), zb_ok (c_part (by omega) (by omega))]
    have epay : F_Traffic_pay (o + 5 + 4 + 3 * t) (o + 5 + 16 + g_l pt i) (f_part amt pt.length i) N = some (z_wI (z_wI N (o + 5 + 16 + g_l pt i) 12 (s.2.1 (183 + 17 * g_l pt i) + f_part amt pt.length i)) (o + 5 + 4 + 3 * t) 11 (s.2.1 (18 + 40 * t) + f_parts amt pt.length (i + 1))) := by
      unfold F_Traffic_pay
      simp only [zl]
      rw [x12, x11, Int32.add_assoc]
      rfl
    rw [zb_ok epay, i_succ]
    exact e
theorem c_payWay {o t : Nat} {s : q_S} {n w : Nat} {rt pt : List Nat} {N : z_Mem} (hI : q_In s) (ht : t < q_T s.1) (hL : q_taxiL s.1 s.2.1 t n rt pt) (hw : w ≤ 25344) (hc : c_all o N s) : ∃ N', F_Traffic_payWay o (o + 5 + 4 + 3 * t) (Int32.ofNat w) N = some N' ∧ c_all o N' (q_row s (q_py s.2.1 t (Int32.ofNat w) pt)) ∧ (∀ x, (x < o + 5 ∨ o + 45 ≤ x) → N'.1 x = N.1 x) ∧ N'.2 = N.2 := by
  have h6 := hL.2.1.2.1
  obtain ⟨h8, hp⟩ := c_party hc ht hL.2.1.1 h6
  unfold F_Traffic_payWay
  rw [h8, zb_ok (c_amt hc h6)]
  obtain ⟨a, ha, ea⟩ := f_amt_N (A := s.2.1) (w := w) (n := pt.length) hI.2.1.2.1 hw
  have h0 : q_row s (q_w (q_pd s.2.1 (if pt.length = 0 then 0 else f_amt s.2.1 (Int32.ofNat w) pt.length) pt.length pt 0) (18 + 40 * t) (s.2.1 (18 + 40 * t) + f_parts (if pt.length = 0 then 0 else f_amt s.2.1 (Int32.ofNat w) pt.length) pt.length 0)) = s := by
    rw [q_pd_0, q_w_id (by show _ + 0 = _; rw [Int32.add_zero])]
    rfl
  rw [i_0]
  refine c_pay_L (o := o) hI ht hL (fun q => if_neg (by omega)) ?_ (fun q => if_pos q) pt.length 0 10000 N (by omega) (by omega) (by rw [h0]; exact hc)
  by_cases hz : pt.length = 0
  · rw [hz]
    rfl
  · rw [if_neg hz, ea]
    exact f_parts_all ha (by omega) (by omega)
