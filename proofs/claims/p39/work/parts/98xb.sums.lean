/-! ===== PURE: sums over rides; what always holds of money and minutes ===== -/
def k_sum (f : Nat → Int32) : Nat → Int32
  | 0 => 0
  | n + 1 => k_sum f n + f n
theorem k_sum_eq {f g : Nat → Int32} : ∀ n, (∀ r, r < n → f r = g r) → k_sum f n = k_sum g n
  | 0, _ => rfl
  | n + 1, h => by
    show k_sum f n + f n = k_sum g n + g n
    rw [k_sum_eq n (fun r hr => h r (by omega)), h n (by omega)]
theorem i_ac4 (a b c d : Int32) : (a + b) + (c + d) = (a + c) + (b + d) := by
  rw [Int32.add_assoc, Int32.add_assoc, ← Int32.add_assoc b c d, Int32.add_comm b c, Int32.add_assoc c b d]
theorem k_sum_add {f g h : Nat → Int32} : ∀ n, (∀ r, r < n → h r = f r + g r) → k_sum h n = k_sum f n + k_sum g n
  | 0, _ => rfl
  | n + 1, e => by
    show k_sum h n + h n = (k_sum f n + f n) + (k_sum g n + g n)
    rw [k_sum_add n (fun r hr => e r (by omega)), e n (by omega), i_ac4]
theorem k_sum_0 : ∀ n, k_sum (fun _ => 0) n = 0
  | 0 => rfl
  | n + 1 => by
    show k_sum (fun _ => 0) n + 0 = 0
    rw [k_sum_0 n]
    rfl
theorem k_sum_no {f : Nat → Int32} {n : Nat} (h : ∀ r, r < n → f r = 0) : k_sum f n = 0 := (k_sum_eq n h).trans (k_sum_0 n)
theorem k_sum_one {a : Nat} {v : Int32} : ∀ n, a < n → k_sum (fun r => if r = a then v else 0) n = v
  | 0, h => absurd h (by omega)
  | n + 1, h => by
    show k_sum (fun r => if r = a then v else 0) n + (if n = a then v else 0) = v
    by_cases e : n = a
    · rw [if_pos e, k_sum_no (fun r hr => if_neg (by omega)), Int32.zero_add]
    · rw [if_neg e, k_sum_one n (by omega), Int32.add_zero]
def k_ls (f : Nat → Int32) : List Nat → Int32
  | [] => 0
  | a :: l => f a + k_ls f l
theorem k_sum_in {f : Nat → Int32} {n : Nat} : ∀ (l : List Nat), l.Nodup → (∀ r ∈ l, r < n) → k_sum (fun r => if r ∈ l then f r else 0) n = k_ls f l
  | [], _, _ => k_sum_no (fun r _ => if_neg (List.not_mem_nil))
  | a :: l, hn, hl => by
    have hn' := List.nodup_cons.mp hn
    have e := k_sum_add (f := fun r => if r = a then f a else 0) (g := fun r => if r ∈ l then f r else 0) (h := fun r => if r ∈ a :: l then f r else 0) n (fun r _ => by
      by_cases h1 : r = a
      · rw [h1, if_pos (List.mem_cons_self ..), if_pos rfl, if_neg hn'.1, Int32.add_zero]
      · rw [if_neg h1, Int32.zero_add]
        by_cases h2 : r ∈ l
        · rw [if_pos h2, if_pos (List.mem_cons_of_mem _ h2)]
        · rw [if_neg h2, if_neg (fun q => by rcases List.mem_cons.mp q with q | q <;> contradiction)])
    rw [e, k_sum_one n (hl a (List.mem_cons_self ..)), k_sum_in l hn'.2 (fun r hr => hl r (List.mem_cons_of_mem _ hr))]
    rfl
theorem k_ls_app {f : Nat → Int32} (a : Nat) : ∀ (l : List Nat), k_ls f (l ++ [a]) = k_ls f l + f a
  | [] => by
    show f a + 0 = 0 + f a
    rw [Int32.add_zero, Int32.zero_add]
  | b :: l => by
    show f b + k_ls f (l ++ [a]) = (f b + k_ls f l) + f a
    rw [k_ls_app a l, Int32.add_assoc]
theorem k_ls_take {f : Nat → Int32} {pt : List Nat} {amt : Int32} {n : Nat} (h : ∀ i, i < pt.length → f (g_l pt i) = f_part amt n i) : ∀ j, j ≤ pt.length → k_ls f (pt.take j) = f_parts amt n j
  | 0, _ => rfl
  | j + 1, hj => by
    have e : pt.take (j + 1) = pt.take j ++ [g_l pt j] := by
      have hj' : j < pt.length := by omega
      have eg : g_l pt j = pt[j] := by
        unfold g_l
        rw [List.getD_eq_getElem?_getD, List.getElem?_eq_getElem hj']
        rfl
      rw [List.take_succ, List.getElem?_eq_getElem hj', eg]
      rfl
    rw [e, k_ls_app, k_ls_take h j (by omega), h j (by omega)]
    rfl
/-- the shares of all parties aboard come to the amount -/
theorem k_shares {A : q_R} {pt : List Nat} {w n : Nat} (hs : q_scaJ A) (hw : w ≤ 25344) (h6 : pt.length ≤ 6) (hnd : pt.Nodup) (hn : ∀ r ∈ pt, r < n) :
    k_sum (fun r => if r ∈ pt then f_sh (f_amt A (Int32.ofNat w) pt.length) pt.length r pt 0 else 0) n = if pt.length = 0 then 0 else f_amt A (Int32.ofNat w) pt.length := by
  rw [k_sum_in (f := fun r => f_sh (f_amt A (Int32.ofNat w) pt.length) pt.length r pt 0) pt hnd hn]
  by_cases h0 : pt.length = 0
  · rw [if_pos h0, List.length_eq_zero_iff.mp h0]
    rfl
  · rw [if_neg h0]
    obtain ⟨a, ha, ea⟩ := f_amt_N (A := A) (n := pt.length) hs hw
    have e := k_ls_take (f := fun r => f_sh (f_amt A (Int32.ofNat w) pt.length) pt.length r pt 0) (pt := pt) (amt := f_amt A (Int32.ofNat w) pt.length) (n := pt.length) (fun i hi => by
      have := f_sh_at (amt := f_amt A (Int32.ofNat w) pt.length) (n := pt.length) pt i 0 hnd hi
      rw [Nat.zero_add] at this
      exact this) pt.length (Nat.le_refl _)
    rw [List.take_length] at e
    rw [e, ea]
    exact f_parts_all ha (by omega) (by omega)
def i_P (A : q_R) (t r : Nat) : Int32 := if A (180 + 17 * r) = Int32.ofNat t then A (183 + 17 * r) else 0
def i_F (fl : Int32) (A : q_R) (t r : Nat) : Int32 := if A (180 + 17 * r) = Int32.ofNat t then (if A (173 + 17 * r) = 2 then fl else if A (173 + 17 * r) = 3 then fl else 0) else 0
def i_E (A : q_R) (t r : Nat) : Int32 := if A (180 + 17 * r) = Int32.ofNat t then (if A (173 + 17 * r) = 5 then A 7 else 0) else 0
/-- of a taxi: its sums, its minutes, its times -/
def i_S (c A : q_R) (t : Nat) : Prop := k_sum (i_P A t) (q_N A) + A (19 + 40 * t) = A (18 + 40 * t) ∧ k_sum (i_P A t) (q_N A) = k_sum (i_F (c 67) A t) (q_N A) + k_sum (i_E A t) (q_N A) + A (23 + 40 * t)
def i_D (n : Nat) (A : q_R) (t : Nat) : Prop := ∃ x y z, z ≤ y ∧ y ≤ x ∧ x ≤ 25344 * n ∧ A (20 + 40 * t) = Int32.ofNat x ∧ A (21 + 40 * t) = Int32.ofNat y ∧ A (22 + 40 * t) = Int32.ofNat z
def i_W (A : q_R) (t : Nat) : Prop := ∃ f, f ≤ 2 ^ 20 ∧ A (14 + 40 * t) = Int32.ofNat f ∧ (A (16 + 40 * t) = -1 ∨ ∃ l, f ≤ l ∧ l ≤ 2 ^ 20 ∧ A (16 + 40 * t) = Int32.ofNat l)
/-- of a ride -/
def i_R (A : q_R) (r : Nat) : Prop := (∃ x, x ≤ 2 ^ 20 ∧ A (177 + 17 * r) = Int32.ofNat x) ∧ (∃ k, k < 6 ∧ A (173 + 17 * r) = Int32.ofNat k) ∧ (A (173 + 17 * r) = 0 → A (180 + 17 * r) = -1 ∧ A (183 + 17 * r) = 0) ∧ (A (173 + 17 * r) = 1 → A (183 + 17 * r) = 0) ∧
  (A (173 + 17 * r) = 2 → ∃ p t f, t < 4 ∧ A (180 + 17 * r) = Int32.ofNat t ∧ A (181 + 17 * r) = Int32.ofNat p ∧ A (14 + 40 * t) = Int32.ofNat f ∧ p ≤ f ∧ f ≤ 2 ^ 20) ∧ (A (173 + 17 * r) = 3 → ∃ p a, A (181 + 17 * r) = Int32.ofNat p ∧ A (182 + 17 * r) = Int32.ofNat a ∧ p ≤ a ∧ a ≤ 2 ^ 21)
/-- of the desk: w bounds the time, n the stops done -/
def i_X (w n : Nat) (s : q_S) : Prop := (∃ v, v ≤ w ∧ s.2.1 0 = Int32.ofNat v) ∧ (∃ v, v ≤ 9 ∧ s.2.1 4 = Int32.ofNat v) ∧ (∃ v, v ≤ 30 ∧ s.2.1 6 = Int32.ofNat v) ∧ (∀ r, r < q_N s.2.1 → i_R s.2.1 r) ∧ ∀ t, t < q_T s.1 → i_S s.1 s.2.1 t ∧ i_D n s.2.1 t ∧ i_W s.2.1 t
