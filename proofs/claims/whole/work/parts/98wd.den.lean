/-! ===== PURE: query: what a test says of a ride ===== -/
/-- bit r of a set of rides -/
def h_b (x : Int32) (r : Nat) : Bool := x.toBitVec.getLsbD r
theorem h_b_and (x y : Int32) (r : Nat) : h_b (x &&& y) r = (h_b x r && h_b y r) := by
  unfold h_b
  rw [Int32.toBitVec_and, BitVec.getLsbD_and]
theorem h_b_or (x y : Int32) (r : Nat) : h_b (x ||| y) r = (h_b x r || h_b y r) := by
  unfold h_b
  rw [Int32.toBitVec_or, BitVec.getLsbD_or]
theorem h_m1 : ∀ r : Fin 24, h_b (-1) r.val = true := by decide
theorem h_b_not (x : Int32) {r : Nat} (hr : r < 24) : h_b (x ^^^ (-1)) r = !h_b x r := by
  have h1 : h_b (-1) r = true := h_m1 ⟨r, hr⟩
  unfold h_b at h1 ⊢
  rw [Int32.toBitVec_xor, BitVec.getLsbD_xor, h1, Bool.xor_true]
theorem h_one : ∀ k r : Fin 24, h_b (1 <<< (Int32.ofNat k.val &&& 31)) r.val = decide (r.val = k.val) := by decide +kernel
theorem h_b_set (x : Int32) {k r : Nat} (hk : k < 24) (hr : r < 24) : h_b (x ||| (1 <<< (Int32.ofNat k &&& 31))) r = (h_b x r || decide (r = k)) := by
  rw [h_b_or, show h_b (1 <<< (Int32.ofNat k &&& 31)) r = decide (r = k) from h_one ⟨k, hk⟩ ⟨r, hr⟩]
theorem h_b_0 : ∀ r : Fin 24, h_b 0 r.val = false := by decide
theorem h_sh : ∀ r : Fin 24, ((Int32.ofNat r.val &&& 31).toBitVec.smod 32).toNat = r.val := by decide +kernel
theorem h_b_test (x : Int32) {r : Nat} (hr : r < 24) : ((x >>> (Int32.ofNat r &&& 31)) &&& 1) = 1 ↔ h_b x r = true := by
  have e : ((x >>> (Int32.ofNat r &&& 31)) &&& 1).toBitVec = (x.toBitVec.sshiftRight r) &&& 1#32 := by
    rw [Int32.toBitVec_and, Int32.toBitVec_shiftRight]
    have hs := h_sh ⟨r, hr⟩
    dsimp only at hs
    rw [BitVec.sshiftRight', hs]
    rfl
  have e2 : (x.toBitVec.sshiftRight r) &&& 1#32 = 1#32 ↔ h_b x r = true := by
    unfold h_b
    have h0 : (x.toBitVec.sshiftRight r).getLsbD 0 = x.toBitVec.getLsbD r := by
      rw [BitVec.getLsbD_sshiftRight]
      simp
      intro h
      omega
    constructor
    · intro h
      have := congrArg (fun v => BitVec.getLsbD v 0) h
      simp only [BitVec.getLsbD_and] at this
      rw [h0] at this
      simpa using this
    · intro h
      apply BitVec.eq_of_getLsbD_eq
      intro i hi
      rw [BitVec.getLsbD_and]
      by_cases h00 : i = 0
      · rw [h00, h0, h]
        rfl
      · have : (1#32).getLsbD i = false := by
          rw [BitVec.getLsbD_one]
          simp [h00]
        rw [this, Bool.and_false]
  rw [← e2, ← e]
  exact ⟨fun h => by rw [h]; rfl, fun h => Int32.toBitVec_inj.mp h⟩
/-- what an operand is worth for a ride: by the class's number for it, by the reference's -/
def h_vc (A : q_R) (r : Nat) (p : Int32) : Int32 := if -1 - p = 5 then A (180 + 17 * r) + 1 else if -1 - p = 6 then Int32.ofNat r else if -1 - p = 7 then A (173 + 17 * r) else if -1 - p = 8 then A (174 + 17 * r) else if -1 - p = 9 then A (175 + 17 * r) else if -1 - p = 10 then A (176 + 17 * r) else if -1 - p = 11 then A (177 + 17 * r) else if -1 - p = 12 then A (179 + 17 * r) else if -1 - p = 13 then A (183 + 17 * r) else p
def h_vm (A : q_R) (r k : Nat) : Int32 := if k = 0 then Int32.ofNat r else if k = 1 then A (173 + 17 * r) else if k = 2 then A (174 + 17 * r) else if k = 3 then A (175 + 17 * r) else if k = 4 then A (176 + 17 * r) else if k = 5 then A (177 + 17 * r) else if k = 6 then A (179 + 17 * r) else if k = 7 then A (183 + 17 * r) else if k = 8 then A (180 + 17 * r) + 1 else Int32.ofNat (k - 100)
/-- the same operand -/
def h_op (k : Nat) (p : Int32) : Prop := (k < 20 ∨ (100 ≤ k ∧ k ≤ 100099)) ∧ (k < 20 → k < 9) ∧ ∀ A r, h_vm A r k = h_vc A r p
theorem h_op_n {v : Nat} (hv : v ≤ 99999) : h_op (100 + v) (Int32.ofNat v) := by
  refine ⟨Or.inr ⟨by omega, by omega⟩, fun h => by omega, fun A r => ?_⟩
  have hne : ∀ j, j < 14 → ¬ -1 - Int32.ofNat v = Int32.ofNat j := fun j hj h => by
    have e1 : -1 = Int32.ofNat j + Int32.ofNat v := Int32.sub_eq_iff_eq_add.mp h
    rw [i_add] at e1
    have := congrArg Int32.toInt e1
    rw [i_toInt (by omega)] at this
    have e : ((-1 : Int32)).toInt = -1 := by decide
    omega
  unfold h_vm h_vc
  rw [if_neg (by omega), if_neg (by omega), if_neg (by omega), if_neg (by omega), if_neg (by omega), if_neg (by omega), if_neg (by omega), if_neg (by omega), if_neg (by omega), if_neg (show ¬ -1 - Int32.ofNat v = 5 from hne 5 (by decide)), if_neg (show ¬ -1 - Int32.ofNat v = 6 from hne 6 (by decide)), if_neg (show ¬ -1 - Int32.ofNat v = 7 from hne 7 (by decide)), if_neg (show ¬ -1 - Int32.ofNat v = 8 from hne 8 (by decide)), if_neg (show ¬ -1 - Int32.ofNat v = 9 from hne 9 (by decide)), if_neg (show ¬ -1 - Int32.ofNat v = 10 from hne 10 (by decide)), if_neg (show ¬ -1 - Int32.ofNat v = 11 from hne 11 (by decide)), if_neg (show ¬ -1 - Int32.ofNat v = 12 from hne 12 (by decide)), if_neg (show ¬ -1 - Int32.ofNat v = 13 from hne 13 (by decide)), show 100 + v - 100 = v by omega]
theorem h_sub2 (a b : Int32) : a - (a - b) = b := Int32.sub_eq_iff_eq_add.mpr (by rw [Int32.add_comm, Int32.sub_add_cancel])
theorem h_op_w {j : Nat} (h5 : 5 ≤ j) (h13 : j ≤ 13) : h_op (if j = 5 then 8 else j - 6) (-1 - Int32.ofNat j) := by
  refine ⟨Or.inl ?_, fun _ => ?_, fun A r => ?_⟩
  · split <;> omega
  · split <;> omega
  · unfold h_vc
    rw [h_sub2]
    rcases (show j = 5 ∨ j = 6 ∨ j = 7 ∨ j = 8 ∨ j = 9 ∨ j = 10 ∨ j = 11 ∨ j = 12 ∨ j = 13 by omega) with rfl | rfl | rfl | rfl | rfl | rfl | rfl | rfl | rfl
    · rw [if_pos (show Int32.ofNat 5 = (5 : Int32) from rfl)]
      rfl
    · rw [if_neg (show ¬ Int32.ofNat 6 = (5 : Int32) by decide), if_pos (show Int32.ofNat 6 = (6 : Int32) from rfl)]
      rfl
    · rw [if_neg (show ¬ Int32.ofNat 7 = (5 : Int32) by decide), if_neg (show ¬ Int32.ofNat 7 = (6 : Int32) by decide), if_pos (show Int32.ofNat 7 = (7 : Int32) from rfl)]
      rfl
    · rw [if_neg (show ¬ Int32.ofNat 8 = (5 : Int32) by decide), if_neg (show ¬ Int32.ofNat 8 = (6 : Int32) by decide), if_neg (show ¬ Int32.ofNat 8 = (7 : Int32) by decide), if_pos (show Int32.ofNat 8 = (8 : Int32) from rfl)]
      rfl
    · rw [if_neg (show ¬ Int32.ofNat 9 = (5 : Int32) by decide), if_neg (show ¬ Int32.ofNat 9 = (6 : Int32) by decide), if_neg (show ¬ Int32.ofNat 9 = (7 : Int32) by decide), if_neg (show ¬ Int32.ofNat 9 = (8 : Int32) by decide), if_pos (show Int32.ofNat 9 = (9 : Int32) from rfl)]
      rfl
    · rw [if_neg (show ¬ Int32.ofNat 10 = (5 : Int32) by decide), if_neg (show ¬ Int32.ofNat 10 = (6 : Int32) by decide), if_neg (show ¬ Int32.ofNat 10 = (7 : Int32) by decide), if_neg (show ¬ Int32.ofNat 10 = (8 : Int32) by decide), if_neg (show ¬ Int32.ofNat 10 = (9 : Int32) by decide), if_pos (show Int32.ofNat 10 = (10 : Int32) from rfl)]
      rfl
    · rw [if_neg (show ¬ Int32.ofNat 11 = (5 : Int32) by decide), if_neg (show ¬ Int32.ofNat 11 = (6 : Int32) by decide), if_neg (show ¬ Int32.ofNat 11 = (7 : Int32) by decide), if_neg (show ¬ Int32.ofNat 11 = (8 : Int32) by decide), if_neg (show ¬ Int32.ofNat 11 = (9 : Int32) by decide), if_neg (show ¬ Int32.ofNat 11 = (10 : Int32) by decide), if_pos (show Int32.ofNat 11 = (11 : Int32) from rfl)]
      rfl
    · rw [if_neg (show ¬ Int32.ofNat 12 = (5 : Int32) by decide), if_neg (show ¬ Int32.ofNat 12 = (6 : Int32) by decide), if_neg (show ¬ Int32.ofNat 12 = (7 : Int32) by decide), if_neg (show ¬ Int32.ofNat 12 = (8 : Int32) by decide), if_neg (show ¬ Int32.ofNat 12 = (9 : Int32) by decide), if_neg (show ¬ Int32.ofNat 12 = (10 : Int32) by decide), if_neg (show ¬ Int32.ofNat 12 = (11 : Int32) by decide), if_pos (show Int32.ofNat 12 = (12 : Int32) from rfl)]
      rfl
    · rw [if_neg (show ¬ Int32.ofNat 13 = (5 : Int32) by decide), if_neg (show ¬ Int32.ofNat 13 = (6 : Int32) by decide), if_neg (show ¬ Int32.ofNat 13 = (7 : Int32) by decide), if_neg (show ¬ Int32.ofNat 13 = (8 : Int32) by decide), if_neg (show ¬ Int32.ofNat 13 = (9 : Int32) by decide), if_neg (show ¬ Int32.ofNat 13 = (10 : Int32) by decide), if_neg (show ¬ Int32.ofNat 13 = (11 : Int32) by decide), if_neg (show ¬ Int32.ofNat 13 = (12 : Int32) by decide), if_pos (show Int32.ofNat 13 = (13 : Int32) from rfl)]
      rfl
/-- how a ride's two values stand to each other: the class's sign -/
def h_cmp (a b : Int32) : Int32 := if b ≤ a then (if a ≤ b then 0 else 1) else -1
theorem c_valueFor {o r : Nat} {M : z_Mem} {c A : q_R} (hd : c_desk M (o + 5) c A) (hr : r < q_N A) (p : Int32) : F_QueryReader_valueFor o p (Int32.ofNat r) M = some (h_vc A r p) := by
  have hN := hd.1.2
  obtain ⟨x0, x1, x2, x3, x4, -, x6, -, -, x9, -, -, x12, -⟩ := hd.2.2.2.2.2.2.2.2 r hr
  unfold F_QueryReader_valueFor h_vc
  rw [zb_ok (a_rideAt (show r < 24 by omega)), x0, x1, x2, x3, x4, x6, x9, x12]
  generalize -1 - p = d
  by_cases e5 : d = 5
  · rw [if_pos e5, if_pos e5]
  rw [if_neg e5, if_neg e5]
  by_cases e6 : d = 6
  · rw [if_pos e6, if_pos e6]
  rw [if_neg e6, if_neg e6]
  by_cases e7 : d = 7
  · rw [if_pos e7, if_pos e7]
  rw [if_neg e7, if_neg e7]
  by_cases e8 : d = 8
  · rw [if_pos e8, if_pos e8]
  rw [if_neg e8, if_neg e8]
  by_cases e9 : d = 9
  · rw [if_pos e9, if_pos e9]
  rw [if_neg e9, if_neg e9]
  by_cases e10 : d = 10
  · rw [if_pos e10, if_pos e10]
  rw [if_neg e10, if_neg e10]
  by_cases e11 : d = 11
  · rw [if_pos e11, if_pos e11]
  rw [if_neg e11, if_neg e11]
  by_cases e12 : d = 12
  · rw [if_pos e12, if_pos e12]
  rw [if_neg e12, if_neg e12]
  by_cases e13 : d = 13
  · rw [if_pos e13, if_pos e13]
  rw [if_neg e13, if_neg e13]
theorem c_hold_L {o : Nat} {M : z_Mem} {c A : q_R} {p1 p2 p3 : Int32} (hd : c_desk M (o + 5) c A) (hA : A 1 = Int32.ofNat (q_N A)) : ∀ (d k f : Nat) (x : Int32), k + d = q_N A → d < f → (∀ r, r < 24 → h_b x r = decide (r < k ∧ h_cmp (h_vc A r p1) (h_vc A r p3) = p2)) → ∃ y, F_QueryReader_holdingFor_L6 o f p1 p2 p3 x (Int32.ofNat k) M = some y ∧ ∀ r, r < 24 → h_b y r = decide (r < q_N A ∧ h_cmp (h_vc A r p1) (h_vc A r p3) = p2) := by
  have hN := hd.1.2
  have h4 : M.1 (o + 5) 4 = Int32.ofNat (q_N A) := hd.2.2.2.2.2.1.trans hA
  intro d
  induction d with
  | zero =>
    intro k f x hk hf h
    obtain ⟨f, rfl⟩ : ∃ g, f = g + 1 := ⟨f - 1, by omega⟩
    refine ⟨x, ?_, fun r hr => ?_⟩
    · unfold F_QueryReader_holdingFor_L6 F_QueryReader_holdingFor_B6
      rw [h4, if_pos ((i_le (by omega) (by omega)).mpr (by omega))]
    · rw [h r hr, show k = q_N A by omega]
  | succ d ih =>
    intro k f x hk hf h
    obtain ⟨f, rfl⟩ : ∃ g, f = g + 1 := ⟨f - 1, by omega⟩
    have eU : F_QueryReader_holdingFor_L6 o (f + 1) p1 p2 p3 x (Int32.ofNat k) M = F_QueryReader_holdingFor_B6 o (F_QueryReader_holdingFor_L6 o f) p1 p2 p3 x (Int32.ofNat k) M := rfl
    rw [eU]
    unfold F_QueryReader_holdingFor_B6
    rw [h4, if_neg (i_nle (by omega) (by omega) (by omega)), if_neg (show ¬ (24 : Int32) ≤ Int32.ofNat k from i_nle (a := 24) (by decide) (by omega) (by omega)), zb_ok (c_valueFor hd (by omega) p1), zb_ok (c_valueFor hd (by omega) p3)]
    have go : ∃ y, F_QueryReader_holdingFor_J66 o (F_QueryReader_holdingFor_L6 o f) p1 p2 p3 x (Int32.ofNat k) (h_cmp (h_vc A k p1) (h_vc A k p3)) M = some y ∧ ∀ r, r < 24 → h_b y r = decide (r < q_N A ∧ h_cmp (h_vc A r p1) (h_vc A r p3) = p2) := by
      unfold F_QueryReader_holdingFor_J66
      by_cases hc : h_cmp (h_vc A k p1) (h_vc A k p3) = p2
      · rw [if_pos hc, zl_eq, zl_eq, i_succ]
        refine ih (k + 1) f _ (by omega) (by omega) (fun r hr => ?_)
        rw [h_b_set _ (by omega) hr, h r hr]
        by_cases hrk : r = k
        · rw [hrk, decide_eq_true (rfl : k = k), Bool.or_true]
          exact (decide_eq_true ⟨by omega, hc⟩).symm
        · rw [decide_eq_false hrk, Bool.or_false]
          exact decide_eq_decide.mpr ⟨fun g => ⟨by omega, g.2⟩, fun g => ⟨by omega, g.2⟩⟩
      · rw [if_neg hc, zl_eq, i_succ]
        refine ih (k + 1) f _ (by omega) (by omega) (fun r hr => ?_)
        rw [h r hr]
        refine decide_eq_decide.mpr ⟨fun g => ⟨by omega, g.2⟩, fun g => ⟨?_, g.2⟩⟩
        rcases Nat.lt_or_ge r k with z | z
        · exact z
        · exact absurd (by rw [show k = r by omega]; exact g.2) hc
    by_cases h1 : h_vc A k p3 ≤ h_vc A k p1
    · rw [if_pos h1]
      by_cases h2 : h_vc A k p1 ≤ h_vc A k p3
      · rw [if_pos h2]
        have e : h_cmp (h_vc A k p1) (h_vc A k p3) = 0 := by unfold h_cmp; rw [if_pos h1, if_pos h2]
        rw [e] at go
        exact go
      · rw [if_neg h2]
        have e : h_cmp (h_vc A k p1) (h_vc A k p3) = 1 := by unfold h_cmp; rw [if_pos h1, if_neg h2]
        rw [e] at go
        exact go
    · rw [if_neg h1]
      have e : h_cmp (h_vc A k p1) (h_vc A k p3) = -1 := by unfold h_cmp; rw [if_neg h1]
      rw [e] at go
      exact go
theorem c_hold {o : Nat} {M : z_Mem} {c A : q_R} (hd : c_desk M (o + 5) c A) (hA : A 1 = Int32.ofNat (q_N A)) (p1 p2 p3 : Int32) : ∃ y, F_QueryReader_holdingFor o p1 p2 p3 M = some y ∧ ∀ r, r < 24 → h_b y r = decide (r < q_N A ∧ h_cmp (h_vc A r p1) (h_vc A r p3) = p2) :=
  c_hold_L hd hA (q_N A) 0 10000 0 (by omega) (by have := hd.1.2; omega) (fun r hr => by
    rw [show h_b 0 r = false from h_b_0 ⟨r, hr⟩]
    exact (decide_eq_false (fun g => by have := g.1; omega)).symm)
/-! the reference's codes -/
def h_jo (k : Nat) (x y : Int32) : Int32 := if k = 20 then (if y ≤ x then 0 else 1) else if k = 21 then (if x = y then 1 else 0) else if k = 22 then (if x ≤ y then 0 else 1) else if k = 24 then (if x + y = 2 then 1 else 0) else (if x + y ≤ 0 then 0 else 1)
def h_run (A : q_R) (r : Nat) : List Nat → List Int32 → Option (List Int32)
  | [], st => some st
  | k :: c, st => if k = 23 then (match st with
      | b :: st => h_run A r c ((1 - b) :: st)
      | [] => none)
    else if 20 ≤ k ∧ k ≤ 25 then (match st with
      | y :: x :: st => h_run A r c (h_jo k x y :: st)
      | _ => none)
    else h_run A r c (h_vm A r k :: st)
theorem h_run_app (A : q_R) (r : Nat) : ∀ (c d : List Nat) (st : List Int32), h_run A r (c ++ d) st = (h_run A r c st).bind (h_run A r d)
  | [], d, st => rfl
  | k :: c, d, st => by
    show h_run A r (k :: (c ++ d)) st = _
    unfold h_run
    by_cases h1 : k = 23
    · rw [if_pos h1, if_pos h1]
      cases st with
      | nil => rfl
      | cons b st => exact h_run_app A r c d _
    · rw [if_neg h1, if_neg h1]
      by_cases h2 : 20 ≤ k ∧ k ≤ 25
      · rw [if_pos h2, if_pos h2]
        match st with
        | [] => rfl
        | [y] => rfl
        | y :: x :: st => exact h_run_app A r c d _
      · rw [if_neg h2, if_neg h2]
        exact h_run_app A r c d _
def h_bit (x : Int32) (r : Nat) : Int32 := if h_b x r = true then 1 else 0
/-- the codes say what the set says -/
def h_den (A : q_R) (c : List Nat) (x : Int32) : Prop := ∀ r, r < q_N A → ∀ st, h_run A r c st = some (h_bit x r :: st)
theorem h_den.not {A : q_R} {c : List Nat} {x : Int32} (h : h_den A c x) (hN : q_N A ≤ 24) : h_den A (c ++ [23]) (x ^^^ (-1)) := fun r hr st => by
  rw [h_run_app, h r hr st]
  show h_run A r [23] (h_bit x r :: st) = _
  unfold h_run
  rw [if_pos rfl]
  show some ((1 - h_bit x r) :: st) = _
  unfold h_bit
  rw [h_b_not x (by omega)]
  cases h_b x r <;> rfl
theorem h_den.join {A : q_R} {c d : List Nat} {x y : Int32} (h : h_den A c x) (h' : h_den A d y) (k : Nat) (hk : k = 24 ∨ k = 25) (z : Int32) (hz : ∀ r, r < q_N A → h_bit z r = h_jo k (h_bit x r) (h_bit y r)) : h_den A (c ++ d ++ [k]) z := fun r hr st => by
  rw [h_run_app, h_run_app, h r hr st]
  show (h_run A r d (h_bit x r :: st)).bind _ = _
  rw [h' r hr]
  show h_run A r [k] (h_bit y r :: h_bit x r :: st) = _
  unfold h_run
  rw [if_neg (by omega), if_pos (by omega), hz r hr]
  rfl
theorem h_den.and {A : q_R} {c d : List Nat} {x y : Int32} (h : h_den A c x) (h' : h_den A d y) : h_den A (c ++ d ++ [24]) (x &&& y) := h.join h' 24 (Or.inl rfl) _ (fun r _ => by
  unfold h_bit
  rw [h_b_and]
  cases h_b x r <;> cases h_b y r <;> rfl)
theorem h_den.or {A : q_R} {c d : List Nat} {x y : Int32} (h : h_den A c x) (h' : h_den A d y) : h_den A (c ++ d ++ [25]) (x ||| y) := h.join h' 25 (Or.inr rfl) _ (fun r _ => by
  unfold h_bit
  rw [h_b_or]
  cases h_b x r <;> cases h_b y r <;> rfl)
/-- a comparison -/
theorem h_den_cmp {A : q_R} {k1 k2 rel : Nat} {p1 p2 s y : Int32} (h1 : h_op k1 p1) (h2 : h_op k2 p2) (hN : q_N A ≤ 24) (hs : (rel = 20 ∧ s = -1) ∨ (rel = 21 ∧ s = 0) ∨ (rel = 22 ∧ s = 1)) (hy : ∀ r, r < 24 → h_b y r = decide (r < q_N A ∧ h_cmp (h_vc A r p1) (h_vc A r p2) = s)) : h_den A [k1, k2, rel] y := fun r hr st => by
  have a1 := h1.1
  have a2 := h2.1
  have b1 := h1.2.1
  have b2 := h2.2.1
  show h_run A r (k1 :: [k2, rel]) st = _
  unfold h_run
  rw [if_neg (by omega), if_neg (by omega), h1.2.2]
  unfold h_run
  rw [if_neg (by omega), if_neg (by omega), h2.2.2]
  unfold h_run
  rw [if_neg (by omega), if_pos (by omega)]
  show some (h_jo rel (h_vc A r p1) (h_vc A r p2) :: st) = _
  have e : h_bit y r = if h_cmp (h_vc A r p1) (h_vc A r p2) = s then 1 else 0 := by
    unfold h_bit
    rw [hy r (by omega)]
    by_cases g : h_cmp (h_vc A r p1) (h_vc A r p2) = s
    · rw [if_pos g, if_pos (decide_eq_true ⟨hr, g⟩)]
    · rw [if_neg g, if_neg (by
        rw [decide_eq_false (fun z => g z.2)]
        exact Bool.false_ne_true)]
  rw [e]
  generalize h_vc A r p1 = a
  generalize h_vc A r p2 = b
  congr 2
  unfold h_jo h_cmp
  have tot : ¬ b ≤ a → a ≤ b := fun g => by
    rw [Int32.le_iff_toInt_le] at g ⊢
    omega
  have anti : b ≤ a → a ≤ b → a = b := fun g g' => Int32.le_antisymm g' g
  rcases hs with ⟨rfl, rfl⟩ | ⟨rfl, rfl⟩ | ⟨rfl, rfl⟩
  · rw [if_pos rfl]
    by_cases g : b ≤ a
    · rw [if_pos g, if_pos g]
      by_cases g2 : a ≤ b
      · rw [if_pos g2, if_neg (by decide)]
      · rw [if_neg g2, if_neg (by decide)]
    · rw [if_neg g, if_neg g, if_pos rfl]
  · rw [if_neg (by decide), if_pos rfl]
    by_cases g : b ≤ a
    · rw [if_pos g]
      by_cases g2 : a ≤ b
      · rw [if_pos g2, if_pos (anti g g2), if_pos rfl]
      · rw [if_neg g2, if_neg (fun z => g2 (by rw [z]; exact Int32.le_refl _)), if_neg (by decide)]
    · rw [if_neg g, if_neg (fun z => g (by rw [z]; exact Int32.le_refl _)), if_neg (by decide)]
  · rw [if_neg (by decide), if_neg (by decide), if_pos rfl]
    by_cases g : b ≤ a
    · rw [if_pos g]
      by_cases g2 : a ≤ b
      · rw [if_pos g2, if_neg (by decide)]
      · rw [if_neg g2, if_pos rfl]
    · rw [if_neg g, if_pos (tot g), if_neg (by decide)]
