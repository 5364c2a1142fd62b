/-! ===== PURE: a call of the law, out of what the class's method and the reference's do ===== -/
abbrev q_Y : Type := Except Nat Int32
def q_cd (cd : Nat → Int32) (y : q_Y) : Int32 := match y with
  | .ok _ => 0
  | .error e => cd e
def c_does (o : Nat) (M : z_Mem) (s' : q_S) (y : q_Y) (F : Option (q_Y × z_Mem)) : Prop := ∃ M1, F = some (y, M1) ∧ c_all o M1 s' ∧ q_C o M M1
def m_does (o : Nat) (N : z_Mem) (s' : q_S) (y : q_Y) (cd : Nat → Int32) (F : Option (Int32 × z_Mem)) : Prop := ∃ b N', F = some (b, N') ∧ m_all (o + 548) N' s' ∧ q_M o N N' ∧ N'.1 (o + 548) 0 = q_cd cd y ∧ ∀ v, y = .ok v → b = v
def l_does (o : Nat) (M : z_Mem) (s' : q_S) (y : q_Y) (cd : Nat → Int32) (F : Option (Int32 × z_Mem)) : Prop := ∃ M1, F = some (q_cd cd y, M1) ∧ c_all o M1 s' ∧ q_C o M M1 ∧ ∀ v, y = .ok v → M1.2 (o + 573) 0 = v.toInt64
/-- what the law's method with a handler leaves of it -/
theorem l_of {o : Nat} {M : z_Mem} {s' : q_S} {y : q_Y} {cd : Nat → Int32} {F : Option (q_Y × z_Mem)} (h : c_does o M s' y F) {g : Nat → z_Mem → Option (Int32 × z_Mem)} (hg : ∀ e M1, y = .error e → g e M1 = some (cd e, M1)) :
    l_does o M s' y cd (zw z_xim F (fun r M1 => if z_inb (0 : Int32) 1 then some ((0 : Int32), z_wL M1 (o + 573) (0 : Int32).toNatClampNeg r.toInt64) else none) g) := by
  obtain ⟨M1, e, h1, h2⟩ := h
  cases y with
  | ok v =>
    refine ⟨z_wL M1 (o + 573) 0 v.toInt64, ?_, h1, fun a ha => ⟨(h2 a ha).1, ?_⟩, fun v' hv => ?_⟩
    · rw [e]
      rfl
    · rw [← (h2 a ha).2]
      exact z_wL_off (by unfold q_inM at ha; omega)
    · cases hv
      exact wl_same _ _ _ _
  | error n =>
    refine ⟨M1, ?_, h1, h2, fun v' hv => by cases hv⟩
    rw [e]
    exact hg n M1 rfl
/-- a method that writes nothing -/
theorem l_of' {o : Nat} {M : z_Mem} {s : q_S} {y : q_Y} {cd : Nat → Int32} {F : Option q_Y} (hc : c_all o M s) (h : F = some y) {g : Nat → z_Mem → Option (Int32 × z_Mem)} (hg : ∀ e M1, y = .error e → g e M1 = some (cd e, M1)) :
    l_does o M s y cd (zw (z_xi M) F (fun r M1 => if z_inb (0 : Int32) 1 then some ((0 : Int32), z_wL M1 (o + 573) (0 : Int32).toNatClampNeg r.toInt64) else none) g) := by
  have h2 := l_of (o := o) (M := M) (s' := s) (y := y) (cd := cd) (F := some (y, M)) ⟨M, rfl, hc, q_C.rfl'⟩ hg
  rw [h]
  cases y <;> exact h2
/-- what follows the two calls in the law -/
def k_rest (o : Nat) (c : z_Mem → Option (Int32 × z_Mem)) (r1 r3 : Int32) (M4 : z_Mem) : Option (Int32 × z_Mem) := zb (F_Model_thrown (o + 548) M4) fun r5 => (if r5 = r1 then (if r1 = 0 then (if z_inb (0 : Int32) 1 then (if (lg_cmp (M4.2 (o + 573) ((0 : Int32)).toNatClampNeg) (r3).toInt64) = 0 then c M4 else some ((0 : Int32), M4)) else none) else c M4) else some ((0 : Int32), M4))
theorem k_two {o : Nat} {M : z_Mem} {s s' : q_S} {y : q_Y} {cd : Nat → Int32} {FL : Option (Int32 × z_Mem)} {FM : z_Mem → Option (Int32 × z_Mem)} {c : z_Mem → Option (Int32 × z_Mem)} (hcd : ∀ e, cd e ≠ 0) (hm : m_all (o + 548) M s) (hL : l_does o M s' y cd FL) (hM : ∀ N, m_all (o + 548) N s → m_does o N s' y cd (FM N)) :
    ∃ M', (zb2 FL fun r1 M2 => zb2 (FM M2) fun r3 M4 => k_rest o c r1 r3 M4) = c M' ∧ c_all o M' s' ∧ m_all (o + 548) M' s' := by
  obtain ⟨M1, e1, h1, h2, h3⟩ := hL
  obtain ⟨b, N', e2, h4, h5, h6, h7⟩ := hM M1 (hm.keep h2)
  refine ⟨N', ?_, h1.keep h5, h4⟩
  rw [zb2_ok e1, zb2_ok e2]
  unfold k_rest
  rw [zb_ok (show F_Model_thrown (o + 548) N' = some (q_cd cd y) by unfold F_Model_thrown; rw [h6]), if_pos rfl]
  cases y with
  | ok v =>
    have hz : z_inb (0 : Int32) 1 := by decide
    rw [if_pos (show q_cd cd (.ok v) = 0 from rfl), if_pos hz]
    have e3 : N'.2 (o + 573) ((0 : Int32)).toNatClampNeg = b.toInt64 := by
      rw [(h5 (o + 573) (Or.inr rfl)).2, h7 v rfl]
      exact h3 v rfl
    rw [if_pos ((i_cmp0 _ _).mpr e3)]
  | error e =>
    rw [if_neg (show ¬ q_cd cd (.error e) = 0 from hcd e)]
def q_c1 : Nat → Int32 := fun _ => 1
def q_c2 : Nat → Int32 := fun e => if e = 1 then 1 else 2
theorem q_c1n : ∀ e, q_c1 e ≠ 0 := fun _ => (by decide : (1 : Int32) ≠ 0)
theorem q_c2n : ∀ e, q_c2 e ≠ 0 := fun e => by
  unfold q_c2
  split <;> decide
/-- the reference: thrown first is 0 -/
theorem m_thr0 (m : Nat) (M : z_Mem) : (z_wI M m 0 0).1 m 0 = 0 := w_same M m 0 0
theorem q_M.thr {o : Nat} {M : z_Mem} {v : Int32} : q_M o M (z_wI M (o + 548) 0 v) := q_M.w ⟨by omega, by omega⟩
