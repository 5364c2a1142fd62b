/-! ===== PURE: the offers of a new ride ===== -/
abbrev q_O : Type := Nat × Int32 × Int32 × Int32
def q_pick2 (st : Option q_O) (t : Nat) (best : Option q_F) : Option q_O := match best with
  | none => st
  | some f => match st with
    | none => some (t, f.1, f.2.1, f.2.2.1)
    | some g => if f.1 < g.2.1 ∨ (f.1 = g.2.1 ∧ f.2.1 < g.2.2.1) then some (t, f.1, f.2.1, f.2.2.1) else some g
def q_rowC (A : q_R) (r : Nat) (f t p rd la de : Int32) (st : Option q_O) (oe : Int32) : q_R := match st with
  | none => q_new A r (q_v f t p rd la de 0 (-1) (-1) (-1) (-1) oe)
  | some g => q_new A r (q_v f t p rd la de 0 (Int32.ofNat g.1) g.2.1 g.2.2.1 g.2.2.2 oe)
def q_rowM (A : q_R) (r : Nat) (f t p rd la de : Int32) (st : Option q_O) (oe : Int32) : q_R := match st with
  | none => q_new A r (q_v f t p rd la de 4 0 0 0 0 oe)
  | some g => q_new A r (q_v f t p rd la de 0 (Int32.ofNat g.1) g.2.1 g.2.2.1 g.2.2.2 oe)
theorem q_rowC_out {A : q_R} {r k : Nat} {f t p rd la de oe : Int32} {st : Option q_O} (h1 : k ≠ 1) (h : k < 173 + 17 * r ∨ 190 + 17 * r ≤ k) : q_rowC A r f t p rd la de st oe k = A k := by
  cases st <;> exact q_new_out h1 h
theorem q_rowM_out {A : q_R} {r k : Nat} {f t p rd la de oe : Int32} {st : Option q_O} (h1 : k ≠ 1) (h : k < 173 + 17 * r ∨ 190 + 17 * r ≤ k) : q_rowM A r f t p rd la de st oe k = A k := by
  cases st <;> exact q_new_out h1 h
theorem q_rowC_N {A : q_R} {r : Nat} {f t p rd la de oe : Int32} {st : Option q_O} (hr : r < 24) : q_N (q_rowC A r f t p rd la de st oe) = r + 1 := by
  cases st <;> exact q_new_N hr
theorem q_rowM_N {A : q_R} {r : Nat} {f t p rd la de oe : Int32} {st : Option q_O} (hr : r < 24) : q_N (q_rowM A r f t p rd la de st oe) = r + 1 := by
  cases st <;> exact q_new_N hr
theorem i_17 {i : Nat} (h : i < 17) : i = 0 ∨ i = 1 ∨ i = 2 ∨ i = 3 ∨ i = 4 ∨ i = 5 ∨ i = 6 ∨ i = 7 ∨ i = 8 ∨ i = 9 ∨ i = 10 ∨ i = 11 ∨ i = 12 ∨ i = 13 ∨ i = 14 ∨ i = 15 ∨ i = 16 := by omega
section VW
variable {A : q_R} {r : Nat} {f t p rd la de st ot ox op od oe x : Int32}
theorem v_0 : q_w (q_new A r (q_v f t p rd la de st ot ox op od oe)) (173 + 17 * r + 0) x = q_new A r (q_v f t p rd la de x ot ox op od oe) := q_new_w (by omega) rfl fun i hi hne => by
  rcases i_17 hi with rfl | rfl | rfl | rfl | rfl | rfl | rfl | rfl | rfl | rfl | rfl | rfl | rfl | rfl | rfl | rfl | rfl <;> first | rfl | exact absurd rfl hne
theorem v_12 : q_w (q_new A r (q_v f t p rd la de st ot ox op od oe)) (173 + 17 * r + 12) x = q_new A r (q_v f t p rd la de st x ox op od oe) := q_new_w (by omega) rfl fun i hi hne => by
  rcases i_17 hi with rfl | rfl | rfl | rfl | rfl | rfl | rfl | rfl | rfl | rfl | rfl | rfl | rfl | rfl | rfl | rfl | rfl <;> first | rfl | exact absurd rfl hne
theorem v_13 : q_w (q_new A r (q_v f t p rd la de st ot ox op od oe)) (173 + 17 * r + 13) x = q_new A r (q_v f t p rd la de st ot x op od oe) := q_new_w (by omega) rfl fun i hi hne => by
  rcases i_17 hi with rfl | rfl | rfl | rfl | rfl | rfl | rfl | rfl | rfl | rfl | rfl | rfl | rfl | rfl | rfl | rfl | rfl <;> first | rfl | exact absurd rfl hne
theorem v_14 : q_w (q_new A r (q_v f t p rd la de st ot ox op od oe)) (173 + 17 * r + 14) x = q_new A r (q_v f t p rd la de st ot ox x od oe) := q_new_w (by omega) rfl fun i hi hne => by
  rcases i_17 hi with rfl | rfl | rfl | rfl | rfl | rfl | rfl | rfl | rfl | rfl | rfl | rfl | rfl | rfl | rfl | rfl | rfl <;> first | rfl | exact absurd rfl hne
theorem v_15 : q_w (q_new A r (q_v f t p rd la de st ot ox op od oe)) (173 + 17 * r + 15) x = q_new A r (q_v f t p rd la de st ot ox op x oe) := q_new_w (by omega) rfl fun i hi hne => by
  rcases i_17 hi with rfl | rfl | rfl | rfl | rfl | rfl | rfl | rfl | rfl | rfl | rfl | rfl | rfl | rfl | rfl | rfl | rfl <;> first | rfl | exact absurd rfl hne
theorem v_16 : q_w (q_new A r (q_v f t p rd la de st ot ox op od oe)) (173 + 17 * r + 16) x = q_new A r (q_v f t p rd la de st ot ox op od x) := q_new_w (by omega) rfl fun i hi hne => by
  rcases i_17 hi with rfl | rfl | rfl | rfl | rfl | rfl | rfl | rfl | rfl | rfl | rfl | rfl | rfl | rfl | rfl | rfl | rfl <;> first | rfl | exact absurd rfl hne
end VW
theorem c_ride.mk {M : z_Mem} {a r : Nat} {c A : q_R} {f t p rd la de st ot ox op od oe : Int32} (h0 : M.1 a 0 = st) (h1 : M.1 a 1 = f) (h2 : M.1 a 2 = t) (h3 : M.1 a 3 = p) (h4 : M.1 a 4 = rd) (h5 : M.1 a 5 = la) (h6 : M.1 a 6 = de) (h7 : M.1 a 7 = q_way c f t) (h8 : M.1 a 8 = q_most (q_way c f t) de) (h9 : M.1 a 9 = -1) (h10 : M.1 a 10 = -1) (h11 : M.1 a 11 = -1) (h12 : M.1 a 12 = 0) (h13 : M.1 a 13 = 0) (ho : st = 0 → M.1 a 14 = ot ∧ M.1 a 15 = ox ∧ M.1 a 16 = op ∧ M.1 a 17 = od) (h18 : M.1 a 18 = oe) : c_ride M a c (q_new A r (q_v f t p rd la de st ot ox op od oe)) r := by
  have fj : ∀ j, j < 17 → q_new A r (q_v f t p rd la de st ot ox op od oe) (173 + j + 17 * r) = q_v f t p rd la de st ot ox op od oe j := fun j hj => by
    rw [show 173 + j + 17 * r = 173 + 17 * r + j by omega, q_new_in hj]
  have f0 := fj 0 (by omega)
  have f1 := fj 1 (by omega)
  have f2 := fj 2 (by omega)
  have f6 := fj 6 (by omega)
  refine ⟨h0.trans f0.symm, h1.trans f1.symm, h2.trans f2.symm, h3.trans (fj 3 (by omega)).symm, h4.trans (fj 4 (by omega)).symm, h5.trans (fj 5 (by omega)).symm, h6.trans f6.symm, ?_, ?_, h9.trans (fj 7 (by omega)).symm, h10.trans (fj 8 (by omega)).symm, h11.trans (fj 9 (by omega)).symm, h12.trans (fj 10 (by omega)).symm, h13.trans (fj 11 (by omega)).symm, fun q => ?_, h18.trans (fj 16 (by omega)).symm⟩
  · rw [show 174 + 17 * r = 173 + 1 + 17 * r by omega, show 175 + 17 * r = 173 + 2 + 17 * r by omega, f1, f2]
    exact h7
  · rw [show 174 + 17 * r = 173 + 1 + 17 * r by omega, show 175 + 17 * r = 173 + 2 + 17 * r by omega, show 179 + 17 * r = 173 + 6 + 17 * r by omega, f1, f2, f6]
    exact h8
  · have q' : st = 0 := f0.symm.trans q
    obtain ⟨y1, y2, y3, y4⟩ := ho q'
    exact ⟨y1.trans (fj 12 (by omega)).symm, y2.trans (fj 13 (by omega)).symm, y3.trans (fj 14 (by omega)).symm, y4.trans (fj 15 (by omega)).symm⟩
theorem c_ride.un {M : z_Mem} {a r : Nat} {c A : q_R} {f t p rd la de st ot ox op od oe : Int32} (h : c_ride M a c (q_new A r (q_v f t p rd la de st ot ox op od oe)) r) : (M.1 a 0 = st ∧ M.1 a 1 = f ∧ M.1 a 2 = t ∧ M.1 a 3 = p ∧ M.1 a 4 = rd ∧ M.1 a 5 = la ∧ M.1 a 6 = de) ∧ (M.1 a 7 = q_way c f t ∧ M.1 a 8 = q_most (q_way c f t) de) ∧ (M.1 a 9 = -1 ∧ M.1 a 10 = -1 ∧ M.1 a 11 = -1 ∧ M.1 a 12 = 0 ∧ M.1 a 13 = 0) ∧ (st = 0 → M.1 a 14 = ot ∧ M.1 a 15 = ox ∧ M.1 a 16 = op ∧ M.1 a 17 = od) ∧ M.1 a 18 = oe := by
  have fj : ∀ j, j < 17 → q_new A r (q_v f t p rd la de st ot ox op od oe) (173 + j + 17 * r) = q_v f t p rd la de st ot ox op od oe j := fun j hj => by
    rw [show 173 + j + 17 * r = 173 + 17 * r + j by omega, q_new_in hj]
  have f0 := fj 0 (by omega)
  have f1 := fj 1 (by omega)
  have f2 := fj 2 (by omega)
  have f6 := fj 6 (by omega)
  obtain ⟨x0, x1, x2, x3, x4, x5, x6, x7, x8, x9, x10, x11, x12, x13, xo, x18⟩ := h
  refine ⟨⟨x0.trans f0, x1.trans f1, x2.trans f2, x3.trans (fj 3 (by omega)), x4.trans (fj 4 (by omega)), x5.trans (fj 5 (by omega)), x6.trans f6⟩, ⟨?_, ?_⟩, ⟨x9.trans (fj 7 (by omega)), x10.trans (fj 8 (by omega)), x11.trans (fj 9 (by omega)), x12.trans (fj 10 (by omega)), x13.trans (fj 11 (by omega))⟩, fun q => ?_, x18.trans (fj 16 (by omega))⟩
  · rw [show 174 + 17 * r = 173 + 1 + 17 * r by omega, show 175 + 17 * r = 173 + 2 + 17 * r by omega, f1, f2] at x7
    exact x7
  · rw [show 174 + 17 * r = 173 + 1 + 17 * r by omega, show 175 + 17 * r = 173 + 2 + 17 * r by omega, show 179 + 17 * r = 173 + 6 + 17 * r by omega, f1, f2, f6] at x8
    exact x8
  · obtain ⟨y1, y2, y3, y4⟩ := xo (f0.trans q)
    exact ⟨y1.trans (fj 12 (by omega)), y2.trans (fj 13 (by omega)), y3.trans (fj 14 (by omega)), y4.trans (fj 15 (by omega))⟩
/-- the new ride alone has changed -/
theorem c_all.newv {o r : Nat} {M M' : z_Mem} {s : q_S} {v v' : Nat → Int32} (h : c_all o M (q_row s (q_new s.2.1 r v))) (hr : r < 24) (hx : ∀ x, x ≠ o + 5 + 16 + r → (x < o + 487 ∨ o + 495 ≤ x) → M'.1 x = M.1 x) (hR : c_ride M' (o + 5 + 16 + r) s.1 (q_new s.2.1 r v') r) : c_all o M' (q_row s (q_new s.2.1 r v')) := by
  refine h.row (fun x hx' => hx x (by omega) (by omega)) (h.2.1.ride (A' := q_new s.2.1 r v') (by show r < q_N (q_new s.2.1 r v); rw [q_new_N hr]; omega) (fun x h1 h2 h3 => hx x (by omega) (by omega)) (fun k hk => ?_) hR)
  show q_new s.2.1 r v' k = q_new s.2.1 r v k
  unfold q_new
  by_cases h1 : k = 1
  · rw [if_pos h1, if_pos h1]
  · rw [if_neg h1, if_neg h1, if_neg (by omega), if_neg (by omega)]
theorem q_taxiL.new {c A : q_R} {t n : Nat} {rt pt : List Nat} {v : Nat → Int32} (h : q_taxiL c A t n rt pt) (hr : q_N A < 24) (ht : t < 4) (hv : v 0 ≠ 1 ∧ v 0 ≠ 2) : q_taxiL c (q_new A (q_N A) v) t n rt pt := by
  have eN := q_new_N (A := A) (v := v) hr
  refine h.same (by rw [eN]; omega) ⟨q_new_out (by omega) (by omega), q_new_out (by omega) (by omega), fun j q1 q2 => q_new_out (by omega) (by omega)⟩ (fun u hu => ?_)
  rw [eN] at hu
  by_cases hur : u = q_N A
  · subst hur
    refine Or.inr ⟨Or.inr ?_, fun q => absurd q (Nat.lt_irrefl _)⟩
    rw [show 173 + 17 * q_N A = 173 + 17 * q_N A + 0 from rfl, q_new_in (by omega)]
    rintro (q | q)
    · exact hv.1 q
    · exact hv.2 q
  · exact Or.inl ⟨by omega, fun j q1 q2 => q_new_out (by omega) (by omega), q_new_out (by omega) (by omega), q_new_out (by omega) (by omega)⟩
/-- no way, no offer -/
theorem s_best_way {c A : q_R} {t n r : Nat} {rt pt : List Nat} (hJ : q_J c A) (hcJ : q_conJ c) (ht : t < q_T c) (hL : q_taxiL c A t n rt pt) (hr : r < q_N A) (h1 : A (173 + 17 * r) ≠ 1) (h2 : A (173 + 17 * r) ≠ 2) (hb : s_best c A t r rt ≠ none) : q_way c (A (174 + 17 * r)) (A (175 + 17 * r)) ≠ -1 := by
  cases hbs : s_best c A t r rt with
  | none => exact absurd hbs hb
  | some f =>
    have hst := s_best_found (c := c) (A := A) (t := t) (r := r) (L := rt)
    rw [hbs] at hst
    obtain ⟨p, d, -, hpd, hd, -, hok⟩ := hst.1 f rfl
    have hcon := hok.1
    have hlen := g_ins_len (L := rt) (r := r) hpd hd
    rw [← hlen] at hcon
    have hch := g_con'.mp hcon
    obtain ⟨⟨z, hz, ez⟩, -⟩ := hJ.2.2.2 t ht
    have hN := hJ.1.2
    have hzo : ∀ x, x < 2 * q_N A → q_zo A x < 8 := fun x hx => by
      obtain ⟨⟨a, ha, ea⟩, ⟨b, hb', eb⟩, -⟩ := (hJ.2.2.1 (x / 2) (by omega)).1
      unfold q_zo
      by_cases ho : x % 2 = 1
      · rw [if_pos ho, ea, i_cl (by omega)]
        exact ha
      · rw [if_neg ho, eb, i_cl (by omega)]
        exact hb'
    have hch2 := g_filter hcJ (fun x => x / 2 == r) (g_ins rt r p d) _ (by rw [ez, i_cl (by omega)]; exact hz) (fun x hx => by
      rcases g_ins_mem hx with q | q | q
      · exact hzo x (hL.1.2.2.1 x q)
      · exact hzo x (by omega)
      · exact hzo x (by omega)) hch
    have eo : (g_ins rt r p d).filter (fun x => x / 2 == r) = [2 * r + 1, 2 * r] := by
      have e := g_ins_ofr (L := rt) (r := r) (d := d) hpd r
      have ofr0 : q_ofr r rt = [] := by rw [hL.1.2.2.2 r]; exact q_should_0 h1 h2
      rw [if_pos rfl, g_ofr_sub ofr0 (fun x hx => List.mem_of_mem_take hx), g_ofr_sub ofr0 (fun x hx => List.mem_of_mem_drop (List.mem_of_mem_take hx)), g_ofr_sub ofr0 (fun x hx => List.mem_of_mem_drop hx)] at e
      exact e
    rw [eo] at hch2
    have := hch2.2.1
    have e1 : q_zo A (2 * r + 1) = (A (174 + 17 * r)).toNatClampNeg := by
      unfold q_zo
      rw [if_pos (by omega), show (2 * r + 1) / 2 = r by omega]
    have e2 : q_zo A (2 * r) = (A (175 + 17 * r)).toNatClampNeg := by
      unfold q_zo
      rw [if_neg (by omega), show 2 * r / 2 = r by omega]
    rw [e1, e2] at this
    exact this
def c_go2 (o : Nat) (M M' : z_Mem) : Prop := (∀ x, (x < o + 5 ∨ (o + 45 ≤ x ∧ x < o + 487) ∨ o + 495 ≤ x) → M'.1 x = M.1 x) ∧ M'.2 = M.2
theorem c_go2.tr {o : Nat} {M M' M'' : z_Mem} (h : c_go2 o M M') (h' : c_go2 o M' M'') : c_go2 o M M'' := ⟨fun x hx => (h'.1 x hx).trans (h.1 x hx), h'.2.trans h.2⟩
theorem c_go2.C {o : Nat} {M M' : z_Mem} (h : c_go2 o M M') : q_C o M M' := fun a ha => ⟨h.1 a (by unfold q_inM at ha; omega), by rw [h.2]⟩
theorem c_fb.go {o : Nat} {M M' : z_Mem} (h : c_fb o M M') : c_go2 o M M' := ⟨fun x hx => h.1 x (by omega), h.2⟩
def m_go2 (m : Nat) (N N' : z_Mem) : Prop := (∀ x, x ≠ m → x ≠ m + 1 → (x < m + 13 ∨ m + 20 ≤ x) → N'.1 x = N.1 x) ∧ (∀ k, (k < 39 ∨ 44 < k) → N'.1 m k = N.1 m k) ∧ N'.2 = N.2
theorem m_go2.rfl' {m : Nat} {N : z_Mem} : m_go2 m N N := ⟨fun _ _ _ _ => rfl, fun _ _ => rfl, rfl⟩
theorem m_go2.tr {m : Nat} {M M' M'' : z_Mem} (h : m_go2 m M M') (h' : m_go2 m M' M'') : m_go2 m M M'' := ⟨fun x h1 h2 h3 => (h'.1 x h1 h2 h3).trans (h.1 x h1 h2 h3), fun k hk => (h'.2.1 k hk).trans (h.2.1 k hk), h'.2.2.trans h.2.2⟩
theorem m_fb.go {m : Nat} {M M' : z_Mem} (h : m_fb m M M') : m_go2 m M M' := ⟨fun x h1 _ h3 => h.1 x h1 h3, h.2.1, h.2.2⟩
theorem m_go2.one {m : Nat} {M M' : z_Mem} (h : ∀ x, x ≠ m + 1 → M'.1 x = M.1 x) (h2 : M'.2 = M.2) : m_go2 m M M' := ⟨fun x _ h3 _ => h x h3, fun k _ => by rw [h m (by omega)], h2⟩
theorem m_go2.M {o : Nat} {M M' : z_Mem} (h : m_go2 (o + 548) M M') : q_M o M M' := fun a ha => ⟨h.1 a (by unfold q_inC at ha; omega) (by unfold q_inC at ha; omega) (by unfold q_inC at ha; omega), by rw [h.2.2]⟩
theorem a_offers {o a b p : Nat} {s : q_S} {rd la de : Int32} (hI : q_In s) (hr : q_N s.2.1 < 24) (ha : a < 8) (hb : b < 8) (hp1 : 1 ≤ p) (hp6 : p ≤ 6) : ∀ (k i : Nat) (st : Option q_O), i + k = q_T s.1 → (∀ g, st = some g → g.1 < q_T s.1) → ∀ (f : Nat) (M : z_Mem), k < f → c_all o M (q_row s (q_rowC s.2.1 (q_N s.2.1) (Int32.ofNat a) (Int32.ofNat b) (Int32.ofNat p) rd la de st (-1))) →
    ∃ st' : Option q_O, (∀ g, st' = some g → g.1 < q_T s.1) ∧ (∃ M', F_Sys_findOffer_L2 o f (o + 5 + 16 + q_N s.2.1) (Int32.ofNat (q_N s.2.1)) (Int32.ofNat i) M = some M' ∧ c_all o M' (q_row s (q_rowM s.2.1 (q_N s.2.1) (Int32.ofNat a) (Int32.ofNat b) (Int32.ofNat p) rd la de st' (s.2.1 0 + s.2.1 5))) ∧ c_go2 o M M') ∧ ∀ (N : z_Mem) (g : Nat), k < g → m_all (o + 548) N (q_row s (q_rowM s.2.1 (q_N s.2.1) (Int32.ofNat a) (Int32.ofNat b) (Int32.ofNat p) rd la de st 0)) → ∃ N', F_Model_offers_L9 (o + 548) g (Int32.ofNat (q_N s.2.1)) (Int32.ofNat i) N = some N' ∧ m_all (o + 548) N' (q_row s (q_rowM s.2.1 (q_N s.2.1) (Int32.ofNat a) (Int32.ofNat b) (Int32.ofNat p) rd la de st' (s.2.1 0 + s.2.1 5))) ∧ m_go2 (o + 548) N N' := by
  have hT4 := hI.I.taxis4
  intro k
  induction k with
  | zero =>
    intro i st hi hst f M hf hc
    obtain ⟨f, rfl⟩ : ∃ g, f = g + 1 := ⟨f - 1, by omega⟩
    have hi' : i = q_T s.1 := by omega
    subst hi'
    refine ⟨st, hst, ?_, fun N g hg hm => ?_⟩
    · -- the class
      have r3 : M.1 (o + 5) 3 = Int32.ofNat (q_T s.1) := hc.2.1.2.2.2.2.1.trans hI.I.taxis
      have r0 : M.1 (o + 5) 0 = s.2.1 0 := by
        exact hc.2.1.2.1.trans (q_rowC_out (by omega) (by omega))
      have r5 : F_Desk_ruleValue (o + 5) 2 M = some (s.2.1 5) := by
        rw [a_ruleV (kl := 2) (k := 2) hc (by omega) rfl]
        exact congrArg some (q_rowC_out (k := 5) (by omega) (by omega))
      unfold F_Sys_findOffer_L2 F_Sys_findOffer_B2 F_Sys_findOffer_J108 F_Sys_findOffer_J142
      rw [r3, if_pos ((i_le (by omega) (by omega)).mpr (Nat.le_refl _)), zb_ok r5, r0]
      simp only [zl]
      rw [w_slot _ (show (14 : Nat) ≠ 18 by decide)]
      cases st with
      | none =>
        have hcr := hc.2.1.2.2.2.2.2.2.2.2 (q_N s.2.1) (by show q_N s.2.1 < q_N (q_new _ _ _); rw [q_new_N hr]; omega)
        obtain ⟨⟨x0, x1, x2, x3, x4, x5, x6⟩, ⟨x7, x8⟩, ⟨x9, x10, x11, x12, x13⟩, xo, x18⟩ := c_ride.un hcr
        rw [(xo rfl).1, if_pos rfl]
        refine ⟨_, rfl, hc.newv (v' := q_v (Int32.ofNat a) (Int32.ofNat b) (Int32.ofNat p) rd la de 4 0 0 0 0 (s.2.1 0 + s.2.1 5)) hr (fun x h1 h2 => funext fun j => (w_addr j h1).trans (w_addr j h1)) (c_ride.mk (w_same _ _ _ _) ?_ ?_ ?_ ?_ ?_ ?_ ?_ ?_ ?_ ?_ ?_ ?_ ?_ (fun q => absurd q (by decide)) ?_), ⟨fun x hx => funext fun j => (w_addr j (by omega)).trans (w_addr j (by omega)), rfl⟩⟩
        all_goals rw [w_slot _ (by decide)]
        · rw [w_slot _ (by decide), x1]
        · rw [w_slot _ (by decide), x2]
        · rw [w_slot _ (by decide), x3]
        · rw [w_slot _ (by decide), x4]
        · rw [w_slot _ (by decide), x5]
        · rw [w_slot _ (by decide), x6]
        · rw [w_slot _ (by decide)]
          exact x7
        · rw [w_slot _ (by decide)]
          exact x8
        · rw [w_slot _ (by decide), x9]
        · rw [w_slot _ (by decide), x10]
        · rw [w_slot _ (by decide), x11]
        · rw [w_slot _ (by decide), x12]
        · rw [w_slot _ (by decide), x13]
        · rw [w_same]
      | some g =>
        have hcr := hc.2.1.2.2.2.2.2.2.2.2 (q_N s.2.1) (by show q_N s.2.1 < q_N (q_new _ _ _); rw [q_new_N hr]; omega)
        obtain ⟨⟨x0, x1, x2, x3, x4, x5, x6⟩, ⟨x7, x8⟩, ⟨x9, x10, x11, x12, x13⟩, xo, x18⟩ := c_ride.un hcr
        obtain ⟨y1, y2, y3, y4⟩ := xo rfl
        have hg := hst g rfl
        rw [y1, if_neg (i_nm1 (by omega))]
        refine ⟨_, rfl, hc.newv (v' := q_v (Int32.ofNat a) (Int32.ofNat b) (Int32.ofNat p) rd la de 0 (Int32.ofNat g.1) g.2.1 g.2.2.1 g.2.2.2 (s.2.1 0 + s.2.1 5)) hr (fun x h1 h2 => funext fun j => (w_addr j h1).trans (w_addr j h1)) (c_ride.mk (w_same _ _ _ _) ?_ ?_ ?_ ?_ ?_ ?_ ?_ ?_ ?_ ?_ ?_ ?_ ?_ (fun q => ⟨?_, ?_, ?_, ?_⟩) ?_), ⟨fun x hx => funext fun j => (w_addr j (by omega)).trans (w_addr j (by omega)), rfl⟩⟩
        all_goals rw [w_slot _ (by decide)]
        · rw [w_slot _ (by decide), x1]
        · rw [w_slot _ (by decide), x2]
        · rw [w_slot _ (by decide), x3]
        · rw [w_slot _ (by decide), x4]
        · rw [w_slot _ (by decide), x5]
        · rw [w_slot _ (by decide), x6]
        · rw [w_slot _ (by decide)]
          exact x7
        · rw [w_slot _ (by decide)]
          exact x8
        · rw [w_slot _ (by decide), x9]
        · rw [w_slot _ (by decide), x10]
        · rw [w_slot _ (by decide), x11]
        · rw [w_slot _ (by decide), x12]
        · rw [w_slot _ (by decide), x13]
        · rw [w_slot _ (by decide), y1]
        · rw [w_slot _ (by decide), y2]
        · rw [w_slot _ (by decide), y3]
        · rw [w_slot _ (by decide), y4]
        · rw [w_same]
    · -- the reference
      obtain ⟨g, rfl⟩ : ∃ g', g = g' + 1 := ⟨g - 1, by omega⟩
      have hz0 : z_inb (0 : Int32) 581 := by decide
      have r17 : N.1 (o + 548) 17 = Int32.ofNat (q_T s.1) := hm.1.2.2.1.trans hI.I.taxis
      have r0 : N.1 (o + 548 + 1) (0 : Int32).toNatClampNeg = s.2.1 0 := by
        exact (m_at hm (k := 0) (by omega)).trans (q_rowM_out (by omega) (by omega))
      have r5 : F_Model_ruled (o + 548) 2 N = some (s.2.1 5) := by
        rw [m_ruledL (kl := 2) hm 2 (by omega) rfl]
        exact congrArg some (q_rowM_out (k := 5) (by omega) (by omega))
      have m2 := hm.w (k := 173 + 17 * q_N s.2.1 + 16) (v := s.2.1 0 + s.2.1 5)
      refine ⟨z_wI N (o + 548 + 1) (173 + 17 * q_N s.2.1 + 16) (s.2.1 0 + s.2.1 5), ?_, ?_, m_go2.one (fun x hx => funext fun j => w_addr j hx) rfl⟩
      · unfold F_Model_offers_L9 F_Model_offers_B9
        rw [r17, if_pos ((i_le (by omega) (by omega)).mpr (Nat.le_refl _)), if_pos hz0, zb_ok r5, r0, zb_ok (m_sets (kl := 16) (k := 16) hr (by omega) rfl)]
      · have erow : q_up (q_row s (q_rowM s.2.1 (q_N s.2.1) (Int32.ofNat a) (Int32.ofNat b) (Int32.ofNat p) rd la de st 0)) (173 + 17 * q_N s.2.1 + 16) (s.2.1 0 + s.2.1 5) = q_row s (q_rowM s.2.1 (q_N s.2.1) (Int32.ofNat a) (Int32.ofNat b) (Int32.ofNat p) rd la de st (s.2.1 0 + s.2.1 5)) := by
          refine congrArg (q_row s) ?_
          cases st <;> exact v_16
        rw [erow] at m2
        exact m2
  | succ k ih =>
    intro i st hi hst f M hf hc
    obtain ⟨f, rfl⟩ : ∃ g, f = g + 1 := ⟨f - 1, by omega⟩
    have hiT : i < q_T s.1 := by omega
    have ci : (Int32.ofNat i).toNatClampNeg = i := i_cl (by omega)
    obtain ⟨n, rt, pt, hn, en, hL⟩ := hI.L hiT
    have hIc : q_In (q_row s (q_rowC s.2.1 (q_N s.2.1) (Int32.ofNat a) (Int32.ofNat b) (Int32.ofNat p) rd la de st (-1))) := by
      cases st <;> exact hI.new hr ha hb hp1 hp6 (by decide)
    have hLc : q_taxiL s.1 (q_rowC s.2.1 (q_N s.2.1) (Int32.ofNat a) (Int32.ofNat b) (Int32.ofNat p) rd la de st (-1)) i n rt pt := by
      cases st <;> exact hL.new hr (by omega) (by show (0 : Int32) ≠ 1 ∧ (0 : Int32) ≠ 2; decide)
    have hIm : q_In (q_row s (q_rowM s.2.1 (q_N s.2.1) (Int32.ofNat a) (Int32.ofNat b) (Int32.ofNat p) rd la de st 0)) := by
      cases st <;> exact hI.new hr ha hb hp1 hp6 (by decide)
    have hLm : q_taxiL s.1 (q_rowM s.2.1 (q_N s.2.1) (Int32.ofNat a) (Int32.ofNat b) (Int32.ofNat p) rd la de st 0) i n rt pt := by
      cases st with
      | none => exact hL.new hr (by omega) (by show (4 : Int32) ≠ 1 ∧ (4 : Int32) ≠ 2; decide)
      | some g => exact hL.new hr (by omega) (by show (0 : Int32) ≠ 1 ∧ (0 : Int32) ≠ 2; decide)
    have hp37 : (q_rowC s.2.1 (q_N s.2.1) (Int32.ofNat a) (Int32.ofNat b) (Int32.ofNat p) rd la de st (-1) (37 + 40 * i)).toNatClampNeg ≤ 6 := by
      rw [hLc.2.1.1.1, i_cl (by have := hLc.2.1.2.1; omega)]
      exact hLc.2.1.2.1
    have ebest : s_best s.1 (q_rowM s.2.1 (q_N s.2.1) (Int32.ofNat a) (Int32.ofNat b) (Int32.ofNat p) rd la de st 0) i (q_N s.2.1) rt = s_best s.1 (q_rowC s.2.1 (q_N s.2.1) (Int32.ofNat a) (Int32.ofNat b) (Int32.ofNat p) rd la de st (-1)) i (q_N s.2.1) rt := by
      refine e_best ?_ (by omega) hp37 rt
      cases st with
      | none => exact q_new_sim (by decide) (by decide)
      | some g => exact q_new_sim (by decide) (by decide)
    have hrC : q_N s.2.1 < q_N (q_rowC s.2.1 (q_N s.2.1) (Int32.ofNat a) (Int32.ofNat b) (Int32.ofNat p) rd la de st (-1)) := by rw [q_rowC_N hr]; omega
    have hrM : q_N s.2.1 < q_N (q_rowM s.2.1 (q_N s.2.1) (Int32.ofNat a) (Int32.ofNat b) (Int32.ofNat p) rd la de st 0) := by rw [q_rowM_N hr]; omega
    obtain ⟨M3, v, e3, p3, b3⟩ := c_findBest (o := o) (r := q_N s.2.1) hIc hiT hLc hrC hc
    have c3 := p3.all hc
    have hway : s_best s.1 (q_rowC s.2.1 (q_N s.2.1) (Int32.ofNat a) (Int32.ofNat b) (Int32.ofNat p) rd la de st (-1)) i (q_N s.2.1) rt ≠ none → q_way s.1 (Int32.ofNat a) (Int32.ofNat b) ≠ -1 := fun q => by
      have st0 : q_rowC s.2.1 (q_N s.2.1) (Int32.ofNat a) (Int32.ofNat b) (Int32.ofNat p) rd la de st (-1) (173 + 17 * q_N s.2.1) = 0 := by
        cases st <;> exact q_new_in (j := 0) (by omega)
      have := s_best_way hIc.2.1 hIc.1.2 hiT hLc hrC (fun z => absurd (st0.symm.trans z) (by decide)) (fun z => absurd (st0.symm.trans z) (by decide)) q
      have f1 : q_rowC s.2.1 (q_N s.2.1) (Int32.ofNat a) (Int32.ofNat b) (Int32.ofNat p) rd la de st (-1) (174 + 17 * q_N s.2.1) = Int32.ofNat a := by
        rw [show 174 + 17 * q_N s.2.1 = 173 + 17 * q_N s.2.1 + 1 by omega]
        cases st <;> exact q_new_in (by omega)
      have f2 : q_rowC s.2.1 (q_N s.2.1) (Int32.ofNat a) (Int32.ofNat b) (Int32.ofNat p) rd la de st (-1) (175 + 17 * q_N s.2.1) = Int32.ofNat b := by
        rw [show 175 + 17 * q_N s.2.1 = 173 + 17 * q_N s.2.1 + 2 by omega]
        cases st <;> exact q_new_in (by omega)
      have e : q_way s.1 (Int32.ofNat a) (Int32.ofNat b) = q_way s.1 (q_rowC s.2.1 (q_N s.2.1) (Int32.ofNat a) (Int32.ofNat b) (Int32.ofNat p) rd la de st (-1) (174 + 17 * q_N s.2.1)) (q_rowC s.2.1 (q_N s.2.1) (Int32.ofNat a) (Int32.ofNat b) (Int32.ofNat p) rd la de st (-1) (175 + 17 * q_N s.2.1)) := by rw [f1, f2]
      rw [e]
      exact this
    have b3 : c_best M3 o (s_best s.1 (q_rowC s.2.1 (q_N s.2.1) (Int32.ofNat a) (Int32.ofNat b) (Int32.ofNat p) rd la de st (-1)) i (q_N s.2.1) rt) v := b3
    generalize hbest : s_best s.1 (q_rowC s.2.1 (q_N s.2.1) (Int32.ofNat a) (Int32.ofNat b) (Int32.ofNat p) rd la de st (-1)) i (q_N s.2.1) rt = best at b3 ebest hway
    have hst2 : ∀ g, q_pick2 st i best = some g → g.1 < q_T s.1 := fun g hg => by
      unfold q_pick2 at hg
      cases best with
      | none => exact hst g hg
      | some f' =>
        cases st with
        | none =>
          have : (i, f'.1, f'.2.1, f'.2.2.1) = g := Option.some.inj hg
          rw [← this]
          exact hiT
        | some g0 =>
          have hg : (if f'.1 < g0.2.1 ∨ (f'.1 = g0.2.1 ∧ f'.2.1 < g0.2.2.1) then some (i, f'.1, f'.2.1, f'.2.2.1) else some g0) = some g := hg
          split at hg
          · rw [← Option.some.inj hg]
            exact hiT
          · exact hst g hg
    -- what the class writes
    have hcr := c3.2.1.2.2.2.2.2.2.2.2 (q_N s.2.1) hrC
    have hJ64 : ∀ f', best = some f' → ∃ M4, F_Sys_findOffer_J64 o (F_Sys_findOffer_L2 o f) (o + 5 + 16 + q_N s.2.1) (Int32.ofNat (q_N s.2.1)) (Int32.ofNat i) M3 = F_Sys_findOffer_L2 o f (o + 5 + 16 + q_N s.2.1) (Int32.ofNat (q_N s.2.1)) (Int32.ofNat (i + 1)) M4 ∧ c_all o M4 (q_row s (q_rowC s.2.1 (q_N s.2.1) (Int32.ofNat a) (Int32.ofNat b) (Int32.ofNat p) rd la de (some (i, f'.1, f'.2.1, f'.2.2.1)) (-1))) ∧ c_go2 o M3 M4 := fun f' hf' => by
      rw [hf'] at b3
      obtain ⟨-, g0, g1, g2, g3, g4⟩ := b3
      have un : ∀ j, j ≠ 14 → j ≠ 15 → j ≠ 16 → j ≠ 17 → (z_wI (z_wI (z_wI (z_wI M3 (o + 5 + 16 + q_N s.2.1) 14 (Int32.ofNat i)) (o + 5 + 16 + q_N s.2.1) 15 f'.1) (o + 5 + 16 + q_N s.2.1) 16 f'.2.1) (o + 5 + 16 + q_N s.2.1) 17 f'.2.2.1).1 (o + 5 + 16 + q_N s.2.1) j = M3.1 (o + 5 + 16 + q_N s.2.1) j := fun j q1 q2 q3 q4 => by
        rw [w_slot _ q4, w_slot _ q3, w_slot _ q2, w_slot _ q1]
      have cr4 : c_ride (z_wI (z_wI (z_wI (z_wI M3 (o + 5 + 16 + q_N s.2.1) 14 (Int32.ofNat i)) (o + 5 + 16 + q_N s.2.1) 15 f'.1) (o + 5 + 16 + q_N s.2.1) 16 f'.2.1) (o + 5 + 16 + q_N s.2.1) 17 f'.2.2.1) (o + 5 + 16 + q_N s.2.1) s.1 (q_new s.2.1 (q_N s.2.1) (q_v (Int32.ofNat a) (Int32.ofNat b) (Int32.ofNat p) rd la de 0 (Int32.ofNat i) f'.1 f'.2.1 f'.2.2.1 (-1))) (q_N s.2.1) := by
        have ho4 : (z_wI (z_wI (z_wI (z_wI M3 (o + 5 + 16 + q_N s.2.1) 14 (Int32.ofNat i)) (o + 5 + 16 + q_N s.2.1) 15 f'.1) (o + 5 + 16 + q_N s.2.1) 16 f'.2.1) (o + 5 + 16 + q_N s.2.1) 17 f'.2.2.1).1 (o + 5 + 16 + q_N s.2.1) 14 = Int32.ofNat i ∧ (z_wI (z_wI (z_wI (z_wI M3 (o + 5 + 16 + q_N s.2.1) 14 (Int32.ofNat i)) (o + 5 + 16 + q_N s.2.1) 15 f'.1) (o + 5 + 16 + q_N s.2.1) 16 f'.2.1) (o + 5 + 16 + q_N s.2.1) 17 f'.2.2.1).1 (o + 5 + 16 + q_N s.2.1) 15 = f'.1 ∧ (z_wI (z_wI (z_wI (z_wI M3 (o + 5 + 16 + q_N s.2.1) 14 (Int32.ofNat i)) (o + 5 + 16 + q_N s.2.1) 15 f'.1) (o + 5 + 16 + q_N s.2.1) 16 f'.2.1) (o + 5 + 16 + q_N s.2.1) 17 f'.2.2.1).1 (o + 5 + 16 + q_N s.2.1) 16 = f'.2.1 ∧ (z_wI (z_wI (z_wI (z_wI M3 (o + 5 + 16 + q_N s.2.1) 14 (Int32.ofNat i)) (o + 5 + 16 + q_N s.2.1) 15 f'.1) (o + 5 + 16 + q_N s.2.1) 16 f'.2.1) (o + 5 + 16 + q_N s.2.1) 17 f'.2.2.1).1 (o + 5 + 16 + q_N s.2.1) 17 = f'.2.2.1 :=
          ⟨by rw [w_slot _ (by decide), w_slot _ (by decide), w_slot _ (by decide), w_same], by rw [w_slot _ (by decide), w_slot _ (by decide), w_same], by rw [w_slot _ (by decide), w_same], w_same _ _ _ _⟩
        cases st with
        | none =>
          obtain ⟨⟨x0, x1, x2, x3, x4, x5, x6⟩, ⟨x7, x8⟩, ⟨x9, x10, x11, x12, x13⟩, xo, x18⟩ := c_ride.un hcr
          exact c_ride.mk ((un 0 (by decide) (by decide) (by decide) (by decide)).trans x0) ((un 1 (by decide) (by decide) (by decide) (by decide)).trans x1) ((un 2 (by decide) (by decide) (by decide) (by decide)).trans x2) ((un 3 (by decide) (by decide) (by decide) (by decide)).trans x3) ((un 4 (by decide) (by decide) (by decide) (by decide)).trans x4) ((un 5 (by decide) (by decide) (by decide) (by decide)).trans x5) ((un 6 (by decide) (by decide) (by decide) (by decide)).trans x6) ((un 7 (by decide) (by decide) (by decide) (by decide)).trans x7) ((un 8 (by decide) (by decide) (by decide) (by decide)).trans x8) ((un 9 (by decide) (by decide) (by decide) (by decide)).trans x9) ((un 10 (by decide) (by decide) (by decide) (by decide)).trans x10) ((un 11 (by decide) (by decide) (by decide) (by decide)).trans x11) ((un 12 (by decide) (by decide) (by decide) (by decide)).trans x12) ((un 13 (by decide) (by decide) (by decide) (by decide)).trans x13) (fun _ => ho4) ((un 18 (by decide) (by decide) (by decide) (by decide)).trans x18)
        | some g =>
          obtain ⟨⟨x0, x1, x2, x3, x4, x5, x6⟩, ⟨x7, x8⟩, ⟨x9, x10, x11, x12, x13⟩, xo, x18⟩ := c_ride.un hcr
          exact c_ride.mk ((un 0 (by decide) (by decide) (by decide) (by decide)).trans x0) ((un 1 (by decide) (by decide) (by decide) (by decide)).trans x1) ((un 2 (by decide) (by decide) (by decide) (by decide)).trans x2) ((un 3 (by decide) (by decide) (by decide) (by decide)).trans x3) ((un 4 (by decide) (by decide) (by decide) (by decide)).trans x4) ((un 5 (by decide) (by decide) (by decide) (by decide)).trans x5) ((un 6 (by decide) (by decide) (by decide) (by decide)).trans x6) ((un 7 (by decide) (by decide) (by decide) (by decide)).trans x7) ((un 8 (by decide) (by decide) (by decide) (by decide)).trans x8) ((un 9 (by decide) (by decide) (by decide) (by decide)).trans x9) ((un 10 (by decide) (by decide) (by decide) (by decide)).trans x10) ((un 11 (by decide) (by decide) (by decide) (by decide)).trans x11) ((un 12 (by decide) (by decide) (by decide) (by decide)).trans x12) ((un 13 (by decide) (by decide) (by decide) (by decide)).trans x13) (fun _ => ho4) ((un 18 (by decide) (by decide) (by decide) (by decide)).trans x18)
      refine ⟨z_wI (z_wI (z_wI (z_wI M3 (o + 5 + 16 + q_N s.2.1) 14 (Int32.ofNat i)) (o + 5 + 16 + q_N s.2.1) 15 f'.1) (o + 5 + 16 + q_N s.2.1) 16 f'.2.1) (o + 5 + 16 + q_N s.2.1) 17 f'.2.2.1, ?_, ?_, ⟨fun x hx => ?_, rfl⟩⟩
      · unfold F_Sys_findOffer_J64
        simp only [zl]
        rw [w_addr (M := M3) _ (show o + 494 ≠ o + 5 + 16 + q_N s.2.1 by omega), g0, w_addr _ (show o + 494 ≠ o + 5 + 16 + q_N s.2.1 by omega), w_addr _ (show o + 494 ≠ o + 5 + 16 + q_N s.2.1 by omega), g1, w_addr _ (show o + 494 ≠ o + 5 + 16 + q_N s.2.1 by omega), w_addr _ (show o + 494 ≠ o + 5 + 16 + q_N s.2.1 by omega), w_addr _ (show o + 494 ≠ o + 5 + 16 + q_N s.2.1 by omega), g2, i_succ]
      · cases st with
        | none => exact c3.newv hr (fun x h1 h2 => funext fun j => (w_addr j h1).trans ((w_addr j h1).trans ((w_addr j h1).trans (w_addr j h1)))) cr4
        | some g => exact c3.newv hr (fun x h1 h2 => funext fun j => (w_addr j h1).trans ((w_addr j h1).trans ((w_addr j h1).trans (w_addr j h1)))) cr4
      · exact funext fun j => (w_addr j (by omega)).trans ((w_addr j (by omega)).trans ((w_addr j (by omega)).trans (w_addr j (by omega))))
    have keyC : ∃ M4, F_Sys_findOffer_L2 o (f + 1) (o + 5 + 16 + q_N s.2.1) (Int32.ofNat (q_N s.2.1)) (Int32.ofNat i) M = F_Sys_findOffer_L2 o f (o + 5 + 16 + q_N s.2.1) (Int32.ofNat (q_N s.2.1)) (Int32.ofNat (i + 1)) M4 ∧ c_all o M4 (q_row s (q_rowC s.2.1 (q_N s.2.1) (Int32.ofNat a) (Int32.ofNat b) (Int32.ofNat p) rd la de (q_pick2 st i best) (-1))) ∧ c_go2 o M M4 := by
      have r3 : M.1 (o + 5) 3 = Int32.ofNat (q_T s.1) := hc.2.1.2.2.2.2.1.trans hI.I.taxis
      have eB : F_Sys_findOffer_L2 o (f + 1) (o + 5 + 16 + q_N s.2.1) (Int32.ofNat (q_N s.2.1)) (Int32.ofNat i) M = (if v = 0 then F_Sys_findOffer_L2 o f (o + 5 + 16 + q_N s.2.1) (Int32.ofNat (q_N s.2.1)) (Int32.ofNat (i + 1)) M3 else if (M3.1 (o + 5 + 16 + q_N s.2.1) 14) = -1 then F_Sys_findOffer_J64 o (F_Sys_findOffer_L2 o f) (o + 5 + 16 + q_N s.2.1) (Int32.ofNat (q_N s.2.1)) (Int32.ofNat i) M3 else zb (F_Insertion_isBetterThan o (M3.1 (o + 5 + 16 + q_N s.2.1) 15) (M3.1 (o + 5 + 16 + q_N s.2.1) 16) M3) fun x6 => if x6 = 0 then F_Sys_findOffer_L2 o f (o + 5 + 16 + q_N s.2.1) (Int32.ofNat (q_N s.2.1)) (Int32.ofNat (i + 1)) M3 else F_Sys_findOffer_J64 o (F_Sys_findOffer_L2 o f) (o + 5 + 16 + q_N s.2.1) (Int32.ofNat (q_N s.2.1)) (Int32.ofNat i) M3) := by
        rw [← i_succ]
        conv => lhs; unfold F_Sys_findOffer_L2 F_Sys_findOffer_B2
        rw [r3, if_neg (i_nle (by omega) (by omega) hiT), if_neg (show ¬ (4 : Int32) ≤ Int32.ofNat i from i_nle (a := 4) (by decide) (by omega) (by omega)), if_pos ((i_inb (by omega)).mpr (by omega)), ci]
        simp only [zl]
        rw [zb2_ok e3]
      rw [eB]
      cases best with
      | none =>
        rw [if_pos (show v = 0 from b3)]
        exact ⟨M3, rfl, c3, p3.go⟩
      | some f' =>
        have hv1 : ¬ v = 0 := by rw [b3.1]; decide
        have b30 := b3.2.1
        have b31 := b3.2.2.1
        obtain ⟨M4, e4, c4, g4⟩ := hJ64 f' rfl
        rw [if_neg hv1]
        cases st with
        | none =>
          obtain ⟨-, -, -, xo, -⟩ := c_ride.un hcr
          rw [(xo rfl).1, if_pos rfl]
          exact ⟨M4, e4, c4, p3.go.tr g4⟩
        | some g =>
          obtain ⟨-, -, -, xo, -⟩ := c_ride.un hcr
          obtain ⟨y1, y2, y3, y4⟩ := xo rfl
          have hg := hst g rfl
          rw [y1, if_neg (i_nm1 (by omega)), y2, y3]
          unfold F_Insertion_isBetterThan F_Insertion_isBetterThan_J24
          rw [b30, b31]
          have ep : q_pick2 (some g) i (some f') = if f'.1 < g.2.1 ∨ (f'.1 = g.2.1 ∧ f'.2.1 < g.2.2.1) then some (i, f'.1, f'.2.1, f'.2.2.1) else some g := rfl
          rw [ep]
          by_cases q1 : f'.1 < g.2.1
          · rw [if_pos q1, if_pos (show f'.1 < g.2.1 ∨ _ from Or.inl q1)]
            exact ⟨M4, e4, c4, p3.go.tr g4⟩
          · rw [if_neg q1]
            by_cases q2 : f'.1 = g.2.1
            · rw [if_pos q2]
              by_cases q3 : g.2.2.1 ≤ f'.2.1
              · rw [if_pos q3, if_neg (show ¬ (f'.1 < g.2.1 ∨ (f'.1 = g.2.1 ∧ f'.2.1 < g.2.2.1)) from fun z => by
                  rcases z with z | z
                  · exact q1 z
                  · exact (i_nltle _ _).mpr q3 z.2)]
                exact ⟨M3, rfl, c3, p3.go⟩
              · rw [if_neg q3, if_pos (show f'.1 < g.2.1 ∨ (f'.1 = g.2.1 ∧ f'.2.1 < g.2.2.1) from Or.inr ⟨q2, Decidable.byContradiction fun z => q3 ((i_nltle _ _).mp z)⟩)]
                exact ⟨M4, e4, c4, p3.go.tr g4⟩
            · rw [if_neg q2, if_neg (show ¬ (f'.1 < g.2.1 ∨ (f'.1 = g.2.1 ∧ f'.2.1 < g.2.2.1)) from fun z => by
                rcases z with z | z
                · exact q1 z
                · exact q2 z.1)]
              exact ⟨M3, rfl, c3, p3.go⟩
    obtain ⟨M4, eC, c4, g4⟩ := keyC
    obtain ⟨st', hst', ⟨M', e', c', g'⟩, hM⟩ := ih (i + 1) (q_pick2 st i best) (by omega) hst2 f M4 (by omega) c4
    refine ⟨st', hst', ⟨M', eC.trans e', c', g4.tr g'⟩, fun N g hg hm => ?_⟩
    obtain ⟨g, rfl⟩ : ∃ g', g = g' + 1 := ⟨g - 1, by omega⟩
    suffices key : ∃ N4, F_Model_offers_L9 (o + 548) (g + 1) (Int32.ofNat (q_N s.2.1)) (Int32.ofNat i) N = F_Model_offers_L9 (o + 548) g (Int32.ofNat (q_N s.2.1)) (Int32.ofNat (i + 1)) N4 ∧ m_all (o + 548) N4 (q_row s (q_rowM s.2.1 (q_N s.2.1) (Int32.ofNat a) (Int32.ofNat b) (Int32.ofNat p) rd la de (q_pick2 st i best) 0)) ∧ m_go2 (o + 548) N N4 by
      obtain ⟨N4, e4, m4, h4⟩ := key
      obtain ⟨N', e5, m5, h5⟩ := hM N4 g (by omega) m4
      exact ⟨N', e4.trans e5, m5, h4.tr h5⟩
    have edir : F_Model_directOf (o + 548) (Int32.ofNat (q_N s.2.1)) N = some (q_way s.1 (Int32.ofNat a) (Int32.ofNat b)) := by
      have := a_direct_m hm hr (hIm.2.1.2.2.1 _ hrM).1
      have f1 : q_rowM s.2.1 (q_N s.2.1) (Int32.ofNat a) (Int32.ofNat b) (Int32.ofNat p) rd la de st 0 (174 + 17 * q_N s.2.1) = Int32.ofNat a := by
        rw [show 174 + 17 * q_N s.2.1 = 173 + 17 * q_N s.2.1 + 1 by omega]
        cases st <;> exact q_new_in (by omega)
      have f2 : q_rowM s.2.1 (q_N s.2.1) (Int32.ofNat a) (Int32.ofNat b) (Int32.ofNat p) rd la de st 0 (175 + 17 * q_N s.2.1) = Int32.ofNat b := by
        rw [show 175 + 17 * q_N s.2.1 = 173 + 17 * q_N s.2.1 + 2 by omega]
        cases st <;> exact q_new_in (by omega)
      rw [this]
      show some (q_way s.1 (q_rowM s.2.1 (q_N s.2.1) (Int32.ofNat a) (Int32.ofNat b) (Int32.ofNat p) rd la de st 0 (174 + 17 * q_N s.2.1)) (q_rowM s.2.1 (q_N s.2.1) (Int32.ofNat a) (Int32.ofNat b) (Int32.ofNat p) rd la de st 0 (175 + 17 * q_N s.2.1))) = _
      rw [f1, f2]
    have r17 : N.1 (o + 548) 17 = Int32.ofNat (q_T s.1) := hm.1.2.2.1.trans hI.I.taxis
    obtain ⟨N3, bb, e3m, p3m, b3m, hbb⟩ := m_findsBest (m := o + 548) (r := q_N s.2.1) hIm hiT hLm hrM hm
    rw [show (q_row s (q_rowM s.2.1 (q_N s.2.1) (Int32.ofNat a) (Int32.ofNat b) (Int32.ofNat p) rd la de st 0)).1 = s.1 from rfl, show (q_row s (q_rowM s.2.1 (q_N s.2.1) (Int32.ofNat a) (Int32.ofNat b) (Int32.ofNat p) rd la de st 0)).2.1 = q_rowM s.2.1 (q_N s.2.1) (Int32.ofNat a) (Int32.ofNat b) (Int32.ofNat p) rd la de st 0 from rfl, ebest] at b3m hbb
    have m3m := p3m.all hm
    -- what the reference writes
    have hJ103 : ∀ f', best = some f' → ∃ N4, F_Model_offers_J103 (o + 548) (F_Model_offers_L9 (o + 548) g) (Int32.ofNat (q_N s.2.1)) (Int32.ofNat i) N3 = F_Model_offers_L9 (o + 548) g (Int32.ofNat (q_N s.2.1)) (Int32.ofNat (i + 1)) N4 ∧ m_all (o + 548) N4 (q_row s (q_rowM s.2.1 (q_N s.2.1) (Int32.ofNat a) (Int32.ofNat b) (Int32.ofNat p) rd la de (some (i, f'.1, f'.2.1, f'.2.2.1)) 0)) ∧ m_go2 (o + 548) N N4 := fun f' hf' => by
      rw [hf'] at b3m
      obtain ⟨-, g0, g1, g2, -, -⟩ := b3m
      have m4 := ((((m3m.w (k := 173 + 17 * q_N s.2.1 + 0) (v := 0)).w (k := 173 + 17 * q_N s.2.1 + 12) (v := Int32.ofNat i)).w (k := 173 + 17 * q_N s.2.1 + 13) (v := f'.1)).w (k := 173 + 17 * q_N s.2.1 + 14) (v := f'.2.1)).w (k := 173 + 17 * q_N s.2.1 + 15) (v := f'.2.2.1)
      refine ⟨z_wI (z_wI (z_wI (z_wI (z_wI N3 (o + 548 + 1) (173 + 17 * q_N s.2.1 + 0) 0) (o + 548 + 1) (173 + 17 * q_N s.2.1 + 12) (Int32.ofNat i)) (o + 548 + 1) (173 + 17 * q_N s.2.1 + 13) f'.1) (o + 548 + 1) (173 + 17 * q_N s.2.1 + 14) f'.2.1) (o + 548 + 1) (173 + 17 * q_N s.2.1 + 15) f'.2.2.1, ?_, ?_, p3m.go.tr (m_go2.one (fun x hx => funext fun j => (w_addr j hx).trans ((w_addr j hx).trans ((w_addr j hx).trans ((w_addr j hx).trans (w_addr j hx))))) rfl)⟩
      · unfold F_Model_offers_J103
        rw [zb_ok (m_sets (kl := 0) (k := 0) hr (by omega) rfl), zb_ok (m_sets (kl := 12) (k := 12) hr (by omega) rfl), w_addr _ (show o + 548 ≠ o + 548 + 1 by omega), w_addr _ (show o + 548 ≠ o + 548 + 1 by omega), g0, zb_ok (m_sets (kl := 13) (k := 13) hr (by omega) rfl), w_addr _ (show o + 548 ≠ o + 548 + 1 by omega), w_addr _ (show o + 548 ≠ o + 548 + 1 by omega), w_addr _ (show o + 548 ≠ o + 548 + 1 by omega), g1, zb_ok (m_sets (kl := 14) (k := 14) hr (by omega) rfl), w_addr _ (show o + 548 ≠ o + 548 + 1 by omega), w_addr _ (show o + 548 ≠ o + 548 + 1 by omega), w_addr _ (show o + 548 ≠ o + 548 + 1 by omega), w_addr _ (show o + 548 ≠ o + 548 + 1 by omega), g2, zb_ok (m_sets (kl := 15) (k := 15) hr (by omega) rfl), i_succ]
        rfl
      · have erow : q_w (q_w (q_w (q_w (q_w (q_rowM s.2.1 (q_N s.2.1) (Int32.ofNat a) (Int32.ofNat b) (Int32.ofNat p) rd la de st 0) (173 + 17 * q_N s.2.1 + 0) 0) (173 + 17 * q_N s.2.1 + 12) (Int32.ofNat i)) (173 + 17 * q_N s.2.1 + 13) f'.1) (173 + 17 * q_N s.2.1 + 14) f'.2.1) (173 + 17 * q_N s.2.1 + 15) f'.2.2.1 = q_rowM s.2.1 (q_N s.2.1) (Int32.ofNat a) (Int32.ofNat b) (Int32.ofNat p) rd la de (some (i, f'.1, f'.2.1, f'.2.2.1)) 0 := by
          cases st with
          | none =>
            show q_w (q_w (q_w (q_w (q_w (q_new _ _ _) _ _) _ _) _ _) _ _) _ _ = q_new _ _ _
            rw [v_0, v_12, v_13, v_14, v_15]
          | some g' =>
            show q_w (q_w (q_w (q_w (q_w (q_new _ _ _) _ _) _ _) _ _) _ _) _ _ = q_new _ _ _
            rw [v_0, v_12, v_13, v_14, v_15]
        rw [← erow]
        exact m4
    have eB : ∀ s0, F_Model_offers_J32 (o + 548) (F_Model_offers_L9 (o + 548) g) (Int32.ofNat (q_N s.2.1)) (Int32.ofNat i) s0 N = (if q_way s.1 (Int32.ofNat a) (Int32.ofNat b) = -1 then F_Model_offers_L9 (o + 548) g (Int32.ofNat (q_N s.2.1)) (Int32.ofNat (i + 1)) N else if bb = 0 then F_Model_offers_L9 (o + 548) g (Int32.ofNat (q_N s.2.1)) (Int32.ofNat (i + 1)) N3 else if s0 = 0 then
        zb (F_Model_of (o + 548) (Int32.ofNat (q_N s.2.1)) 13 N3) fun x9 =>
        if x9 < (N3.1 (o + 548) 40) then F_Model_offers_L9 (o + 548) g (Int32.ofNat (q_N s.2.1)) (Int32.ofNat (i + 1)) N3
        else
          zb (F_Model_of (o + 548) (Int32.ofNat (q_N s.2.1)) 13 N3) fun x11 =>
          if (N3.1 (o + 548) 40) = x11 then
            zb (F_Model_of (o + 548) (Int32.ofNat (q_N s.2.1)) 14 N3) fun x12 =>
            if (N3.1 (o + 548) 41) < x12 then F_Model_offers_J103 (o + 548) (F_Model_offers_L9 (o + 548) g) (Int32.ofNat (q_N s.2.1)) (Int32.ofNat i) N3
            else F_Model_offers_L9 (o + 548) g (Int32.ofNat (q_N s.2.1)) (Int32.ofNat (i + 1)) N3
          else F_Model_offers_J103 (o + 548) (F_Model_offers_L9 (o + 548) g) (Int32.ofNat (q_N s.2.1)) (Int32.ofNat i) N3
      else F_Model_offers_J103 (o + 548) (F_Model_offers_L9 (o + 548) g) (Int32.ofNat (q_N s.2.1)) (Int32.ofNat i) N3) := fun s0 => by
      rw [← i_succ]
      unfold F_Model_offers_J32
      rw [zb_ok edir]
      by_cases q1 : q_way s.1 (Int32.ofNat a) (Int32.ofNat b) = -1
      · rw [if_pos q1, if_pos q1]
        rfl
      · rw [if_neg q1, if_neg q1, zb2_ok e3m]
        rfl
    have of0 : F_Model_of (o + 548) (Int32.ofNat (q_N s.2.1)) 0 N = some (match st with | none => 4 | some _ => 0) := by
      rw [m_ofL (kl := 0) hm 0 hr (by omega) rfl]
      cases st <;> exact congrArg some (q_new_in (by omega))
    have eH : F_Model_offers_L9 (o + 548) (g + 1) (Int32.ofNat (q_N s.2.1)) (Int32.ofNat i) N = F_Model_offers_J32 (o + 548) (F_Model_offers_L9 (o + 548) g) (Int32.ofNat (q_N s.2.1)) (Int32.ofNat i) (match st with | none => 1 | some _ => 0) N := by
      conv => lhs; unfold F_Model_offers_L9 F_Model_offers_B9
      rw [r17, if_neg (i_nle (by omega) (by omega) hiT), zb_ok of0]
      cases st with
      | none => exact if_pos rfl
      | some g' => exact if_neg (show ¬ (0 : Int32) = 4 by decide)
    rw [eH, eB]
    by_cases q1 : q_way s.1 (Int32.ofNat a) (Int32.ofNat b) = -1
    · have hnone : best = none := Decidable.byContradiction fun z => hway z q1
      rw [if_pos q1, hnone]
      exact ⟨N, rfl, hm, m_go2.rfl'⟩
    · rw [if_neg q1]
      cases best with
      | none =>
        have hb0 : bb = 0 := by
          rcases hbb with ⟨-, z⟩ | ⟨z, -⟩
          · exact absurd rfl z
          · exact z
        rw [if_pos hb0]
        exact ⟨N3, rfl, m3m, p3m.go⟩
      | some f' =>
        have hb1 : ¬ bb = 0 := by
          rcases hbb with ⟨z, -⟩ | ⟨-, z⟩
          · rw [z]
            decide
          · exact absurd (fun w => by cases w) z
        obtain ⟨N4, e4, m4, h4⟩ := hJ103 f' rfl
        have g0 := b3m.2.1
        have g1 := b3m.2.2.1
        rw [if_neg hb1]
        cases st with
        | none =>
          rw [if_neg (show ¬ (1 : Int32) = 0 by decide)]
          exact ⟨N4, e4, m4, h4⟩
        | some g' =>
          have of13 : F_Model_of (o + 548) (Int32.ofNat (q_N s.2.1)) 13 N3 = some g'.2.1 := by
            rw [m_ofL (kl := 13) m3m 13 hr (by omega) rfl]
            show some (q_new s.2.1 (q_N s.2.1) (q_v (Int32.ofNat a) (Int32.ofNat b) (Int32.ofNat p) rd la de 0 (Int32.ofNat g'.1) g'.2.1 g'.2.2.1 g'.2.2.2 0) (173 + 17 * q_N s.2.1 + 13)) = _
            rw [q_new_in (by omega)]
            rfl
          have of14 : F_Model_of (o + 548) (Int32.ofNat (q_N s.2.1)) 14 N3 = some g'.2.2.1 := by
            rw [m_ofL (kl := 14) m3m 14 hr (by omega) rfl]
            show some (q_new s.2.1 (q_N s.2.1) (q_v (Int32.ofNat a) (Int32.ofNat b) (Int32.ofNat p) rd la de 0 (Int32.ofNat g'.1) g'.2.1 g'.2.2.1 g'.2.2.2 0) (173 + 17 * q_N s.2.1 + 14)) = _
            rw [q_new_in (by omega)]
            rfl
          have ep : q_pick2 (some g') i (some f') = if f'.1 < g'.2.1 ∨ (f'.1 = g'.2.1 ∧ f'.2.1 < g'.2.2.1) then some (i, f'.1, f'.2.1, f'.2.2.1) else some g' := rfl
          rw [if_pos rfl, zb_ok of13, zb_ok of13, zb_ok of14, g0, g1, ep]
          by_cases z1 : g'.2.1 < f'.1
          · rw [if_pos z1, if_neg (show ¬ (f'.1 < g'.2.1 ∨ (f'.1 = g'.2.1 ∧ f'.2.1 < g'.2.2.1)) from fun z => by
              rw [Int32.lt_iff_toInt_lt] at z1
              rcases z with z | z
              · rw [Int32.lt_iff_toInt_lt] at z
                omega
              · rw [z.1] at z1
                omega)]
            exact ⟨N3, rfl, m3m, p3m.go⟩
          · rw [if_neg z1]
            by_cases z2 : f'.1 = g'.2.1
            · rw [if_pos z2]
              by_cases z3 : f'.2.1 < g'.2.2.1
              · rw [if_pos z3, if_pos (show f'.1 < g'.2.1 ∨ (f'.1 = g'.2.1 ∧ f'.2.1 < g'.2.2.1) from Or.inr ⟨z2, z3⟩)]
                exact ⟨N4, e4, m4, h4⟩
              · rw [if_neg z3, if_neg (show ¬ (f'.1 < g'.2.1 ∨ (f'.1 = g'.2.1 ∧ f'.2.1 < g'.2.2.1)) from fun z => by
                  rcases z with z | z
                  · rw [z2, Int32.lt_iff_toInt_lt] at z
                    omega
                  · exact z3 z.2)]
                exact ⟨N3, rfl, m3m, p3m.go⟩
            · rw [if_neg z2, if_pos (show f'.1 < g'.2.1 ∨ (f'.1 = g'.2.1 ∧ f'.2.1 < g'.2.2.1) from Or.inl (by
                rw [Int32.lt_iff_toInt_lt] at z1 ⊢
                have : f'.1.toInt ≠ g'.2.1.toInt := fun w => z2 (Int32.toInt_inj.mp w)
                omega))]
              exact ⟨N4, e4, m4, h4⟩
