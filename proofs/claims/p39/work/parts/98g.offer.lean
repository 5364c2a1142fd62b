/-! ===== the class's side (out of whole, by program) ===== -/
abbrev q_O : Type := Nat × Int32 × Int32 × Int32
def q_pick2 (st : Option q_O) (t : Nat) (best : Option q_F) : Option q_O := match best with
  | none => st
  | some f => match st with
    | none => some (t, f.1, f.2.1, f.2.2.1)
    | some g => if f.1 < g.2.1 ∨ (f.1 = g.2.1 ∧ f.2.1 < g.2.2.1) then some (t, f.1, f.2.1, f.2.2.1) else some g
def q_rowC (A : q_R) (r : Nat) (f t p rd la de : Int32) (st : Option q_O) (oe : Int32) : q_R := match st with
  | none => q_new A r (q_v f t p rd la de 0 (-1) (-1) (-1) (-1) oe)
  | some g => q_new A r (q_v f t p rd la de 0 (Int32.ofNat g.1) g.2.1 g.2.2.1 g.2.2.2 oe)
def q_rowM (A : q_R) (r : Nat) (f t p rd la de : Int32) (st : Option q_O) (oe : Int32) : q_R := match st with
  | none => q_new A r (q_v f t p rd la de 4 0 0 0 0 oe)
  | some g => q_new A r (q_v f t p rd la de 0 (Int32.ofNat g.1) g.2.1 g.2.2.1 g.2.2.2 oe)
theorem q_rowC_out {A : q_R} {r k : Nat} {f t p rd la de oe : Int32} {st : Option q_O} (h1 : k ≠ 1) (h : k < 173 + 17 * r ∨ 190 + 17 * r ≤ k) : q_rowC A r f t p rd la de st oe k = A k := by
  cases st <;> exact q_new_out h1 h
theorem q_rowM_out {A : q_R} {r k : Nat} {f t p rd la de oe : Int32} {st : Option q_O} (h1 : k ≠ 1) (h : k < 173 + 17 * r ∨ 190 + 17 * r ≤ k) : q_rowM A r f t p rd la de st oe k = A k := by
  cases st <;> exact q_new_out h1 h
theorem q_rowC_N {A : q_R} {r : Nat} {f t p rd la de oe : Int32} {st : Option q_O} (hr : r < 24) : q_N (q_rowC A r f t p rd la de st oe) = r + 1 := by
  cases st <;> exact q_new_N hr
theorem q_rowM_N {A : q_R} {r : Nat} {f t p rd la de oe : Int32} {st : Option q_O} (hr : r < 24) : q_N (q_rowM A r f t p rd la de st oe) = r + 1 := by
  cases st <;> exact q_new_N hr
theorem i_17 {i : Nat} (h : i < 17) : i = 0 ∨ i = 1 ∨ i = 2 ∨ i = 3 ∨ i = 4 ∨ i = 5 ∨ i = 6 ∨ i = 7 ∨ i = 8 ∨ i = 9 ∨ i = 10 ∨ i = 11 ∨ i = 12 ∨ i = 13 ∨ i = 14 ∨ i = 15 ∨ i = 16 := by omega
section VW
variable {A : q_R} {r : Nat} {f t p rd la de st ot ox op od oe x : Int32}
theorem v_0 : q_w (q_new A r (q_v f t p rd la de st ot ox op od oe)) (173 + 17 * r + 0) x = q_new A r (q_v f t p rd la de x ot ox op od oe) := q_new_w (by omega) rfl fun i hi hne => by
  rcases i_17 hi with rfl | rfl | rfl | rfl | rfl | rfl | rfl | rfl | rfl | rfl | rfl | rfl | rfl | rfl | rfl | rfl | rfl <;> first | rfl | exact absurd rfl hne
theorem v_12 : q_w (q_new A r (q_v f t p rd la de st ot ox op od oe)) (173 + 17 * r + 12) x = q_new A r (q_v f t p rd la de st x ox op od oe) := q_new_w (by omega) rfl fun i hi hne => by
  rcases i_17 hi with rfl | rfl | rfl | rfl | rfl | rfl | rfl | rfl | rfl | rfl | rfl | rfl | rfl | rfl | rfl | rfl | rfl <;> first | rfl | exact absurd rfl hne
theorem v_13 : q_w (q_new A r (q_v f t p rd la de st ot ox op od oe)) (173 + 17 * r + 13) x = q_new A r (q_v f t p rd la de st ot x op od oe) := q_new_w (by omega) rfl fun i hi hne => by
  rcases i_17 hi with rfl | rfl | rfl | rfl | rfl | rfl | rfl | rfl | rfl | rfl | rfl | rfl | rfl | rfl | rfl | rfl | rfl <;> first | rfl | exact absurd rfl hne
theorem v_14 : q_w (q_new A r (q_v f t p rd la de st ot ox op od oe)) (173 + 17 * r + 14) x = q_new A r (q_v f t p rd la de st ot ox x od oe) := q_new_w (by omega) rfl fun i hi hne => by
  rcases i_17 hi with rfl | rfl | rfl | rfl | rfl | rfl | rfl | rfl | rfl | rfl | rfl | rfl | rfl | rfl | rfl | rfl | rfl <;> first | rfl | exact absurd rfl hne
theorem v_15 : q_w (q_new A r (q_v f t p rd la de st ot ox op od oe)) (173 + 17 * r + 15) x = q_new A r (q_v f t p rd la de st ot ox op x oe) := q_new_w (by omega) rfl fun i hi hne => by
  rcases i_17 hi with rfl | rfl | rfl | rfl | rfl | rfl | rfl | rfl | rfl | rfl | rfl | rfl | rfl | rfl | rfl | rfl | rfl <;> first | rfl | exact absurd rfl hne
theorem v_16 : q_w (q_new A r (q_v f t p rd la de st ot ox op od oe)) (173 + 17 * r + 16) x = q_new A r (q_v f t p rd la de st ot ox op od x) := q_new_w (by omega) rfl fun i hi hne => by
  rcases i_17 hi with rfl | rfl | rfl | rfl | rfl | rfl | rfl | rfl | rfl | rfl | rfl | rfl | rfl | rfl | rfl | rfl | rfl <;> first | rfl | exact absurd rfl hne
end VW
theorem c_ride.mk {M : z_Mem} {a r : Nat} {c A : q_R} {f t p rd la de st ot ox op od oe : Int32} (h0 : M.1 a 0 = st) (h1 : M.1 a 1 = f) (h2 : M.1 a 2 = t) (h3 : M.1 a 3 = p) (h4 : M.1 a 4 = rd) (h5 : M.1 a 5 = la) (h6 : M.1 a 6 = de) (h7 : M.1 a 7 = q_way c f t) (h8 : M.1 a 8 = q_most (q_way c f t) de) (h9 : M.1 a 9 = -1) (h10 : M.1 a 10 = -1) (h11 : M.1 a 11 = -1) (h12 : M.1 a 12 = 0) (h13 : M.1 a 13 = 0) (ho : st = 0 → M.1 a 14 = ot ∧ M.1 a 15 = ox ∧ M.1 a 16 = op ∧ M.1 a 17 = od) (h18 : M.1 a 18 = oe) : c_ride M a c (q_new A r (q_v f t p rd la de st ot ox op od oe)) r := by
  have fj : ∀ j, j < 17 → q_new A r (q_v f t p rd la de st ot ox op od oe) (173 + j + 17 * r) = q_v f t p rd la de st ot ox op od oe j := fun j hj => by
    rw [show 173 + j + 17 * r = 173 + 17 * r + j by omega, q_new_in hj]
  have f0 := fj 0 (by omega)
  have f1 := fj 1 (by omega)
  have f2 := fj 2 (by omega)
  have f6 := fj 6 (by omega)
  refine ⟨h0.trans f0.symm, h1.trans f1.symm, h2.trans f2.symm, h3.trans (fj 3 (by omega)).symm, h4.trans (fj 4 (by omega)).symm, h5.trans (fj 5 (by omega)).symm, h6.trans f6.symm, ?_, ?_, h9.trans (fj 7 (by omega)).symm, h10.trans (fj 8 (by omega)).symm, h11.trans (fj 9 (by omega)).symm, h12.trans (fj 10 (by omega)).symm, h13.trans (fj 11 (by omega)).symm, fun q => ?_, h18.trans (fj 16 (by omega)).symm⟩
  · rw [show 174 + 17 * r = 173 + 1 + 17 * r by omega, show 175 + 17 * r = 173 + 2 + 17 * r by omega, f1, f2]
    exact h7
  · rw [show 174 + 17 * r = 173 + 1 + 17 * r by omega, show 175 + 17 * r = 173 + 2 + 17 * r by omega, show 179 + 17 * r = 173 + 6 + 17 * r by omega, f1, f2, f6]
    exact h8
  · have q' : st = 0 := f0.symm.trans q
    obtain ⟨y1, y2, y3, y4⟩ := ho q'
    exact ⟨y1.trans (fj 12 (by omega)).symm, y2.trans (fj 13 (by omega)).symm, y3.trans (fj 14 (by omega)).symm, y4.trans (fj 15 (by omega)).symm⟩
theorem c_ride.un {M : z_Mem} {a r : Nat} {c A : q_R} {f t p rd la de st ot ox op od oe : Int32} (h : c_ride M a c (q_new A r (q_v f t p rd la de st ot ox op od oe)) r) : (M.1 a 0 = st ∧ M.1 a 1 = f ∧ M.1 a 2 = t ∧ M.1 a 3 = p ∧ M.1 a 4 = rd ∧ M.1 a 5 = la ∧ M.1 a 6 = de) ∧ (M.1 a 7 = q_way c f t ∧ M.1 a 8 = q_most (q_way c f t) de) ∧ (M.1 a 9 = -1 ∧ M.1 a 10 = -1 ∧ M.1 a 11 = -1 ∧ M.1 a 12 = 0 ∧ M.1 a 13 = 0) ∧ (st = 0 → M.1 a 14 = ot ∧ M.1 a 15 = ox ∧ M.1 a 16 = op ∧ M.1 a 17 = od) ∧ M.1 a 18 = oe := by
  have fj : ∀ j, j < 17 → q_new A r (q_v f t p rd la de st ot ox op od oe) (173 + j + 17 * r) = q_v f t p rd la de st ot ox op od oe j := fun j hj => by
    rw [show 173 + j + 17 * r = 173 + 17 * r + j by omega, q_new_in hj]
  have f0 := fj 0 (by omega)
  have f1 := fj 1 (by omega)
  have f2 := fj 2 (by omega)
  have f6 := fj 6 (by omega)
  obtain ⟨x0, x1, x2, x3, x4, x5, x6, x7, x8, x9, x10, x11, x12, x13, xo, x18⟩ := h
  refine ⟨⟨x0.trans f0, x1.trans f1, x2.trans f2, x3.trans (fj 3 (by omega)), x4.trans (fj 4 (by omega)), x5.trans (fj 5 (by omega)), x6.trans f6⟩, ⟨?_, ?_⟩, ⟨x9.trans (fj 7 (by omega)), x10.trans (fj 8 (by omega)), x11.trans (fj 9 (by omega)), x12.trans (fj 10 (by omega)), x13.trans (fj 11 (by omega))⟩, fun q => ?_, x18.trans (fj 16 (by omega))⟩
  · rw [show 174 + 17 * r = 173 + 1 + 17 * r by omega, show 175 + 17 * r = 173 + 2 + 17 * r by omega, f1, f2] at x7
    exact x7
  · rw [show 174 + 17 * r = 173 + 1 + 17 * r by omega, show 175 + 17 * r = 173 + 2 + 17 * r by omega, show 179 + 17 * r = 173 + 6 + 17 * r by omega, f1, f2, f6] at x8
    exact x8
  · obtain ⟨y1, y2, y3, y4⟩ := xo (f0.trans q)
    exact ⟨y1.trans (fj 12 (by omega)), y2.trans (fj 13 (by omega)), y3.trans (fj 14 (by omega)), y4.trans (fj 15 (by omega))⟩
/-- the new ride alone has changed -/
theorem c_all.newv {o r : Nat} {M M' : z_Mem} {s : q_S} {v v' : Nat → Int32} (h : c_all o M (q_row s (q_new s.2.1 r v))) (hr : r < 24) (hx : ∀ x, x ≠ o + 5 + 16 + r → (x < o + 487 ∨ o + 495 ≤ x) → M'.1 x = M.1 x) (hR : c_ride M' (o + 5 + 16 + r) s.1 (q_new s.2.1 r v') r) : c_all o M' (q_row s (q_new s.2.1 r v')) := by
  refine h.row (fun x hx' => hx x (by omega) (by omega)) (h.2.1.ride (A' := q_new s.2.1 r v') (by show r < q_N (q_new s.2.1 r v); rw [q_new_N hr]; omega) (fun x h1 h2 h3 => hx x (by omega) (by omega)) (fun k hk => ?_) hR)
  show q_new s.2.1 r v' k = q_new s.2.1 r v k
  unfold q_new
  by_cases h1 : k = 1
  · rw [if_pos h1, if_pos h1]
  · rw [if_neg h1, if_neg h1, if_neg (by omega), if_neg (by omega)]
theorem q_taxiL.new {c A : q_R} {t n : Nat} {rt pt : List Nat} {v : Nat → Int32} (h : q_taxiL c A t n rt pt) (hr : q_N A < 24) (ht : t < 4) (hv : v 0 ≠ 1 ∧ v 0 ≠ 2) : q_taxiL c (q_new A (q_N A) v) t n rt pt := by
  have eN := q_new_N (A := A) (v := v) hr
  refine h.same (by rw [eN]; omega) ⟨q_new_out (by omega) (by omega), q_new_out (by omega) (by omega), fun j q1 q2 => q_new_out (by omega) (by omega)⟩ (fun u hu => ?_)
  rw [eN] at hu
  by_cases hur : u = q_N A
  · subst hur
    refine Or.inr ⟨Or.inr ?_, fun q => absurd q (Nat.lt_irrefl _)⟩
    rw [show 173 + 17 * q_N A = 173 + 17 * q_N A + 0 from rfl, q_new_in (by omega)]
    rintro (q | q)
    · exact hv.1 q
    · exact hv.2 q
  · exact Or.inl ⟨by omega, fun j q1 q2 => q_new_out (by omega) (by omega), q_new_out (by omega) (by omega), q_new_out (by omega) (by omega)⟩
/-- no way, no offer -/
theorem s_best_way {c A : q_R} {t n r : Nat} {rt pt : List Nat} (hJ : q_J c A) (hcJ : q_conJ c) (ht : t < q_T c) (hL : q_taxiL c A t n rt pt) (hr : r < q_N A) (h1 : A (173 + 17 * r) ≠ 1) (h2 : A (173 + 17 * r) ≠ 2) (hb : s_best c A t r rt ≠ none) : q_way c (A (174 + 17 * r)) (A (175 + 17 * r)) ≠ -1 := by
  cases hbs : s_best c A t r rt with
  | none => exact absurd hbs hb
  | some f =>
    have hst := s_best_found (c := c) (A := A) (t := t) (r := r) (L := rt)
    rw [hbs] at hst
    obtain ⟨p, d, -, hpd, hd, -, hok⟩ := hst.1 f rfl
    have hcon := hok.1
    have hlen := g_ins_len (L := rt) (r := r) hpd hd
    rw [← hlen] at hcon
    have hch := g_con'.mp hcon
    obtain ⟨⟨z, hz, ez⟩, -⟩ := hJ.2.2.2 t ht
    have hN := hJ.1.2
    have hzo : ∀ x, x < 2 * q_N A → q_zo A x < 8 := fun x hx => by
      obtain ⟨⟨a, ha, ea⟩, ⟨b, hb', eb⟩, -⟩ := (hJ.2.2.1 (x / 2) (by omega)).1
      unfold q_zo
      by_cases ho : x % 2 = 1
      · rw [if_pos ho, ea, i_cl (by omega)]
        exact ha
      · rw [if_neg ho, eb, i_cl (by omega)]
        exact hb'
    have hch2 := g_filter hcJ (fun x => x / 2 == r) (g_ins rt r p d) _ (by rw [ez, i_cl (by omega)]; exact hz) (fun x hx => by
      rcases g_ins_mem hx with q | q | q
      · exact hzo x (hL.1.2.2.1 x q)
      · exact hzo x (by omega)
      · exact hzo x (by omega)) hch
    have eo : (g_ins rt r p d).filter (fun x => x / 2 == r) = [2 * r + 1, 2 * r] := by
      have e := g_ins_ofr (L := rt) (r := r) (d := d) hpd r
      have ofr0 : q_ofr r rt = [] := by rw [hL.1.2.2.2 r]; exact q_should_0 h1 h2
      rw [if_pos rfl, g_ofr_sub ofr0 (fun x hx => List.mem_of_mem_take hx), g_ofr_sub ofr0 (fun x hx => List.mem_of_mem_drop (List.mem_of_mem_take hx)), g_ofr_sub ofr0 (fun x hx => List.mem_of_mem_drop hx)] at e
      exact e
    rw [eo] at hch2
    have := hch2.2.1
    have e1 : q_zo A (2 * r + 1) = (A (174 + 17 * r)).toNatClampNeg := by
      unfold q_zo
      rw [if_pos (by omega), show (2 * r + 1) / 2 = r by omega]
    have e2 : q_zo A (2 * r) = (A (175 + 17 * r)).toNatClampNeg := by
      unfold q_zo
      rw [if_neg (by omega), show 2 * r / 2 = r by omega]
    rw [e1, e2] at this
    exact this
def c_go2 (o : Nat) (M M' : z_Mem) : Prop := (∀ x, (x < o + 5 ∨ (o + 45 ≤ x ∧ x < o + 487) ∨ o + 495 ≤ x) → M'.1 x = M.1 x) ∧ M'.2 = M.2
theorem c_go2.tr {o : Nat} {M M' M'' : z_Mem} (h : c_go2 o M M') (h' : c_go2 o M' M'') : c_go2 o M M'' := ⟨fun x hx => (h'.1 x hx).trans (h.1 x hx), h'.2.trans h.2⟩
theorem c_go2.C {o : Nat} {M M' : z_Mem} (h : c_go2 o M M') : q_C o M M' := fun a ha => ⟨h.1 a (by unfold q_inM at ha; omega), by rw [h.2]⟩
theorem c_fb.go {o : Nat} {M M' : z_Mem} (h : c_fb o M M') : c_go2 o M M' := ⟨fun x hx => h.1 x (by omega), h.2⟩
def m_go2 (m : Nat) (N N' : z_Mem) : Prop := (∀ x, x ≠ m → x ≠ m + 1 → (x < m + 13 ∨ m + 20 ≤ x) → N'.1 x = N.1 x) ∧ (∀ k, (k < 39 ∨ 44 < k) → N'.1 m k = N.1 m k) ∧ N'.2 = N.2
theorem m_go2.rfl' {m : Nat} {N : z_Mem} : m_go2 m N N := ⟨fun _ _ _ _ => rfl, fun _ _ => rfl, rfl⟩
theorem m_go2.tr {m : Nat} {M M' M'' : z_Mem} (h : m_go2 m M M') (h' : m_go2 m M' M'') : m_go2 m M M'' := ⟨fun x h1 h2 h3 => (h'.1 x h1 h2 h3).trans (h.1 x h1 h2 h3), fun k hk => (h'.2.1 k hk).trans (h.2.1 k hk), h'.2.2.trans h.2.2⟩
theorem m_fb.go {m : Nat} {M M' : z_Mem} (h : m_fb m M M') : m_go2 m M M' := ⟨fun x h1 _ h3 => h.1 x h1 h3, h.2.1, h.2.2⟩
theorem m_go2.one {m : Nat} {M M' : z_Mem} (h : ∀ x, x ≠ m + 1 → M'.1 x = M.1 x) (h2 : M'.2 = M.2) : m_go2 m M M' := ⟨fun x _ h3 _ => h x h3, fun k _ => by rw [h m (by omega)], h2⟩
theorem m_go2.M {o : Nat} {M M' : z_Mem} (h : m_go2 (o + 548) M M') : q_M o M M' := fun a ha => ⟨h.1 a (by unfold q_inC at ha; omega) (by unfold q_inC at ha; omega) (by unfold q_inC at ha; omega), by rw [h.2.2]⟩
