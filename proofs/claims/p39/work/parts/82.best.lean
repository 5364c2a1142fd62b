/-! ===== the class's side (out of whole, by program) ===== -/
theorem q_In.zo {s : q_S} (hI : q_In s) {x : Nat} (hx : x < 2 * q_N s.2.1) : q_zo s.2.1 x < 8 := by
  obtain ⟨⟨a, ha, ea⟩, ⟨b, hb, eb⟩, -⟩ := (hI.2.1.2.2.1 (x / 2) (by omega)).1
  unfold q_zo
  by_cases h : x % 2 = 1
  · rw [if_pos h, ea, i_cl (by omega)]
    exact ha
  · rw [if_neg h, eb, i_cl (by omega)]
    exact hb
abbrev q_F : Type := Int32 × Int32 × Int32 × Nat × Nat
def s_okD (c A : q_R) (t : Nat) (l : Nat → Nat) (p : Int32) (g : q_R) (n : Nat) : Decidable (s_ok c A t l p g n) := by
  unfold s_ok s_con s_k1 s_tm
  infer_instance
def s_cand (c A : q_R) (t r : Nat) (L : List Nat) (p d : Nat) : q_F := (s_ways c A t (g_l (g_ins L r p d)) (L.length + 2) - s_ways c A t (g_l L) L.length, s_a c A t (g_l (g_ins L r p d)) p, s_a c A t (g_l (g_ins L r p d)) d, p, d)
/-- an insertion that is there already is as good -/
def s_asgood (f : q_F) (x a : Int32) : Prop := f.1 < x ∨ (f.1 = x ∧ ¬ a < f.2.1)
def s_asgoodD (f : q_F) (x a : Int32) : Decidable (s_asgood f x a) := by
  unfold s_asgood
  infer_instance
def s_pick (st : Option q_F) (f : q_F) : Option q_F := match st with
  | none => some f
  | some g => @ite _ (s_asgood g f.1 f.2.1) (s_asgoodD _ _ _) (some g) (some f)
def s_try (c A : q_R) (t r : Nat) (L : List Nat) (st : Option q_F) (p d : Nat) : Option q_F := @ite _ (s_ok c A t (g_l (g_ins L r p d)) (y_per A t) (fun _ => 0) (L.length + 2)) (s_okD _ _ _ _ _ _ _) (s_pick st (s_cand c A t r L p d)) st
def s_inner (c A : q_R) (t r : Nat) (L : List Nat) (st : Option q_F) (p d : Nat) : Nat → Option q_F
  | 0 => st
  | k + 1 => s_inner c A t r L (s_try c A t r L st p d) p (d + 1) k
def s_outer (c A : q_R) (t r : Nat) (L : List Nat) (st : Option q_F) (p : Nat) : Nat → Option q_F
  | 0 => st
  | k + 1 => s_outer c A t r L (s_inner c A t r L st p (p + 1) (L.length + 1 - p)) (p + 1) k
def s_best (c A : q_R) (t r : Nat) (L : List Nat) : Option q_F := if L.length + 2 ≤ 12 then s_outer c A t r L none (if A (16 + 40 * t) = -1 then 0 else 1) (L.length + 1 - (if A (16 + 40 * t) = -1 then 0 else 1)) else none
/-- what is known of an insertion that was found -/
def s_found (c A : q_R) (t r : Nat) (L : List Nat) (st : Option q_F) : Prop := ∀ f, st = some f → ∃ p d, f = s_cand c A t r L p d ∧ p < d ∧ d ≤ L.length + 1 ∧ (A (16 + 40 * t) ≠ -1 → 1 ≤ p) ∧ s_ok c A t (g_l (g_ins L r p d)) (y_per A t) (fun _ => 0) (L.length + 2)
theorem s_try_found {c A : q_R} {t r p d : Nat} {L : List Nat} {st : Option q_F} (h : s_found c A t r L st) (h1 : p < d) (h2 : d ≤ L.length + 1) (h3 : A (16 + 40 * t) ≠ -1 → 1 ≤ p) : s_found c A t r L (s_try c A t r L st p d) := fun f hf => by
  unfold s_try at hf
  by_cases hok : s_ok c A t (g_l (g_ins L r p d)) (y_per A t) (fun _ => 0) (L.length + 2)
  · rw [if_pos hok] at hf
    unfold s_pick at hf
    cases st with
    | none => exact ⟨p, d, (Option.some.inj hf).symm, h1, h2, h3, hok⟩
    | some g =>
      by_cases hg : s_asgood g (s_cand c A t r L p d).1 (s_cand c A t r L p d).2.1
      · have hf : @ite _ (s_asgood g (s_cand c A t r L p d).1 (s_cand c A t r L p d).2.1) (s_asgoodD _ _ _) (some g) (some (s_cand c A t r L p d)) = some f := hf
        rw [if_pos hg] at hf
        exact h f hf
      · have hf : @ite _ (s_asgood g (s_cand c A t r L p d).1 (s_cand c A t r L p d).2.1) (s_asgoodD _ _ _) (some g) (some (s_cand c A t r L p d)) = some f := hf
        rw [if_neg hg] at hf
        exact ⟨p, d, (Option.some.inj hf).symm, h1, h2, h3, hok⟩
  · rw [if_neg hok] at hf
    exact h f hf
theorem s_inner_found {c A : q_R} {t r p : Nat} {L : List Nat} (h3 : A (16 + 40 * t) ≠ -1 → 1 ≤ p) : ∀ (k d : Nat) (st : Option q_F), d + k = L.length + 2 → p < d → s_found c A t r L st → s_found c A t r L (s_inner c A t r L st p d k) := by
  intro k
  induction k with
  | zero => exact fun _ _ _ _ h => h
  | succ k ih => exact fun d st hd hp h => ih (d + 1) _ (by omega) (by omega) (s_try_found h hp (by omega) h3)
theorem s_outer_found {c A : q_R} {t r : Nat} {L : List Nat} : ∀ (k p : Nat) (st : Option q_F), p + k = L.length + 1 → (A (16 + 40 * t) ≠ -1 → 1 ≤ p) → s_found c A t r L st → s_found c A t r L (s_outer c A t r L st p k) := by
  intro k
  induction k with
  | zero => exact fun _ _ _ _ h => h
  | succ k ih => exact fun p st hp h3 h => ih (p + 1) _ (by omega) (fun q => by omega) (s_inner_found h3 _ _ _ (by omega) (by omega) h)
theorem s_best_found {c A : q_R} {t r : Nat} {L : List Nat} : s_found c A t r L (s_best c A t r L) ∧ (s_best c A t r L ≠ none → L.length + 2 ≤ 12) := by
  unfold s_best
  by_cases h : L.length + 2 ≤ 12
  · rw [if_pos h]
    refine ⟨?_, fun _ => h⟩
    by_cases hL : A (16 + 40 * t) = -1
    · rw [if_pos hL]
      exact s_outer_found _ _ _ (by omega) (fun q => absurd hL q) (fun f hf => by cases hf)
    · rw [if_neg hL]
      by_cases h0 : L.length + 1 = 0
      · omega
      · exact s_outer_found _ _ _ (by omega) (fun _ => Nat.le_refl _) (fun f hf => by cases hf)
  · rw [if_neg h]
    exact ⟨fun f hf => (by cases hf), fun q => absurd rfl q⟩
def c_best (N : z_Mem) (o : Nat) (st : Option q_F) (v : Int32) : Prop := match st with
  | none => v = 0
  | some f => v = 1 ∧ N.1 (o + 494) 0 = f.1 ∧ N.1 (o + 494) 1 = f.2.1 ∧ N.1 (o + 494) 2 = f.2.2.1 ∧ N.1 (o + 494) 3 = Int32.ofNat f.2.2.2.1 ∧ N.1 (o + 494) 4 = Int32.ofNat f.2.2.2.2
def c_fb (o : Nat) (M M' : z_Mem) : Prop := (∀ x, (x < o + 487 ∨ o + 495 ≤ x) → M'.1 x = M.1 x) ∧ M'.2 = M.2
theorem c_fb.rfl' {o : Nat} {M : z_Mem} : c_fb o M M := ⟨fun _ _ => rfl, rfl⟩
theorem c_fb.tr {o : Nat} {M M' M'' : z_Mem} (h : c_fb o M M') (h' : c_fb o M' M'') : c_fb o M M'' := ⟨fun x hx => (h'.1 x hx).trans (h.1 x hx), h'.2.trans h.2⟩
theorem c_pl.fb {o : Nat} {M M' : z_Mem} (h : c_pl o M M') : c_fb o M M' := ⟨fun x hx => h.1 x (by omega), h.2⟩
theorem c_fb.all {o : Nat} {M M' : z_Mem} {s : q_S} (h : c_fb o M M') (hc : c_all o M s) : c_all o M' s := hc.scr (fun x hx => h.1 x (Or.inl hx))
theorem c_fb.C {o : Nat} {M M' : z_Mem} (h : c_fb o M M') : q_C o M M' := fun a ha => ⟨h.1 a (by unfold q_inM at ha; omega), by rw [h.2]⟩
theorem c_best.keep {N N' : z_Mem} {o : Nat} {st : Option q_F} {v : Int32} (h : c_best N o st v) (hk : N'.1 (o + 494) = N.1 (o + 494)) : c_best N' o st v := by
  cases st with
  | none => exact h
  | some f =>
    unfold c_best at h ⊢
    rw [hk]
    exact h
theorem c_arr {o n j : Nat} {N : z_Mem} {c A : q_R} {t : Nat} {l : Nat → Nat} (hp : N.1 (o + 487) 3 = Int32.ofNat n) (ht : c_times N o c A t l 0 n) (hn : n ≤ 12) (hj : j < n) : F_Plan_arrivalAt o (Int32.ofNat j) N = some (s_a c A t l j) := c_at hp hn hj (ht j (by omega) hj).2.2.1
theorem c_J125 {o t r p d n : Nat} {s : q_S} {L : List Nat} {N : z_Mem} {v6 : Int32} {rec54 : Nat → Int32 → Int32 → Int32 → Int32 → Int32 → z_Mem → Option (Int32 × z_Mem)} {rec66 : Nat → Int32 → Int32 → Int32 → Int32 → Int32 → Int32 → z_Mem → Option (Int32 × z_Mem)} {v2 v3 v4 : Int32} (hI : q_In s) (ht : t < q_T s.1) (hn : n + 2 ≤ 12) (hd : d < n + 2) (hp : p < n + 2) (hv : q_val s.2.1 (g_l (g_ins L r p d)) (n + 2)) (hf : s_fresh s.2.1 (g_l (g_ins L r p d)) (n + 2)) (hc : c_all o N s) (hpl : c_plan N o s.1 s.2.1 t (g_l (g_ins L r p d)) (n + 2)) (x : Int32) :
    ∃ N', c_fb o N N' ∧ ((s_ok s.1 s.2.1 t (g_l (g_ins L r p d)) (y_per s.2.1 t) (fun _ => 0) (n + 2) ∧ F_Insertion_findBest_J125 o rec54 rec66 (o + 5 + 4 + 3 * t) v2 v3 v4 v6 (Int32.ofNat p) (Int32.ofNat d) x 1 N = rec66 (o + 5 + 4 + 3 * t) v2 v3 v4 1 (Int32.ofNat p) (Int32.ofNat (d + 1)) N' ∧ c_best N' o (some (x, s_a s.1 s.2.1 t (g_l (g_ins L r p d)) p, s_a s.1 s.2.1 t (g_l (g_ins L r p d)) d, p, d)) 1) ∨ (¬ s_ok s.1 s.2.1 t (g_l (g_ins L r p d)) (y_per s.2.1 t) (fun _ => 0) (n + 2) ∧ F_Insertion_findBest_J125 o rec54 rec66 (o + 5 + 4 + 3 * t) v2 v3 v4 v6 (Int32.ofNat p) (Int32.ofNat d) x 1 N = rec66 (o + 5 + 4 + 3 * t) v2 v3 v4 v6 (Int32.ofNat p) (Int32.ofNat (d + 1)) N' ∧ N'.1 (o + 494) = N.1 (o + 494))) := by
  obtain ⟨b, N1, e1, hb, rd, rd2⟩ := c_keeps hI ht hn hv hc hpl
  have hb := hb.of (s_ok_any hf _ (fun _ => 0))
  have p1 : c_fb o N N1 := ⟨fun x hx => rd x (by omega), rd2⟩
  unfold F_Insertion_findBest_J125
  rw [if_neg (by decide), zb2_ok e1]
  rcases hb with ⟨hb1, hP⟩ | ⟨hb0, hP⟩
  · rw [if_neg (show ¬ b = 0 by rw [hb1]; decide)]
    have hcnt : N1.1 (o + 487) 3 = Int32.ofNat (n + 2) := (congrFun (rd _ (by omega)) 3).trans hpl.1.1
    have hts : c_times N1 o s.1 s.2.1 t (g_l (g_ins L r p d)) 0 (n + 2) := fun k h1 h2 => by
      rw [rd _ (by omega), rd _ (by omega), rd _ (by omega), rd _ (by omega)]
      exact hpl.2.2.2 k h1 h2
    have arr : ∀ (N2 : z_Mem) j, (∀ y, y ≠ o + 494 → N2.1 y = N1.1 y) → j < n + 2 → F_Plan_arrivalAt o (Int32.ofNat j) N2 = some (s_a s.1 s.2.1 t (g_l (g_ins L r p d)) j) := fun N2 j hy hj => c_arr ((congrFun (hy _ (by omega)) 3).trans hcnt) (fun k h1 h2 => by
      rw [hy _ (by omega), hy _ (by omega), hy _ (by omega), hy _ (by omega)]
      exact hts k h1 h2) hn hj
    obtain ⟨N2, ek, hN2⟩ : ∃ N2, F_Insertion_keep o x (Int32.ofNat p) (Int32.ofNat d) N1 = some N2 ∧ N2 = (z_wI (z_wI (z_wI (z_wI (z_wI N1 (o + 494) 0 x) (o + 494) 1 (s_a s.1 s.2.1 t (g_l (g_ins L r p d)) p)) (o + 494) 2 (s_a s.1 s.2.1 t (g_l (g_ins L r p d)) d)) (o + 494) 3 (Int32.ofNat p)) (o + 494) 4 (Int32.ofNat d)) := by
      refine ⟨_, ?_, rfl⟩
      unfold F_Insertion_keep
      simp only [zl]
      rw [zb_ok (arr _ p (fun y hy => funext fun k => w_addr k hy) hp), zb_ok (arr _ d (fun y hy => funext fun k => (w_addr k hy).trans (w_addr k hy)) hd)]
    rw [zb_ok ek]
    simp only [zl, i_succ]
    refine ⟨N2, p1.tr ⟨fun y hy => ?_, by rw [hN2]; rfl⟩, Or.inl ⟨hP, rfl, rfl, ?_, ?_, ?_, ?_, ?_⟩⟩ <;> rw [hN2]
    · funext k
      rw [w_addr _ (by omega), w_addr _ (by omega), w_addr _ (by omega), w_addr _ (by omega), w_addr _ (by omega)]
    · rw [w_slot _ (by decide), w_slot _ (by decide), w_slot _ (by decide), w_slot _ (by decide), w_same]
    · rw [w_slot _ (by decide), w_slot _ (by decide), w_slot _ (by decide), w_same]
    · rw [w_slot _ (by decide), w_slot _ (by decide), w_same]
    · rw [w_slot _ (by decide), w_same]
    · rw [w_same]
  · rw [if_pos hb0]
    simp only [zl, i_succ]
    exact ⟨N1, p1, Or.inr ⟨hP, rfl, rd _ (by omega)⟩⟩
theorem c_inner {o t r p n : Nat} {s : q_S} {m : Nat} {L pt : List Nat} {rec54 : Nat → Int32 → Int32 → Int32 → Int32 → Int32 → z_Mem → Option (Int32 × z_Mem)} (hI : q_In s) (ht : t < q_T s.1) (hT : q_taxiL s.1 s.2.1 t m L pt) (hn : L.length = n) (hn12 : n + 2 ≤ 12) (hr : r < q_N s.2.1) : ∀ (k d f : Nat) (N : z_Mem) (st : Option q_F) (v6 : Int32), d + k = n + 2 → p < d → k < f → c_all o N s → c_best N o st v6 →
    ∃ N' v', F_Insertion_findBest_L66 o rec54 f (o + 5 + 4 + 3 * t) (Int32.ofNat r) (Int32.ofNat (n + 1)) (s_ways s.1 s.2.1 t (g_l L) n) v6 (Int32.ofNat p) (Int32.ofNat d) N = rec54 (o + 5 + 4 + 3 * t) (Int32.ofNat r) (Int32.ofNat (n + 1)) (s_ways s.1 s.2.1 t (g_l L) n) v' (Int32.ofNat (p + 1)) N' ∧ c_fb o N N' ∧ c_best N' o (s_inner s.1 s.2.1 t r L st p d k) v' := by
  subst hn
  intro k
  induction k with
  | zero =>
    intro d f N st v6 hd hp hf hc hb
    obtain ⟨f, rfl⟩ : ∃ g, f = g + 1 := ⟨f - 1, by omega⟩
    have hd' : d = L.length + 2 := by omega
    subst hd'
    unfold F_Insertion_findBest_L66 F_Insertion_findBest_B66
    rw [if_pos ((i_lt (by omega) (by omega)).mpr (by omega)), i_succ]
    simp only [zl]
    exact ⟨N, v6, rfl, c_fb.rfl', hb⟩
  | succ k ih =>
    intro d f N st v6 hd hp hf hc hb
    obtain ⟨f, rfl⟩ : ∃ g, f = g + 1 := ⟨f - 1, by omega⟩
    have hdl : d ≤ L.length + 1 := by omega
    have hlt : ¬ Int32.ofNat (L.length + 1) < Int32.ofNat d := fun q => by
      have := (i_lt (by omega) (by omega)).mp q
      omega
    obtain ⟨N1, e1, p1, k1⟩ := c_insert (o := o) (r := r) hI ht hT hr hn12 hp hdl hc
    have hv := q_ins_val (r := r) hT.1.2.2.1 hr hp hdl
    have hfr := g_ins_fresh (r := r) hp hdl hT.fresh
    have n494 : N1.1 (o + 494) = N.1 (o + 494) := p1.1 _ (by omega)
    have key : ∃ N2 v2, F_Insertion_findBest_B66 o rec54 (F_Insertion_findBest_L66 o rec54 f) (o + 5 + 4 + 3 * t) (Int32.ofNat r) (Int32.ofNat (L.length + 1)) (s_ways s.1 s.2.1 t (g_l L) L.length) v6 (Int32.ofNat p) (Int32.ofNat d) N = F_Insertion_findBest_L66 o rec54 f (o + 5 + 4 + 3 * t) (Int32.ofNat r) (Int32.ofNat (L.length + 1)) (s_ways s.1 s.2.1 t (g_l L) L.length) v2 (Int32.ofNat p) (Int32.ofNat (d + 1)) N2 ∧ c_fb o N N2 ∧ c_best N2 o (s_try s.1 s.2.1 t r L st p d) v2 := by
      unfold F_Insertion_findBest_B66 F_Insertion_findBest_J120
      rw [if_neg hlt, zb_ok e1]
      simp only [zl]
      rw [k1.2.1]
      unfold s_try
      have ec : s_cand s.1 s.2.1 t r L p d = (s_ways s.1 s.2.1 t (g_l (g_ins L r p d)) (L.length + 2) - s_ways s.1 s.2.1 t (g_l L) L.length, s_a s.1 s.2.1 t (g_l (g_ins L r p d)) p, s_a s.1 s.2.1 t (g_l (g_ins L r p d)) d, p, d) := rfl
      cases st with
      | none =>
        have h0 : v6 = 0 := hb
        rw [if_pos h0]
        obtain ⟨N', pf, h⟩ := c_J125 (o := o) (t := t) (v6 := v6) (rec54 := rec54) (rec66 := F_Insertion_findBest_L66 o rec54 f) (v2 := Int32.ofNat r) (v3 := Int32.ofNat (L.length + 1)) (v4 := s_ways s.1 s.2.1 t (g_l L) L.length) hI ht hn12 (by omega) (by omega) hv hfr (p1.all hc) k1 (s_ways s.1 s.2.1 t (g_l (g_ins L r p d)) (L.length + 2) - s_ways s.1 s.2.1 t (g_l L) L.length)
        rcases h with ⟨ho, e, hb'⟩ | ⟨ho, e, hb'⟩
        · rw [e, if_pos ho]
          exact ⟨N', 1, rfl, p1.fb.tr pf, hb'⟩
        · rw [e, if_neg ho]
          exact ⟨N', v6, rfl, p1.fb.tr pf, h0⟩
      | some g =>
        have hb' := hb
        obtain ⟨h1, g0, g1, g2, g3, g4⟩ := hb
        rw [if_neg (show ¬ v6 = 0 by rw [h1]; decide), zb_ok (c_arr k1.1.1 k1.2.2.2 hn12 (by omega))]
        have eg : F_Insertion_isAsGoodAs o (s_ways s.1 s.2.1 t (g_l (g_ins L r p d)) (L.length + 2) - s_ways s.1 s.2.1 t (g_l L) L.length) (s_a s.1 s.2.1 t (g_l (g_ins L r p d)) p) N1 = some (@ite _ (s_asgood g (s_cand s.1 s.2.1 t r L p d).1 (s_cand s.1 s.2.1 t r L p d).2.1) (s_asgoodD _ _ _) 1 0) := by
          rw [ec]
          unfold F_Insertion_isAsGoodAs F_Insertion_isAsGoodAs_J24
          rw [n494, g0, g1]
          by_cases q1 : g.1 < s_ways s.1 s.2.1 t (g_l (g_ins L r p d)) (L.length + 2) - s_ways s.1 s.2.1 t (g_l L) L.length
          · rw [if_pos q1, if_pos (show s_asgood g _ _ from Or.inl q1)]
          · rw [if_neg q1]
            by_cases q2 : g.1 = s_ways s.1 s.2.1 t (g_l (g_ins L r p d)) (L.length + 2) - s_ways s.1 s.2.1 t (g_l L) L.length
            · rw [if_pos q2]
              by_cases q3 : s_a s.1 s.2.1 t (g_l (g_ins L r p d)) p < g.2.1
              · rw [if_pos q3, if_neg]
                rintro (q | q)
                · exact q1 q
                · exact q.2 q3
              · rw [if_neg q3, if_pos (show s_asgood g _ _ from Or.inr ⟨q2, q3⟩)]
            · rw [if_neg q2, if_neg]
              rintro (q | q)
              · exact q1 q
              · exact q2 q.1
        rw [zb_ok eg]
        unfold s_pick
        show ∃ N2 v2, _ ∧ _ ∧ c_best N2 o (@ite _ (s_ok s.1 s.2.1 t (g_l (g_ins L r p d)) (y_per s.2.1 t) (fun _ => 0) (L.length + 2)) (s_okD _ _ _ _ _ _ _) (@ite _ (s_asgood g (s_cand s.1 s.2.1 t r L p d).1 (s_cand s.1 s.2.1 t r L p d).2.1) (s_asgoodD _ _ _) (some g) (some (s_cand s.1 s.2.1 t r L p d))) (some g)) v2
        by_cases hg : s_asgood g (s_cand s.1 s.2.1 t r L p d).1 (s_cand s.1 s.2.1 t r L p d).2.1
        · simp only [if_pos hg]
          rw [if_neg (show ¬ (1 : Int32) = 0 by decide)]
          unfold F_Insertion_findBest_J125
          rw [if_pos rfl, i_succ]
          simp only [zl]
          refine ⟨N1, v6, rfl, p1.fb, ?_⟩
          have e3 : @ite _ (s_ok s.1 s.2.1 t (g_l (g_ins L r p d)) (y_per s.2.1 t) (fun _ => 0) (L.length + 2)) (s_okD _ _ _ _ _ _ _) (some g) (some g) = some g := by split <;> rfl
          rw [e3]
          exact hb'.keep n494
        · simp only [if_neg hg, if_true]
          obtain ⟨N', pf, h⟩ := c_J125 (o := o) (t := t) (v6 := v6) (rec54 := rec54) (rec66 := F_Insertion_findBest_L66 o rec54 f) (v2 := Int32.ofNat r) (v3 := Int32.ofNat (L.length + 1)) (v4 := s_ways s.1 s.2.1 t (g_l L) L.length) hI ht hn12 (by omega) (by omega) hv hfr (p1.all hc) k1 (s_ways s.1 s.2.1 t (g_l (g_ins L r p d)) (L.length + 2) - s_ways s.1 s.2.1 t (g_l L) L.length)
          rcases h with ⟨ho, e, hb''⟩ | ⟨ho, e, hb''⟩
          · rw [e, if_pos ho]
            exact ⟨N', 1, rfl, p1.fb.tr pf, hb''⟩
          · rw [e, if_neg ho]
            exact ⟨N', v6, rfl, p1.fb.tr pf, hb'.keep (hb''.trans n494)⟩
    obtain ⟨N2, v2, e2, p2, b2⟩ := key
    obtain ⟨N', v', e3, p3, b3⟩ := ih (d + 1) f N2 _ v2 (by omega) (by omega) (by omega) (p2.all hc) b2
    exact ⟨N', v', e2.trans e3, p2.tr p3, b3⟩
theorem c_outer {o t r n : Nat} {s : q_S} {m : Nat} {L pt : List Nat} (hI : q_In s) (ht : t < q_T s.1) (hT : q_taxiL s.1 s.2.1 t m L pt) (hn : L.length = n) (hn12 : n + 2 ≤ 12) (hr : r < q_N s.2.1) : ∀ (k p f : Nat) (N : z_Mem) (st : Option q_F) (v6 : Int32), p + k = n + 1 → k < f → c_all o N s → c_best N o st v6 →
    ∃ N' v', F_Insertion_findBest_L54 o f (o + 5 + 4 + 3 * t) (Int32.ofNat r) (Int32.ofNat (n + 1)) (s_ways s.1 s.2.1 t (g_l L) n) v6 (Int32.ofNat p) N = some (v', N') ∧ c_fb o N N' ∧ c_best N' o (s_outer s.1 s.2.1 t r L st p k) v' := by
  intro k
  induction k with
  | zero =>
    intro p f N st v6 hp hf hc hb
    obtain ⟨f, rfl⟩ : ∃ g, f = g + 1 := ⟨f - 1, by omega⟩
    unfold F_Insertion_findBest_L54 F_Insertion_findBest_B54
    have h01 : v6 = 0 ∨ v6 = 1 := by
      cases st with
      | none => exact Or.inl hb
      | some g => exact Or.inr hb.1
    rw [if_pos ((i_le (by omega) (by omega)).mpr (by omega)), if_pos h01]
    exact ⟨N, v6, rfl, c_fb.rfl', hb⟩
  | succ k ih =>
    intro p f N st v6 hp hf hc hb
    obtain ⟨f, rfl⟩ : ∃ g, f = g + 1 := ⟨f - 1, by omega⟩
    unfold F_Insertion_findBest_L54 F_Insertion_findBest_B54
    rw [if_neg (i_nle (by omega) (by omega) (by omega)), i_succ]
    simp only [zl]
    obtain ⟨N1, v1, e1, p1, b1⟩ := c_inner (o := o) (p := p) (rec54 := F_Insertion_findBest_L54 o f) hI ht hT hn hn12 hr (n + 1 - p) (p + 1) 10000 N st v6 (by omega) (by omega) (by omega) hc hb
    rw [e1]
    obtain ⟨N', v', e2, p2, b2⟩ := ih (p + 1) f N1 _ v1 (by omega) (by omega) (p1.all hc) b1
    refine ⟨N', v', e2, p1.tr p2, ?_⟩
    subst hn
    exact b2
theorem c_findBest {o t r : Nat} {s : q_S} {m : Nat} {L pt : List Nat} {N : z_Mem} (hI : q_In s) (ht : t < q_T s.1) (hT : q_taxiL s.1 s.2.1 t m L pt) (hr : r < q_N s.2.1) (hc : c_all o N s) :
    ∃ N' v', F_Insertion_findBest o (o + 5 + 4 + 3 * t) (Int32.ofNat r) N = some (v', N') ∧ c_fb o N N' ∧ c_best N' o (s_best s.1 s.2.1 t r L) v' := by
  have hn := hT.1.2.1
  have h7 := (hc.2.1.2.2.2.2.2.2.2.1 t ht).2.2.2.2.2.2.2.1.trans hT.1.1.1
  unfold F_Insertion_findBest s_best
  rw [h7, i_succ]
  simp only [zl]
  by_cases h : L.length + 2 ≤ 12
  · rw [if_pos h, if_pos (show Int32.ofNat (L.length + 1) < (12 : Int32) from (i_lt (b := 12) (by omega) (by decide)).mpr (by omega))]
    obtain ⟨N1, e1, p1, k1⟩ := a_route (o := o) hI ht hT hc
    have x6 := ((p1.all hc).2.1.2.2.2.2.2.2.2.1 t ht).2.2.2.2.2.2.1
    rw [zb_ok e1, x6, k1.2.1]
    unfold F_Insertion_findBest_J45
    by_cases hL : s.2.1 (16 + 40 * t) = -1
    · rw [if_pos hL, if_pos hL]
      obtain ⟨N', v', e, p2, b⟩ := c_outer (o := o) hI ht hT rfl h hr (L.length + 1 - 0) 0 10000 N1 none 0 (by omega) (by omega) (p1.all hc) rfl
      exact ⟨N', v', e, p1.fb.tr p2, b⟩
    · rw [if_neg hL, if_neg hL]
      obtain ⟨N', v', e, p2, b⟩ := c_outer (o := o) hI ht hT rfl h hr (L.length + 1 - 1) 1 10000 N1 none 0 (by omega) (by omega) (p1.all hc) rfl
      exact ⟨N', v', e, p1.fb.tr p2, b⟩
  · rw [if_neg h, if_neg (show ¬ Int32.ofNat (L.length + 1) < (12 : Int32) from fun q => by
      have := (i_lt (b := 12) (by omega) (by decide)).mp q
      omega)]
    exact ⟨N, 0, rfl, c_fb.rfl', rfl⟩
