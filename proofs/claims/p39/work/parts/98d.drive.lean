/-! ===== the class's side (out of whole, by program) ===== -/
def c_go (o : Nat) (M M' : z_Mem) : Prop := (∀ x, (x < o + 5 ∨ (o + 45 ≤ x ∧ x < o + 487) ∨ o + 494 ≤ x) → M'.1 x = M.1 x) ∧ M'.2 = M.2
theorem c_go.rfl' {o : Nat} {M : z_Mem} : c_go o M M := ⟨fun _ _ => rfl, rfl⟩
theorem c_go.tr {o : Nat} {M M' M'' : z_Mem} (h : c_go o M M') (h' : c_go o M' M'') : c_go o M M'' := ⟨fun x hx => (h'.1 x hx).trans (h.1 x hx), h'.2.trans h.2⟩
theorem c_go.C {o : Nat} {M M' : z_Mem} (h : c_go o M M') : q_C o M M' := fun a ha => ⟨h.1 a (by unfold q_inM at ha; omega), by rw [h.2]⟩
theorem c_pl.go {o : Nat} {M M' : z_Mem} (h : c_pl o M M') : c_go o M M' := ⟨fun x hx => h.1 x (by omega), h.2⟩
def m_go (m : Nat) (N N' : z_Mem) : Prop := (∀ x, x ≠ m → x ≠ m + 1 → (x < m + 13 ∨ m + 20 ≤ x) → N'.1 x = N.1 x) ∧ (∀ k, k ≠ 39 → N'.1 m k = N.1 m k) ∧ N'.2 = N.2
theorem m_go.rfl' {m : Nat} {N : z_Mem} : m_go m N N := ⟨fun _ _ _ _ => rfl, fun _ _ => rfl, rfl⟩
theorem m_go.tr {m : Nat} {M M' M'' : z_Mem} (h : m_go m M M') (h' : m_go m M' M'') : m_go m M M'' := ⟨fun x h1 h2 h3 => (h'.1 x h1 h2 h3).trans (h.1 x h1 h2 h3), fun k hk => (h'.2.1 k hk).trans (h.2.1 k hk), h'.2.2.trans h.2.2⟩
theorem m_pl.go {m : Nat} {M M' : z_Mem} (h : m_pl m M M') : m_go m M M' := ⟨fun x h1 _ h3 => h.1 x h1 h3, h.2.1, h.2.2⟩
theorem m_go.one {m : Nat} {M M' : z_Mem} (h : ∀ x, x ≠ m + 1 → M'.1 x = M.1 x) (h2 : M'.2 = M.2) : m_go m M M' := ⟨fun x _ h3 _ => h x h3, fun k _ => by rw [h m (by omega)], h2⟩
theorem m_go.M {o : Nat} {M M' : z_Mem} (h : m_go (o + 548) M M') : q_M o M M' := fun a ha => ⟨h.1 a (by unfold q_inC at ha; omega) (by unfold q_inC at ha; omega) (by unfold q_inC at ha; omega), by rw [h.2.2]⟩
theorem q_Inv.left {s : q_S} {t n : Nat} {rt pt : List Nat} {v : Int32} (h : q_Inv s) (ht : t < q_T s.1) (hL : q_taxiL s.1 s.2.1 t n rt pt) (hn : n ≤ 6) (en : s.1 (70 + t) = Int32.ofNat n) (h0 : 0 < rt.length) : q_Inv (q_up s (16 + 40 * t) v) ∧ q_taxiL s.1 (q_w s.2.1 (16 + 40 * t) v) t n rt pt := by
  have hT4 := h.1.I.taxis4
  have hN := h.1.I.rides24
  have h12 := hL.1.2.1
  have h6 := hL.2.1.2.1
  have eN : q_N (q_w s.2.1 (16 + 40 * t) v) = q_N s.2.1 := q_N_w (by omega)
  have hR : ∀ u, q_sameR s.2.1 (q_w s.2.1 (16 + 40 * t) v) u := fun u => ⟨fun j q1 q2 => q_w_ne (by omega), q_w_ne (by omega), q_w_ne (by omega)⟩
  have hTL : q_taxiL s.1 (q_w s.2.1 (16 + 40 * t) v) t n rt pt := by
    obtain ⟨⟨a1, a2, a3, a4⟩, ⟨b1, b2, b3, b4⟩, hc, hl, hp⟩ := hL
    refine ⟨⟨a1.same (q_w_ne (by omega)) (fun k hk => q_w_ne (by omega)), a2, fun x hx => by rw [eN]; exact a3 x hx, fun u => ?_⟩, ⟨b1.same (q_w_ne (by omega)) (fun k hk => q_w_ne (by omega)), b2, b3, fun u => ?_⟩, ?_, fun q => ?_, ?_⟩
    · rw [a4 u]
      obtain ⟨q1, q2, q3⟩ := hR u
      unfold q_should
      rw [eN, q2, q3, q1 173 (by omega) (by omega)]
    · obtain ⟨q1, q2, q3⟩ := hR u
      rw [b4 u, eN, q2, q1 173 (by omega) (by omega)]
    · rw [q_w_ne (by omega)]
      exact q_chain.same rt _ (fun x _ => hR _) hc
    · rw [q] at h0
      exact absurd h0 (Nat.lt_irrefl _)
    · rw [q_sumP.same pt (fun r _ => hR r)]
      exact q_prof.same rt _ (fun x _ => hR _) hp
  refine ⟨h.row ⟨⟨?_, by rw [eN]; exact hN⟩, h.1.2.1.2.1.w (by omega) (by omega), fun r hr => ?_, fun u hu => ?_⟩ (fun r hr hr0 => ?_), hTL⟩
  · rw [eN, q_w_ne (by omega)]
    exact h.1.I.rides
  · rw [eN] at hr
    exact (h.1.2.1.2.2.1 r hr).same (hR r)
  · by_cases hut : u = t
    · subst hut
      obtain ⟨⟨z, hz, ez⟩, -⟩ := h.1.2.1.2.2.2 u hu
      exact ⟨⟨z, hz, (q_w_ne (by omega)).trans ez⟩, n, hn, en, rt, pt, hTL⟩
    · exact (h.1.2.1.2.2.2 u hu).same (by rw [eN]; exact Nat.le_refl _) ⟨q_w_ne (by omega), q_w_ne (by omega), fun j q1 q2 => q_w_ne (by omega)⟩ (fun r hr => Or.inl ⟨by rw [← eN]; exact hr, hR r⟩)
  · rw [eN] at hr
    rw [q_w_ne (by omega)] at hr0
    rw [q_w_ne (by omega), q_w_ne (by omega)]
    exact h.2.1 r hr hr0
theorem q_Inv.first {s : q_S} {t n : Nat} {rt pt : List Nat} (h : q_Inv s) (ht : t < q_T s.1) (hL : q_taxiL s.1 s.2.1 t n rt pt) (hn : n ≤ 6) (en : s.1 (70 + t) = Int32.ofNat n) (h0 : 0 < rt.length) : q_Inv (q_row s (q_do s.1 s.2.1 t rt pt)) ∧ q_taxiL s.1 (q_do s.1 s.2.1 t rt pt) t n (rt.drop 1) (f_next s.2.1 pt (g_l rt 0)) := by
  have hT4 := h.1.I.taxis4
  have hN := h.1.I.rides24
  have h12 := hL.1.2.1
  have h6 := f_next_six h.1.2.1 hL hn h0
  obtain ⟨hJ, hTL⟩ := h.1.2.1.first hT4 ht hL hn en h0
  have hst := hL.stop (g_l_mem h0)
  refine ⟨h.row hJ (fun r hr hr0 => ?_), hTL⟩
  have out : ∀ j, (j < 13 + 40 * t ∨ (173 ≤ j ∧ (∀ r, j ≠ 183 + 17 * r) ∧ j ≠ 173 + 17 * (g_l rt 0 / 2) ∧ j ≠ 181 + 17 * (g_l rt 0 / 2) ∧ j ≠ 182 + 17 * (g_l rt 0 / 2))) → q_do s.1 s.2.1 t rt pt j = s.2.1 j := fun j hj => q_do_out (by omega) h12 h6 (by
    rcases hj with q | q
    · exact Or.inl q
    · exact Or.inr (Or.inr (Or.inr (Or.inr q))))
  have eN : q_N (q_do s.1 s.2.1 t rt pt) = q_N s.2.1 := by unfold q_N; rw [out 1 (Or.inl (by omega))]
  rw [eN] at hr
  by_cases hru : r = g_l rt 0 / 2
  · subst hru
    rw [q_do_173 (by omega) h6] at hr0
    split at hr0
    · split at hr0
      · exact absurd hr0 (by decide)
      · exact absurd hr0 (by decide)
    · exact absurd hr0 (by decide)
  · rw [out _ (Or.inr ⟨by omega, fun r' => by omega, by omega, by omega, by omega⟩)] at hr0
    rw [out _ (Or.inr ⟨by omega, fun r' => by omega, by omega, by omega, by omega⟩), out _ (Or.inr ⟨by omega, fun r' => by omega, by omega, by omega, by omega⟩)]
    exact h.2.1 r hr hr0
theorem i_nltle (a b : Int32) : (¬ a < b) ↔ b ≤ a := by
  rw [Int32.lt_iff_toInt_lt, Int32.le_iff_toInt_le]
  omega
