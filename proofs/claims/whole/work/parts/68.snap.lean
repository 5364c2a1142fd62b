/-! ===== PURE: saveSnapshot ===== -/
def q_ss (s : q_S) : q_S := (s.1, s.2.1, s.2.2.1, some s.2.1, s.2.2.2.2.1, s.2.2.2.2.2.1, s.2.2.2.2.2.2)
def q_absI (A : q_R) : Prop := ∀ r, r < q_N A → A (184 + 17 * r) = 0 ∨ A (184 + 17 * r) = 1
theorem a_save_c {o : Nat} {M : z_Mem} {s : q_S} (hI : q_I s) (hA : q_absI s.2.1) (hc : c_all o M s) : ∃ M', F_Sys_saveSnapshot o M = some M' ∧ c_all o M' (q_ss s) ∧ q_C o M M' := by
  obtain ⟨M1, e, hd, hk, h2⟩ := a_copy (a := o + 447) (b := o + 5) (by omega) hc.2.1 hI.taxis hI.rides hA
  obtain ⟨⟨a1, a2, a3⟩, h3, h4, h5, ⟨b0, b1, b2⟩, h6, ⟨d0, d1, d2⟩⟩ := hc
  have ex : ∀ x, o < x → (x < o + 447 ∨ o + 487 ≤ x) → (z_wI M1 o 9 1).1 x = M.1 x := fun x h1 h2 => funext fun k => by rw [w_addr _ (by omega), hk x (by omega)]
  have e0 : ∀ k, k ≠ 9 → (z_wI M1 o 9 1).1 o k = M.1 o k := fun k hk' => by rw [w_slot _ hk', hk o (by omega)]
  refine ⟨z_wI M1 o 9 1, ?_, ⟨⟨by rw [ex _ (by omega) (by omega)]; exact a1, by rw [ex _ (by omega) (by omega)]; exact a2, fun k hk' => by rw [ex _ (by omega) (by omega)]; exact a3 k hk'⟩, h3.keep (fun a q1 q2 => ex a (by omega) (by omega)), h4.keep (fun a q1 q2 => ex a (by omega) (by omega)), ⟨w_same _ _ _ _, hd.keep (fun a q1 q2 => funext fun k => w_addr _ (by omega))⟩, ⟨b0, by rw [e0 _ (by decide)]; exact b1, fun k hk' => by rw [ex _ (by omega) (by omega)]; exact b2 k hk'⟩, by rw [e0 _ (by decide)]; exact h6, ⟨d0, by rw [e0 _ (by decide)]; exact d1, fun k hk' => by rw [ex _ (by omega) (by omega)]; exact d2 k hk'⟩⟩, fun a ha => ?_⟩
  · unfold F_Sys_saveSnapshot
    rw [zb_ok e]
    rfl
  · unfold q_inM at ha
    exact ⟨ex a (by omega) (by omega), congrFun h2 a⟩
theorem a_save_L {m : Nat} {M : z_Mem} {A : q_R} : ∀ (r i f : Nat) (N : z_Mem), i + r = 581 → r < f → (∀ k, k < i → N.1 (m + 3) k = A k) → m_row N (m + 1) 0 A → (∀ x, x ≠ m + 3 → N.1 x = M.1 x) → N.2 = M.2 → ∃ M', F_Model_saveSnapshot_L7 m f (Int32.ofNat i) N = some M' ∧ m_row M' (m + 3) 0 A ∧ M'.1 m 5 = 1 ∧ (∀ x, x ≠ m + 3 → x ≠ m → M'.1 x = M.1 x) ∧ (∀ k, k ≠ 5 → M'.1 m k = M.1 m k) ∧ M'.2 = M.2 := by
  intro r
  induction r with
  | zero =>
    intro i f N hi hf h1 h2 h3 h4
    obtain ⟨f, rfl⟩ : ∃ g, f = g + 1 := ⟨f - 1, by omega⟩
    have hi' : i = 581 := by omega
    subst hi'
    unfold F_Model_saveSnapshot_L7 F_Model_saveSnapshot_B7
    rw [if_pos (by decide)]
    refine ⟨_, rfl, fun k hk => ?_, w_same _ _ _ _, fun x hx hx' => ?_, fun k hk => ?_, h4⟩
    · rw [w_addr _ (by omega), Nat.zero_add]
      exact h1 k hk
    · rw [← h3 x hx]
      exact funext fun k => w_addr _ hx'
    · rw [w_slot _ hk, h3 m (by omega)]
  | succ r ih =>
    intro i f N hi hf h1 h2 h3 h4
    obtain ⟨f, rfl⟩ : ∃ g, f = g + 1 := ⟨f - 1, by omega⟩
    unfold F_Model_saveSnapshot_L7 F_Model_saveSnapshot_B7
    have hn2 : ¬ (581 : Int32) ≤ Int32.ofNat i := i_nle (a := 581) (by decide) (by omega) (by omega)
    have hz : z_inb (Int32.ofNat i) 581 := (i_inb (by omega)).mpr (by omega)
    rw [if_neg hn2, if_pos hz, if_pos hz, i_cl (by omega)]
    simp only [zl, i_succ]
    have hA := h2 i (by omega)
    rw [Nat.zero_add] at hA
    refine ih (i + 1) f _ (by omega) (by omega) (fun k hk => ?_) (h2.keep (funext fun k => w_addr _ (by omega))) (fun x hx => ?_) h4
    · by_cases hki : k = i
      · rw [hki, w_same]
        exact hA
      · rw [w_slot _ hki]
        exact h1 k (by omega)
    · rw [← h3 x hx]
      exact funext fun k => w_addr _ hx
theorem a_save_m {o : Nat} {M : z_Mem} {s : q_S} (hm : m_all (o + 548) M s) : ∃ M', F_Model_saveSnapshot (o + 548) M = some M' ∧ m_all (o + 548) M' (q_ss s) ∧ q_M o M M' := by
  have hm0 := hm.thr 0
  have hr : m_row (z_wI M (o + 548) 0 0) (o + 548 + 1) 0 s.2.1 := hm0.2.1
  obtain ⟨M', e, g1, g2, g3, g4, g5⟩ := a_save_L (m := o + 548) (M := z_wI M (o + 548) 0 0) (A := s.2.1) 581 0 10000 (z_wI M (o + 548) 0 0) (by omega) (by omega) (fun k hk => by omega) hr (fun _ _ => rfl) rfl
  have ex : ∀ j, 0 < j → j ≠ 3 → M'.1 (o + 548 + j) = M.1 (o + 548 + j) := fun j hj hj' => by
    rw [g3 _ (by omega) (by omega)]
    exact funext fun k => w_addr _ (by omega)
  have e0 : ∀ k, k ≠ 0 → k ≠ 5 → M'.1 (o + 548) k = M.1 (o + 548) k := fun k h1 h2 => by rw [g4 k h2, w_slot _ h1]
  have e' : F_Model_saveSnapshot (o + 548) M = some M' := by
    unfold F_Model_saveSnapshot
    simp only [zl]
    exact e
  refine ⟨M', e', ?_, fun a ha => ⟨?_, ?_⟩⟩
  · obtain ⟨⟨a1, a2, a3, a4, a5, a6⟩, h2, ⟨b0, b1, b2⟩, h4, ⟨d1, d2⟩, h6, ⟨f1, f2⟩⟩ := hm
    exact ⟨⟨by rw [e0 _ (by decide) (by decide)]; exact a1, by rw [e0 _ (by decide) (by decide)]; exact a2, by rw [e0 _ (by decide) (by decide)]; exact a3, by rw [e0 _ (by decide) (by decide)]; exact a4, fun k hk' => by rw [ex _ (by decide) (by decide)]; exact a5 k hk', fun t ht => by rw [ex _ (by decide) (by decide), ex _ (by decide) (by decide)]; exact a6 t ht⟩, h2.keep (ex _ (by decide) (by decide)),
      ⟨b0, by rw [e0 _ (by decide) (by decide)]; exact b1, fun j B hB => (b2 j B hB).keep (ex _ (by decide) (by decide))⟩, ⟨g2, g1⟩, ⟨by rw [e0 _ (by decide) (by decide)]; exact d1, fun k hk' => by rw [ex _ (by decide) (by decide)]; exact d2 k hk'⟩, by rw [e0 _ (by decide) (by decide)]; exact h6, ⟨by rw [e0 _ (by decide) (by decide)]; exact f1, fun k hk' => by rw [ex _ (by decide) (by decide)]; exact f2 k hk'⟩⟩
  · unfold q_inC at ha
    rw [g3 a (by omega) (by omega)]
    exact funext fun k => w_addr _ (by omega)
  · rw [g5]
    rfl
theorem a_saveSnapshot {o L : Nat} {S : Nat → Int32} {i : Int32} {M : z_Mem} {s : q_S} {c : z_Mem → Option (Int32 × z_Mem)} (hI : q_I s) (hA : q_absI s.2.1) (hc : c_all o M s) (hm : m_all (o + 548) M s) : ∃ M', Fc_2076 o L S i M c = c M' ∧ c_all o M' (q_ss s) ∧ m_all (o + 548) M' (q_ss s) := by
  obtain ⟨M1, e1, c1, k1⟩ := a_save_c hI hA hc
  obtain ⟨M2, e2, m2, k2⟩ := a_save_m (hm.keep k1)
  refine ⟨M2, ?_, c1.keep k2, m2⟩
  unfold Fc_2076
  rw [zb_ok e1, zb_ok e2]
