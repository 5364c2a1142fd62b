/-! ===== the class's side (out of whole, by program) ===== -/
def q_oi (x : Option Nat) : Int32 := match x with
  | none => -1
  | some w => Int32.ofNat w
def q_conJ (c : q_R) : Prop := ∃ W : Nat → Nat → Option Nat, (∀ a b, a < 8 → b < 8 → c (8 * a + b) = q_oi (W a b)) ∧ (∀ a b w, a < 8 → b < 8 → W a b = some w → w ≤ 25344) ∧ ∀ a b d v w, a < 8 → b < 8 → d < 8 → W a b = some v → W b d = some w → ∃ u, W a d = some u ∧ u ≤ v + w
/-- a list of numbers in a row: its length and its elements -/
def q_li (A : q_R) (cnt base : Nat) (l : List Nat) : Prop := A cnt = Int32.ofNat l.length ∧ ∀ (k s : Nat), l[k]? = some s → A (base + k) = Int32.ofNat s
/-- the zone of a stop -/
def q_zo (A : q_R) (s : Nat) : Nat := (A ((if s % 2 = 1 then 174 else 175) + 17 * (s / 2))).toNatClampNeg
def q_chain (c A : q_R) : Nat → List Nat → Prop
  | _, [] => True
  | z, s :: l => c (8 * z + q_zo A s) ≠ -1 ∧ q_chain c A (q_zo A s) l
def q_pe (A : q_R) (r : Nat) : Int := ((A (176 + 17 * r)).toNatClampNeg : Int)
/-- how many persons more are aboard behind a stop -/
def q_chg (A : q_R) (s : Nat) : Int := if s % 2 = 1 then (if A (184 + 17 * (s / 2)) = 1 then 0 else q_pe A (s / 2)) else - q_pe A (s / 2)
def q_prof (A : q_R) (seats : Int) : Int → List Nat → Prop
  | _, [] => True
  | p, s :: l => p ≤ seats ∧ q_prof A seats (p + q_chg A s) l
def q_sumP (A : q_R) : List Nat → Int
  | [] => 0
  | r :: l => q_pe A r + q_sumP A l
/-- the stops of a ride that lie in the route of a taxi -/
def q_should (A : q_R) (t r : Nat) : List Nat := if r < q_N A ∧ A (180 + 17 * r) = Int32.ofNat t then (if A (173 + 17 * r) = 1 then (if A (184 + 17 * r) = 1 then [2 * r + 1] else [2 * r + 1, 2 * r]) else if A (173 + 17 * r) = 2 then [2 * r] else []) else []
def q_ofr (r : Nat) (l : List Nat) : List Nat := l.filter (fun s => s / 2 == r)
def q_taxiL (c A : q_R) (t n : Nat) (rt pt : List Nat) : Prop :=
  (q_li A (24 + 40 * t) (25 + 40 * t) rt ∧ rt.length ≤ 12 ∧ (∀ s ∈ rt, s < 2 * q_N A) ∧ ∀ r, q_ofr r rt = q_should A t r) ∧
  (q_li A (37 + 40 * t) (38 + 40 * t) pt ∧ pt.length ≤ 6 ∧ pt.Nodup ∧ ∀ r, r ∈ pt ↔ (r < q_N A ∧ A (173 + 17 * r) = 2 ∧ A (180 + 17 * r) = Int32.ofNat t)) ∧
  q_chain c A (A (13 + 40 * t)).toNatClampNeg rt ∧ (rt = [] → A (16 + 40 * t) = -1) ∧ q_prof A n (q_sumP A pt) rt
def q_taxiJ (c A : q_R) (t : Nat) : Prop := (∃ z, z < 8 ∧ A (13 + 40 * t) = Int32.ofNat z) ∧ ∃ n, n ≤ 6 ∧ c (70 + t) = Int32.ofNat n ∧ ∃ rt pt, q_taxiL c A t n rt pt
def q_rideJ (c A : q_R) (r : Nat) : Prop := ((∃ a, a < 8 ∧ A (174 + 17 * r) = Int32.ofNat a) ∧ (∃ b, b < 8 ∧ A (175 + 17 * r) = Int32.ofNat b) ∧ (A (184 + 17 * r) = 0 ∨ A (184 + 17 * r) = 1)) ∧ (∃ p, 1 ≤ p ∧ p ≤ 6 ∧ A (176 + 17 * r) = Int32.ofNat p) ∧ (A (173 + 17 * r) = 1 ∨ A (173 + 17 * r) = 2 → ∃ t, t < q_T c ∧ A (180 + 17 * r) = Int32.ofNat t)
def q_scaJ (A : q_R) : Prop := (∃ v, v ≤ 999 ∧ A 2 = Int32.ofNat v) ∧ ∀ k, k < 3 → ∃ v, v ≤ 90 ∧ A (10 + k) = Int32.ofNat v
def q_J (c A : q_R) : Prop := q_rowI c A ∧ q_scaJ A ∧ (∀ r, r < q_N A → q_rideJ c A r) ∧ ∀ t, t < q_T c → q_taxiJ c A t
/-- an offer is of a taxi -/
def q_offJ (c A : q_R) : Prop := ∀ r, r < q_N A → A (173 + 17 * r) = 0 → (∃ t, t < q_T c ∧ A (185 + 17 * r) = Int32.ofNat t) ∧ A (184 + 17 * r) = 0
def q_In (s : q_S) : Prop := (q_conI s.1 ∧ q_conJ s.1) ∧ q_J s.1 s.2.1 ∧ (∀ B ∈ s.2.2.1, q_J s.1 B) ∧ ∀ B, s.2.2.2.1 = some B → q_J s.1 B
theorem q_In.I {s : q_S} (h : q_In s) : q_I s := ⟨h.1.1, h.2.1.1, fun B hB => (h.2.2.1 B hB).1, fun B hB => (h.2.2.2 B hB).1⟩
theorem q_J.abs {c A : q_R} (h : q_J c A) : q_absI A := fun r hr => (h.2.2.1 r hr).1.2.2
/-- what is said of stops of one ride is said of all stops -/
theorem q_ofr_mem {l : List Nat} {s : Nat} (h : s ∈ l) : s ∈ q_ofr (s / 2) l := List.mem_filter.mpr ⟨h, by simp⟩
theorem q_should_of {A : q_R} {t r s : Nat} (h : s ∈ q_should A t r) : r < q_N A ∧ A (180 + 17 * r) = Int32.ofNat t ∧ (A (173 + 17 * r) = 1 ∨ A (173 + 17 * r) = 2) := by
  unfold q_should at h
  split at h
  · rename_i h1
    refine ⟨h1.1, h1.2, ?_⟩
    split at h
    · exact Or.inl (by assumption)
    · split at h
      · exact Or.inr (by assumption)
      · cases h
  · cases h
theorem q_taxiL.stop {c A : q_R} {t n : Nat} {rt pt : List Nat} (h : q_taxiL c A t n rt pt) {s : Nat} (hs : s ∈ rt) : s / 2 < q_N A ∧ A (180 + 17 * (s / 2)) = Int32.ofNat t ∧ (A (173 + 17 * (s / 2)) = 1 ∨ A (173 + 17 * (s / 2)) = 2) := by
  have h1 := q_ofr_mem hs
  rw [h.1.2.2.2] at h1
  exact q_should_of h1
def q_sameT (A A' : q_R) (t : Nat) : Prop := A' (13 + 40 * t) = A (13 + 40 * t) ∧ A' (16 + 40 * t) = A (16 + 40 * t) ∧ ∀ j, 24 ≤ j → j < 53 → A' (j + 40 * t) = A (j + 40 * t)
def q_sameR (A A' : q_R) (r : Nat) : Prop := (∀ j, 173 ≤ j → j < 177 → A' (j + 17 * r) = A (j + 17 * r)) ∧ A' (180 + 17 * r) = A (180 + 17 * r) ∧ A' (184 + 17 * r) = A (184 + 17 * r)
theorem q_li.same {A A' : q_R} {cnt base : Nat} {l : List Nat} (h : q_li A cnt base l) (h0 : A' cnt = A cnt) (h1 : ∀ k, k < l.length → A' (base + k) = A (base + k)) : q_li A' cnt base l := ⟨h0.trans h.1, fun k s hs => by
  have hk : k < l.length := by
    rcases Nat.lt_or_ge k l.length with q | q
    · exact q
    · rw [List.getElem?_eq_none q] at hs
      cases hs
  rw [h1 k hk]
  exact h.2 k s hs⟩
theorem q_zo.same {A A' : q_R} {s : Nat} (h : q_sameR A A' (s / 2)) : q_zo A' s = q_zo A s := by
  unfold q_zo
  split
  · rw [h.1 174 (by omega) (by omega)]
  · rw [h.1 175 (by omega) (by omega)]
theorem q_pe.same {A A' : q_R} {r : Nat} (h : q_sameR A A' r) : q_pe A' r = q_pe A r := by
  unfold q_pe
  rw [h.1 176 (by omega) (by omega)]
theorem q_chg.same {A A' : q_R} {s : Nat} (h : q_sameR A A' (s / 2)) : q_chg A' s = q_chg A s := by
  unfold q_chg
  rw [q_pe.same h, h.2.2]
theorem q_chain.same {c A A' : q_R} : ∀ (l : List Nat) (z : Nat), (∀ s ∈ l, q_sameR A A' (s / 2)) → q_chain c A z l → q_chain c A' z l := by
  intro l
  induction l with
  | nil => intro z _ _; trivial
  | cons s l ih =>
    intro z h hc
    have e := q_zo.same (h s (List.mem_cons_self ..))
    exact ⟨by rw [e]; exact hc.1, by rw [e]; exact ih _ (fun x hx => h x (List.mem_cons_of_mem _ hx)) hc.2⟩
theorem q_prof.same {A A' : q_R} {n : Int} : ∀ (l : List Nat) (p : Int), (∀ s ∈ l, q_sameR A A' (s / 2)) → q_prof A n p l → q_prof A' n p l := by
  intro l
  induction l with
  | nil => intro z _ _; trivial
  | cons s l ih =>
    intro p h hc
    have e := q_chg.same (h s (List.mem_cons_self ..))
    exact ⟨hc.1, by rw [e]; exact ih _ (fun x hx => h x (List.mem_cons_of_mem _ hx)) hc.2⟩
theorem q_sumP.same {A A' : q_R} : ∀ (l : List Nat), (∀ r ∈ l, q_sameR A A' r) → q_sumP A' l = q_sumP A l := by
  intro l
  induction l with
  | nil => intro _; rfl
  | cons r l ih =>
    intro h
    show q_pe A' r + q_sumP A' l = _
    rw [q_pe.same (h r (List.mem_cons_self ..)), ih (fun x hx => h x (List.mem_cons_of_mem _ hx))]
    rfl
theorem q_rideJ.same {c A A' : q_R} {r : Nat} (h : q_rideJ c A r) (q : q_sameR A A' r) : q_rideJ c A' r := by
  unfold q_rideJ
  rw [q.1 173 (by omega) (by omega), q.1 174 (by omega) (by omega), q.1 175 (by omega) (by omega), q.1 176 (by omega) (by omega), q.2.1, q.2.2]
  exact h
/-- one taxi: its part of the row is the same, and each ride is the same or was and is of no taxi -/
theorem q_taxiL.same {c A A' : q_R} {t n : Nat} {rt pt : List Nat} (h : q_taxiL c A t n rt pt) (hN : q_N A ≤ q_N A') (hT : q_sameT A A' t)
    (hR : ∀ r, r < q_N A' → (r < q_N A ∧ q_sameR A A' r) ∨ ((¬ A' (180 + 17 * r) = Int32.ofNat t ∨ ¬ (A' (173 + 17 * r) = 1 ∨ A' (173 + 17 * r) = 2)) ∧ (r < q_N A → ¬ A (180 + 17 * r) = Int32.ofNat t ∨ ¬ (A (173 + 17 * r) = 1 ∨ A (173 + 17 * r) = 2)))) : q_taxiL c A' t n rt pt := by
  have hrt : ∀ s ∈ rt, q_sameR A A' (s / 2) := fun s hs => by
    obtain ⟨h1, h2, h3⟩ := h.stop hs
    rcases hR (s / 2) (by omega) with q | q
    · exact q.2
    · rcases q.2 h1 with q | q <;> contradiction
  have hpt : ∀ r ∈ pt, q_sameR A A' r := fun r hr => by
    obtain ⟨h1, h2, h3⟩ := (h.2.1.2.2.2 r).mp hr
    rcases hR r (by omega) with q | q
    · exact q.2
    · rcases q.2 h1 with q | q
      · contradiction
      · exact absurd (Or.inr h2) q
  obtain ⟨⟨a1, a2, a3, a4⟩, ⟨b1, b2, b3, b4⟩, hc, hl, hp⟩ := h
  refine ⟨⟨a1.same (hT.2.2 24 (by omega) (by omega)) (fun k hk => ?_), a2, fun s hs => by have := a3 s hs; omega, fun r => ?_⟩, ⟨b1.same (hT.2.2 37 (by omega) (by omega)) (fun k hk => ?_), b2, b3, fun r => ?_⟩, ?_, fun q => by rw [hT.2.1]; exact hl q, ?_⟩
  · rw [show 25 + 40 * t + k = (25 + k) + 40 * t by omega]
    exact hT.2.2 _ (by omega) (by omega)
  · rw [a4 r]
    unfold q_should
    by_cases hr : r < q_N A'
    · rcases hR r hr with ⟨q1, q⟩ | ⟨q1, q2⟩
      · rw [q.2.1, q.2.2, q.1 173 (by omega) (by omega)]
        simp only [hr, q1]
      · have e1 : ∀ (B : q_R), (¬ B (180 + 17 * r) = Int32.ofNat t ∨ ¬ (B (173 + 17 * r) = 1 ∨ B (173 + 17 * r) = 2)) → (if B (180 + 17 * r) = Int32.ofNat t then (if B (173 + 17 * r) = 1 then (if B (184 + 17 * r) = 1 then [2 * r + 1] else [2 * r + 1, 2 * r]) else if B (173 + 17 * r) = 2 then [2 * r] else []) else []) = [] := fun B hB => by
          rcases hB with hB | hB
          · rw [if_neg hB]
          · rw [if_neg (fun z => hB (Or.inl z)), if_neg (fun z => hB (Or.inr z))]
            split <;> rfl
        have e2 := e1 A' q1
        simp only [hr, true_and]
        rw [e2]
        by_cases hr1 : r < q_N A
        · have e3 := e1 A (q2 hr1)
          simp only [hr1, true_and]
          exact e3
        · rw [if_neg (fun z => hr1 z.1)]
    · rw [if_neg (fun z => hr (Nat.lt_of_lt_of_le z.1 hN)), if_neg (fun z => hr z.1)]
  · rw [show 38 + 40 * t + k = (38 + k) + 40 * t by omega]
    exact hT.2.2 _ (by omega) (by omega)
  · rw [b4 r]
    by_cases hr : r < q_N A'
    · rcases hR r hr with ⟨q1, q⟩ | ⟨q1, q2⟩
      · rw [q.2.1, q.1 173 (by omega) (by omega)]
        simp only [hr, q1]
      · constructor
        · rintro ⟨z1, z2, z3⟩
          rcases q2 z1 with z | z
          · contradiction
          · exact absurd (Or.inr z2) z
        · rintro ⟨z1, z2, z3⟩
          rcases q1 with z | z
          · contradiction
          · exact absurd (Or.inr z2) z
    · exact ⟨fun z => absurd (by omega) hr, fun z => absurd z.1 hr⟩
  · rw [hT.1]
    exact q_chain.same rt _ hrt hc
  · rw [q_sumP.same pt hpt]
    exact q_prof.same rt _ hrt hp
theorem q_taxiJ.same {c A A' : q_R} {t : Nat} (h : q_taxiJ c A t) (hN : q_N A ≤ q_N A') (hT : q_sameT A A' t)
    (hR : ∀ r, r < q_N A' → (r < q_N A ∧ q_sameR A A' r) ∨ ((¬ A' (180 + 17 * r) = Int32.ofNat t ∨ ¬ (A' (173 + 17 * r) = 1 ∨ A' (173 + 17 * r) = 2)) ∧ (r < q_N A → ¬ A (180 + 17 * r) = Int32.ofNat t ∨ ¬ (A (173 + 17 * r) = 1 ∨ A (173 + 17 * r) = 2)))) : q_taxiJ c A' t := by
  obtain ⟨⟨z, hz, ez⟩, n, hn, en, rt, pt, hL⟩ := h
  exact ⟨⟨z, hz, hT.1.trans ez⟩, n, hn, en, rt, pt, hL.same hN hT hR⟩
/-- taxis as they were; each ride as it was, or booked by no taxi then and now -/
theorem q_J.quiet {c A A' : q_R} (h : q_J c A) (h1 : q_rowI c A') (h2 : q_scaJ A') (hN : q_N A ≤ q_N A') (hT : ∀ t, t < q_T c → q_sameT A A' t)
    (hR : ∀ r, r < q_N A' → (r < q_N A ∧ q_sameR A A' r) ∨ (q_rideJ c A' r ∧ ¬ (A' (173 + 17 * r) = 1 ∨ A' (173 + 17 * r) = 2) ∧ (r < q_N A → ¬ (A (173 + 17 * r) = 1 ∨ A (173 + 17 * r) = 2)))) : q_J c A' := by
  refine ⟨h1, h2, fun r hr => ?_, fun t ht => (h.2.2.2 t ht).same hN (hT t ht) fun r hr => ?_⟩
  · rcases hR r hr with q | q
    · exact (h.2.2.1 r q.1).same q.2
    · exact q.1
  · rcases hR r hr with q | q
    · exact Or.inl q
    · exact Or.inr ⟨Or.inr q.2.1, fun z => Or.inr (q.2.2 z)⟩
/-- all as it was -/
theorem q_J.calm {c A A' : q_R} (h : q_J c A) (h2 : q_scaJ A') (h1 : A' 1 = A 1) (hT : ∀ t, t < q_T c → q_sameT A A' t) (hR : ∀ r, r < q_N A → q_sameR A A' r) : q_J c A' := by
  have e : q_N A' = q_N A := by
    unfold q_N
    rw [h1]
  refine h.quiet ⟨by rw [h1, e]; exact h.1.1, by rw [e]; exact h.1.2⟩ h2 (by omega) hT fun r hr => Or.inl ⟨by omega, hR r (by omega)⟩
def q_Inv (s : q_S) : Prop := q_In s ∧ q_offJ s.1 s.2.1 ∧ (∀ B ∈ s.2.2.1, q_offJ s.1 B) ∧ ∀ B, s.2.2.2.1 = some B → q_offJ s.1 B
theorem q_In.noted {s : q_S} (h : q_In s) : q_In (q_noted s) := ⟨h.1, h.2.1, fun B hB => by
  rcases q_push_mem hB with rfl | hB
  · exact h.2.1
  · exact h.2.2.1 B hB, h.2.2.2⟩
theorem q_Inv.noted {s : q_S} (h : q_Inv s) : q_Inv (q_noted s) := ⟨h.1.noted, h.2.1, fun B hB => by
  rcases q_push_mem hB with rfl | hB
  · exact h.2.1
  · exact h.2.2.1 B hB, h.2.2.2⟩
