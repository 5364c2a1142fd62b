/-! ===== the law's start: what is known of the class world ===== -/
def z_nar : List Cond := flatC (Jvm.Cond.and given_1 narrow_1)
theorem z_arrI {s : State} {args : Array Value} {ty : FieldType} (h : (Cond.arrayClass ty).before args s = true) : ∃ cA : ClassId, ArrOfT s cA ty ∧ s.vm.findClass ("[" ++ ty.toString) = some cA := by
  obtain ⟨c, k, comp, h1, h2, h3⟩ := Cond.arrayClass_spec h
  exact ⟨c, fun N z => ⟨fun k h => (by cases h), k, h2, comp, h3⟩, h1⟩
theorem z_arrO {s : State} {args : Array Value} {C : String} (h : (Cond.arrayOver (.object C)).before args s = true) : ∃ cA : ClassId, ArrOfT s cA (.object C) ∧ va_RA s cA (.object C) := by
  obtain ⟨comp, c, k, h1, -, h2, h3, h4⟩ := Cond.arrayOver_spec h
  exact ⟨c, fun N z => ⟨fun k h => (by cases h), k, h2, comp, h3⟩, k, comp, h2, h3, h1, h4⟩
theorem zs_arr : Cond.arrayOver (.object RX6) ∈ lw_tbl ∧ Cond.arrayOver (.object RX5) ∈ lw_tbl ∧ Cond.arrayOver (.object RX0) ∈ lw_tbl := by decide +kernel
theorem zs_nest : ∀ w ∈ z_nest, w ∈ lw_tbl := by decide +kernel
theorem zs_nct : ∀ w ∈ z_nct, w ∈ lw_tbl := by decide +kernel
theorem zs_tok : ∀ w, w < 14 → Cond.stringRef (z_tw w).1 (z_tw w).2.1 (z_tw w).2.2.1 ∈ lw_tbl := by decide +kernel
theorem zs_lay : (∀ k, k < 3 → Cond.laysStatic RX11 (z_sn k) "[I" ∈ lw_tbl) ∧ Cond.initialized RX11 ∈ lw_tbl ∧
  Cond.laysStatic "java/lang/String" "COMPACT_STRINGS" "Z" ∈ lw_tbl ∧ Cond.initialized "java/lang/String" ∈ lw_tbl ∧ Cond.laysStatic "jdk/internal/util/Preconditions" "SIOOBE_FORMATTER" "Ljava/util/function/BiFunction;" ∈ lw_tbl ∧ Cond.initialized "jdk/internal/util/Preconditions" ∈ lw_tbl := by decide +kernel
theorem zq_isr : Cond.isRef (.static "jdk/internal/util/Preconditions" "SIOOBE_FORMATTER" "Ljava/util/function/BiFunction;") ∈ z_nar ∧ Cond.eq (.static "java/lang/String" "COMPACT_STRINGS" "Z") (.int 1) ∈ z_nar := by decide +kernel
theorem zq_sa : ∀ k, k < 3 → Cond.arrayOf (.static RX11 (z_sn k) "[I") .int ∈ z_nar ∧ Cond.eq (.length (.static RX11 (z_sn k) "[I")) (.int (Int32.ofNat 10)) ∈ z_nar ∧ ∀ j, j < 10 → Cond.eq (.elem (.static RX11 (z_sn k) "[I") (.int (Int32.ofNat j))) (.int (z_sv k j)) ∈ z_nar := by decide +kernel
abbrev z_tt (w : Nat) : Term := .string (z_tw w).1 (z_tw w).2.1
theorem zq_tok : ∀ w, w < 14 → Cond.exactly (z_tt w) "java/lang/String" ∈ z_nar ∧ Cond.eq (.field (z_tt w) "java/lang/String" "coder" "B") (.int 0) ∈ z_nar ∧ Cond.arrayOf (.field (z_tt w) "java/lang/String" "value" "[B") .byte ∈ z_nar ∧ Cond.eq (.length (.field (z_tt w) "java/lang/String" "value" "[B")) (.int (Int32.ofNat (z_tl w))) ∈ z_nar := by decide +kernel
def z_tq (w j : Nat) : Cond := Cond.eq (.elem (.field (z_tt w) "java/lang/String" "value" "[B") (.int (Int32.ofNat j))) (.int (z_tc w j))
def z_pw : List Nat := [275, 80, 64, 148, 54, 70, 88, 100, 115, 133, 165, 183, 205, 223]
theorem zq_run : ∀ w, w < 14 → (List.range (z_tl w)).map (z_tq w) = (z_nar.drop (z_pw.getD w 0)).take (z_tl w) := by decide +kernel
theorem zq_tel (w : Nat) (hw : w < 14) (j : Nat) (hj : j < z_tl w) : z_tq w j ∈ z_nar := va_run (zq_run w hw) j hj
theorem z_cls {s : State} {args : Array Value} (hts : ∀ w ∈ z_tbl, w.before args s = true) : ∃ (dC : Nat → ClassId) (dI : Nat → Nat → Nat), ∀ (k : Nat) (q : vw_C), vwCl[k]? = some q → u_Kn s q.1 q.2.1 q.2.2 (dC k) (dI k) := by
  have h0 : ∀ k : Nat, ∃ z : ClassId × (Nat → Nat), ∀ q : vw_C, vwCl[k]? = some q → u_Kn s q.1 q.2.1 q.2.2 z.1 z.2 := by
    have key : ∀ {ci N : Nat} {C : String} {T : u_T}, z_cl ci C T N → Cond.instantiable C N ∈ z_tbl → ∃ z : ClassId × (Nat → Nat), ∀ q : vw_C, vwCl[ci]? = some q → u_Kn s q.1 q.2.1 q.2.2 z.1 z.2 := fun hc hi => by
      obtain ⟨c, iS, h⟩ := u_known hts hc.2.1 (hts _ hi)
      refine ⟨(c, iS), fun q hq => ?_⟩
      cases hc.1.symm.trans hq
      exact h
    intro k
    rcases Nat.lt_or_ge k 13 with hk | hk
    · rcases (show k = 0 ∨ k = 1 ∨ k = 2 ∨ k = 3 ∨ k = 4 ∨ k = 5 ∨ k = 6 ∨ k = 7 ∨ k = 8 ∨ k = 9 ∨ k = 10 ∨ k = 11 ∨ k = 12 by omega) with rfl | rfl | rfl | rfl | rfl | rfl | rfl | rfl | rfl | rfl | rfl | rfl | rfl
      · exact key kx_0 kn_0
      · exact key kx_1 kn_1
      · exact key kx_2 kn_2
      · exact key kx_3 kn_3
      · exact key kx_4 kn_4
      · exact key kx_5 kn_5
      · exact key kx_6 kn_6
      · exact key kx_7 kn_7
      · exact key kx_8 kn_8
      · exact key kx_9 kn_9
      · exact key kx_10 kn_10
      · exact key kx_11 kn_11
      · exact key kx_12 kn_12
    · refine ⟨(0, fun _ => 0), fun q hq => ?_⟩
      have h13 : vwCl.length ≤ k := hk
      rw [List.getElem?_eq_none h13] at hq
      cases hq
  obtain ⟨f, hf⟩ := Classical.axiomOfChoice h0
  exact ⟨fun k => (f k).1, fun k => (f k).2, hf⟩
theorem z_start {l : Launch} {s : State} {args : Array Value} (hts : ∀ w ∈ lw_tbl, w.before args s = true) (hq : ∀ w ∈ z_nar, w.before args s = true) : ∃ X : z_X, X.1 = l ∧ X.2.1 = s ∧ z_ok X ∧ z_okC X := by
  have htz : ∀ w ∈ z_tbl, w.before args s = true := fun w hw => hts w (List.mem_filter.mp hw).1
  have hA : ∀ a : Nat, a < s.heap.size → ¬ (fun q : Nat => s.heap.size ≤ q) a := fun a ha h => Nat.lt_irrefl _ (Nat.lt_of_lt_of_le ha h)
  obtain ⟨dC, dI, hK⟩ := z_cls htz
  obtain ⟨c0, a0, b0⟩ := z_arrI (htz _ ka_int)
  obtain ⟨c1, a1, b1⟩ := z_arrI (htz _ ka_byte)
  obtain ⟨c3, a3, b3⟩ := z_arrO (hts _ zs_arr.1)
  obtain ⟨c4, a4, b4⟩ := z_arrO (hts _ zs_arr.2.1)
  obtain ⟨c5, a5, b5⟩ := z_arrO (hts _ zs_arr.2.2)
  have hsa : ∀ k : Nat, ∃ t : Nat, k < 3 → (Term.static RX11 (z_sn k) "[I").eval args s none [] s = some (.ref t) ∧ va_T .int t 10 (fun j => .int (z_sv k j)) (fun q : Nat => s.heap.size ≤ q) s s.heap := by
    intro k
    by_cases hk : k < 3
    · obtain ⟨q1, q2, q3⟩ := zq_sa k hk
      obtain ⟨t, ht⟩ := va_Tof (f := fun j => .int (z_sv k j)) (by decide) (hq _ q1) (va_eqt (hq _ q2)) (fun j hj => va_eqt (hq _ (q3 j hj))) hA
      exact ⟨t, fun _ => ht⟩
    · exact ⟨0, fun h => absurd h hk⟩
  obtain ⟨fs, hfs⟩ := Classical.axiomOfChoice hsa
  obtain ⟨-, -, p1, p2, p3, p4⟩ := zs_lay
  have hst : ∀ w : Nat, ∃ q : Nat × Nat, w < 14 → vk_R (z_tw w).1 (z_tw w).2.1 (z_tw w).2.2.1 q.1 s ∧ va_O "java/lang/String" q.1 (fun q : Nat => s.heap.size ≤ q) s s.heap ∧ va_OF "java/lang/String" "coder" "B" (.int 0) q.1 (fun q : Nat => s.heap.size ≤ q) s s.heap ∧
      va_OF "java/lang/String" "value" "[B" (.ref q.2) q.1 (fun q : Nat => s.heap.size ≤ q) s s.heap ∧ va_T .byte q.2 (z_tl w) (fun j => .int (z_tc w j)) (fun q : Nat => s.heap.size ≤ q) s s.heap := by
    intro w
    by_cases hw : w < 14
    · obtain ⟨t1, t2, t3, t4⟩ := zq_tok w hw
      obtain ⟨aw, c9, cA9, kA9, w1, w2, w3, w4, w5, w6, -⟩ := Cond.exactly_spec (args := args) (first := s) (o := none) (s := s) (idx := []) (t := z_tt w) (cls := "java/lang/String") (hq _ t1)
      obtain ⟨av, v1, v2⟩ := va_Tof (tm := .field (z_tt w) "java/lang/String" "value" "[B") (f := fun j => .int (z_tc w j)) (Nat.lt_trans (z_tl_b w hw) (by decide)) (hq _ t3) (va_eqt (hq _ t4)) (fun j hj => va_eqt (hq (z_tq w j) (zq_tel w hw j hj))) hA
      exact ⟨(aw, av), fun _ => ⟨vk_R.of (A := args) (hts _ (zs_tok w hw)) w1, ⟨cA9, w3, w5, by rw [w6]; exact w2, hA aw (Array.getElem?_eq_some_iff.mp w3).1⟩, vk_OFof w1 (va_eqt (hq _ t2)) hA, vk_OFof w1 v1 hA, v2⟩⟩
    · exact ⟨(0, 0), fun h => absurd h hw⟩
  obtain ⟨gs, hgs⟩ := Classical.axiomOfChoice hst
  let ad : Nat → Nat := fun n => if 1000 ≤ n then fs (n - 1000) else if n % 2 = 0 then (gs (n / 2)).1 else (gs (n / 2)).2
  let cA : Nat → ClassId := fun kd => if kd = 0 then c0 else if kd = 1 then c1 else if kd = 2 then c0 else if kd = 3 then c3 else if kd = 4 then c4 else c5
  refine ⟨(l, s, (dC, dI), cA, ad), rfl, rfl, ⟨trivial, ⟨hK, ?_⟩, trivial, trivial, ⟨?_, ⟨?_, va_Zof (hts _ p1) (hts _ p2) (va_eqt (hq _ zq_isr.2)) hA, va_Zqof (hts _ p3) (hts _ p4) (hq _ zq_isr.1) hA⟩⟩, ?_, trivial, trivial⟩, ?_, ?_, ?_, ?_⟩
  · intro k q hk
    match k, hk with
    | 0, hk => cases hk; exact ⟨a0, b0⟩
    | 1, hk => cases hk; exact ⟨a1, b1⟩
    | 2, hk => cases hk; exact ⟨a0, b0⟩
    | 3, hk => cases hk; exact ⟨a3, b3⟩
    | 4, hk => cases hk; exact ⟨a4, b4⟩
    | 5, hk => cases hk; exact ⟨a5, b5⟩
    | k + 6, hk => cases hk
  · exact fun w hw => va_Nw.of (A := args) (by simp only [z_nest, List.mem_cons, List.not_mem_nil, or_false] at hw; rcases hw with rfl | rfl | rfl <;> rfl) (hts w (zs_nest w hw))
  · intro w hw
    have e1 : ad (2 * w) = (gs w).1 := by
      show (if 1000 ≤ 2 * w then _ else if 2 * w % 2 = 0 then (gs (2 * w / 2)).1 else _) = _
      rw [if_neg (by omega), if_pos (by omega), show 2 * w / 2 = w by omega]
    have e2 : ad (2 * w + 1) = (gs w).2 := by
      show (if 1000 ≤ 2 * w + 1 then _ else if (2 * w + 1) % 2 = 0 then _ else (gs ((2 * w + 1) / 2)).2) = _
      rw [if_neg (by omega), if_neg (by omega), show (2 * w + 1) / 2 = w by omega]
    unfold z_okS1
    show vk_R _ _ _ (ad (2 * w)) s ∧ va_O _ (ad (2 * w)) _ s s.heap ∧ va_OF _ _ _ _ (ad (2 * w)) _ s s.heap ∧ va_OF _ _ _ (.ref (ad (2 * w + 1))) (ad (2 * w)) _ s s.heap ∧ va_T .byte (ad (2 * w + 1)) _ _ _ s s.heap
    rw [e1, e2]
    exact hgs w hw
  · intro k hk
    have e : ad (1000 + k) = fs k := by
      show (if 1000 ≤ 1000 + k then fs (1000 + k - 1000) else _) = _
      rw [if_pos (by omega), Nat.add_sub_cancel_left]
    show va_Z RX11 (z_sn k) "[I" (.ref (ad (1000 + k))) _ s s.heap ∧ va_T .int (ad (1000 + k)) 10 _ _ s s.heap
    rw [e]
    exact ⟨va_Zof (hts _ (zs_lay.1 k hk)) (hts _ zs_lay.2.1) (hfs k hk).1 hA, (hfs k hk).2⟩
  · exact fun w hw => va_Nw.of (A := args) (by simp only [z_nct, List.mem_cons, List.not_mem_nil, or_false] at hw; rcases hw with rfl | rfl | rfl | rfl | rfl <;> rfl) (hts w (zs_nct w hw))
  · exact va_AO.of (hts _ zs_arr.1)
  · exact va_AO.of (hts _ zs_arr.2.1)
  · exact va_AO.of (hts _ zs_arr.2.2)
