/-! ===== the text of the words: String.length, String.charAt of the JDK, walked ===== -/
theorem ks_1 : Cond.fieldLink RJ0 38 RJ0 "COMPACT_STRINGS" "Z" ∈ z_tbl := z_in 630 (by decide +kernel) rfl
theorem ks_2 : Cond.fieldLink RJ0 9 RJ0 "value" "[B" ∈ z_tbl := z_in 1260 (by decide +kernel) rfl
theorem ks_3 : Cond.fieldLink RJ0 15 RJ0 "coder" "B" ∈ z_tbl := z_in 1261 (by decide +kernel) rfl
theorem ks_4 : Cond.fieldLink RJ0 1053 "jdk/internal/util/Preconditions" "SIOOBE_FORMATTER" "Ljava/util/function/BiFunction;" ∈ z_tbl := z_in 646 (by decide +kernel) rfl
theorem ks_m1 : Cond.methodLink RX8 74 yJ0_length_8abf5 ∈ z_tbl := z_in 809 (by decide +kernel) rfl
theorem ks_m2 : Cond.methodLink RJ0 335 yJ0_coder_7d493 ∈ z_tbl := z_in 626 (by decide +kernel) rfl
theorem ks_m3 : Cond.methodLink RX8 80 yJ0_charAt_5068e ∈ z_tbl := z_in 810 (by decide +kernel) rfl
theorem ks_m4 : Cond.methodLink RJ0 492 yJ0_isLatin1_aae02 ∈ z_tbl := z_in 636 (by decide +kernel) rfl
theorem ks_m5 : Cond.methodLink RJ0 495 yJ1_charAt_3b067 ∈ z_tbl := z_in 640 (by decide +kernel) rfl
theorem ks_m6 : Cond.methodLink RJ1 9 yJ0_checkIndex_df160 ∈ z_tbl := z_in 643 (by decide +kernel) rfl
theorem ks_m7 : Cond.methodLink RJ0 1059 yJ3_checkIndex_8e157 ∈ z_tbl := z_in 648 (by decide +kernel) rfl
theorem ks_V1 : z_mV RJ0 yJ0_length_8abf5 cJ0_length_8abf5 1 (some .int) 0 := ⟨z_in 623 (by decide +kernel) rfl, z_in 624 (by decide +kernel) rfl, z_in 56 (by decide +kernel) rfl, z_in 625 (by decide +kernel) rfl, by decide +kernel⟩
theorem ks_V2 : z_mV RJ0 yJ0_coder_7d493 cJ0_coder_7d493 1 (some .byte) 0 := ⟨z_in 627 (by decide +kernel) rfl, z_in 628 (by decide +kernel) rfl, z_in 56 (by decide +kernel) rfl, z_in 629 (by decide +kernel) rfl, by decide +kernel⟩
theorem ks_V3 : z_mV RJ0 yJ0_charAt_5068e cJ0_charAt_5068e 2 (some .char) 1 := ⟨z_in 633 (by decide +kernel) rfl, z_in 634 (by decide +kernel) rfl, z_in 56 (by decide +kernel) rfl, z_in 635 (by decide +kernel) rfl, by decide +kernel⟩
theorem ks_V4 : z_mV RJ0 yJ0_isLatin1_aae02 cJ0_isLatin1_aae02 1 (some .boolean) 0 := ⟨z_in 637 (by decide +kernel) rfl, z_in 638 (by decide +kernel) rfl, z_in 56 (by decide +kernel) rfl, z_in 639 (by decide +kernel) rfl, by decide +kernel⟩
theorem ks_S5 : z_mS yJ1_charAt_3b067 cJ1_charAt_3b067 2 (some .char) 2 := ⟨z_in 641 (by decide +kernel) rfl, z_in 57 (by decide +kernel) rfl, z_in 642 (by decide +kernel) rfl, by decide +kernel⟩
theorem ks_S6 : z_mS yJ0_checkIndex_df160 cJ0_checkIndex_df160 2 none 2 := ⟨z_in 644 (by decide +kernel) rfl, z_in 56 (by decide +kernel) rfl, z_in 645 (by decide +kernel) rfl, by decide +kernel⟩
theorem ks_S7 : z_mS yJ3_checkIndex_8e157 cJ3_checkIndex_8e157 3 (some .int) 3 := ⟨z_in 649 (by decide +kernel) rfl, z_in 58 (by decide +kernel) rfl, z_in 650 (by decide +kernel) rfl, by decide +kernel⟩
theorem ks_l1 : Cond.methodLink RL 13 yJ0_length_8abf5 ∈ z_tbl := z_in 622 (by decide +kernel) rfl
theorem ks_l3 : Cond.methodLink RL 23 yJ0_charAt_5068e ∈ z_tbl := z_in 632 (by decide +kernel) rfl
section ZR8
variable {X : z_X} {F : z_F} {own : String} {cc : ByteArray} {nL mc ms : Nat} {ret : Option FieldType} {G : z_Gr} {β : Type} {cv : β → z_O × z_Mem} {b0 : β} {k n pc : Nat} {loc loc' : List (Nat × Value)} {st : List Value} {M : z_Mem} {K : Option β} {rm0 : Room}
theorem z_B.okS (B : z_B X F own cc nL ret) : z_okS X := B.ok.2.2.2.2.1.2
theorem zk_ifeq' (B : z_B X F own cc nL ret) {x : Int32} {off : Int} {tgt : Nat} (d : decode cc pc = .ok (.ifCond .eq off, 3)) (ht : (pc : Int) + off = (tgt : Int)) (k1 : x = 0 → z_K X F nL mc ms G cv b0 k n tgt loc st M K) (k2 : ¬ x = 0 → z_K X F nL mc ms G cv b0 k n (pc + 3) loc st M K) : z_K X F nL mc ms G cv b0 k n pc loc (.int x :: st) M K := by
  have h := zk_if_eq (K := K) (K2 := K) B d ht k1 k2
  rwa [ite_self] at h
theorem zk_ifne' (B : z_B X F own cc nL ret) {x : Int32} {off : Int} {tgt : Nat} (d : decode cc pc = .ok (.ifCond .ne off, 3)) (ht : (pc : Int) + off = (tgt : Int)) (k1 : ¬ x = 0 → z_K X F nL mc ms G cv b0 k n tgt loc st M K) (k2 : x = 0 → z_K X F nL mc ms G cv b0 k n (pc + 3) loc st M K) : z_K X F nL mc ms G cv b0 k n pc loc (.int x :: st) M K := by
  have h := zk_if_ne (K := K) (K2 := K) B d ht k1 k2
  rwa [ite_self] at h
theorem zk_iflt' (B : z_B X F own cc nL ret) {x : Int32} {off : Int} {tgt : Nat} (d : decode cc pc = .ok (.ifCond .lt off, 3)) (ht : (pc : Int) + off = (tgt : Int)) (k1 : x < 0 → z_K X F nL mc ms G cv b0 k n tgt loc st M K) (k2 : ¬ (x < 0) → z_K X F nL mc ms G cv b0 k n (pc + 3) loc st M K) : z_K X F nL mc ms G cv b0 k n pc loc (.int x :: st) M K := by
  have h := zk_if_lt (K := K) (K2 := K) B d ht k1 k2
  rwa [ite_self] at h
theorem zk_icmplt' (B : z_B X F own cc nL ret) {x y : Int32} {off : Int} {tgt : Nat} (d : decode cc pc = .ok (.if_icmp .lt off, 3)) (ht : (pc : Int) + off = (tgt : Int)) (k1 : x < y → z_K X F nL mc ms G cv b0 k n tgt loc st M K) (k2 : ¬ (x < y) → z_K X F nL mc ms G cv b0 k n (pc + 3) loc st M K) : z_K X F nL mc ms G cv b0 k n pc loc (.int y :: .int x :: st) M K := by
  have h := zk_icmp_lt (K := K) (K2 := K) B d ht k1 k2
  rwa [ite_self] at h
theorem zk_i2c (B : z_B X F own cc nL ret) {x v : Int32} (d : decode cc pc = .ok (.i2c, 1)) (hv : (x.toUInt32 % 65536).toInt32 = v) (kk : z_K X F nL mc ms G cv b0 k n (pc + 1) loc (.int v :: st) M K) : z_K X F nL mc ms G cv b0 k n pc loc (.int x :: st) M K :=
  fun h0 H locs ls hH hz hf hL => lv_i2c B.1 B.2.1 d hv (kk h0 H locs ls hH hz hf hL)
theorem zk_comp (B : z_B X F own cc nL ret) {ix : Nat} (hlk : Cond.fieldLink own ix RJ0 "COMPACT_STRINGS" "Z" ∈ z_tbl) (d : decode cc pc = .ok (.getstatic ix, 3)) (kk : z_K X F nL mc ms G cv b0 k n (pc + 3) loc (.int 1 :: st) M K) : z_K X F nL mc ms G cv b0 k n pc loc st M K :=
  fun h0 H locs ls hH hz hf hL => va_gets (A := z_A X) B.1 B.2.1 ((B.okS.2.1.moved B.2.2.2.2.2.2.2.2.1.alike).kept B.2.2.2.2.2.2.2.2.2.1.A) (hH.1.S B hz hf) B.2.2.2.2.1 (B.2.2.2.2.2.1 _ hlk) (fun _ h => h) d (kk h0 H locs ls hH hz hf hL)
theorem zk_fmt (B : z_B X F own cc nL ret) {ix : Nat} (hlk : Cond.fieldLink own ix "jdk/internal/util/Preconditions" "SIOOBE_FORMATTER" "Ljava/util/function/BiFunction;" ∈ z_tbl) (d : decode cc pc = .ok (.getstatic ix, 3)) (kk : ∀ v : Value, (v = .null ∨ ∃ t : Nat, v = .ref t) → z_K X F nL mc ms G cv b0 k n (pc + 3) loc (v :: st) M K) : z_K X F nL mc ms G cv b0 k n pc loc st M K := by
  rcases B.okS.2.2 with h | ⟨t, h⟩
  · exact fun h0 H locs ls hH hz hf hL => va_gets (A := z_A X) B.1 B.2.1 ((h.moved B.2.2.2.2.2.2.2.2.1.alike).kept B.2.2.2.2.2.2.2.2.2.1.A) (hH.1.S B hz hf) B.2.2.2.2.1 (B.2.2.2.2.2.1 _ hlk) (fun _ h => h) d (kk _ (Or.inl rfl) h0 H locs ls hH hz hf hL)
  · exact fun h0 H locs ls hH hz hf hL => va_gets (A := z_A X) B.1 B.2.1 ((h.moved B.2.2.2.2.2.2.2.2.1.alike).kept B.2.2.2.2.2.2.2.2.2.1.A) (hH.1.S B hz hf) B.2.2.2.2.1 (B.2.2.2.2.2.1 _ hlk) (fun _ h => h) d (kk _ (Or.inr ⟨_, rfl⟩) h0 H locs ls hH hz hf hL)
theorem zk_scod (B : z_B X F own cc nL ret) {w : Nat} (hw : w < 14) {ix : Nat} (hlk : Cond.fieldLink own ix RJ0 "coder" "B" ∈ z_tbl) (d : decode cc pc = .ok (.getfield ix, 3)) (kk : z_K X F nL mc ms G cv b0 k n (pc + 3) loc (.int 0 :: st) M K) : z_K X F nL mc ms G cv b0 k n pc loc (.ref (z_sa X w) :: st) M K :=
  fun h0 H locs ls hH hz hf hL => vk_getf (A := z_A X) B.1 B.2.1 (((B.okS.1 w hw).2.2.1.moved B.2.2.2.2.2.2.2.2.1.alike).kept B.2.2.2.2.2.2.2.2.2.1.A) (hH.1.S B hz hf) B.2.2.2.2.1 (B.2.2.2.2.2.1 _ hlk) (fun _ h => h) d (kk h0 H locs ls hH hz hf hL)
theorem zk_sval (B : z_B X F own cc nL ret) {w : Nat} (hw : w < 14) {ix : Nat} (hlk : Cond.fieldLink own ix RJ0 "value" "[B" ∈ z_tbl) (d : decode cc pc = .ok (.getfield ix, 3)) (kk : z_K X F nL mc ms G cv b0 k n (pc + 3) loc (.ref (z_sv1 X w) :: st) M K) : z_K X F nL mc ms G cv b0 k n pc loc (.ref (z_sa X w) :: st) M K :=
  fun h0 H locs ls hH hz hf hL => vk_getf (A := z_A X) B.1 B.2.1 (((B.okS.1 w hw).2.2.2.1.moved B.2.2.2.2.2.2.2.2.1.alike).kept B.2.2.2.2.2.2.2.2.2.1.A) (hH.1.S B hz hf) B.2.2.2.2.1 (B.2.2.2.2.2.1 _ hlk) (fun _ h => h) d (kk h0 H locs ls hH hz hf hL)
theorem zk_sarl (B : z_B X F own cc nL ret) {w : Nat} (hw : w < 14) (d : decode cc pc = .ok (.arraylength, 1)) (kk : z_K X F nL mc ms G cv b0 k n (pc + 1) loc (.int (Int32.ofNat (z_tl w)) :: st) M K) : z_K X F nL mc ms G cv b0 k n pc loc (.ref (z_sv1 X w) :: st) M K := by
  intro h0 H locs ls hH hz hf hL
  obtain ⟨cell, h1, h2, h3, h4, h5, h6, h7⟩ := (B.okS.1 w hw).2.2.2.2
  exact W.alen (n := Int32.ofNat (z_tl w)) B.1 B.2.1 (by rw [hH.1.A _ (Array.getElem?_eq_some_iff.mp h1).1 h7]; exact h1) (State.isArrayOf_alike B.2.2.2.2.2.2.2.2.1.alike h2) (by first | exact h5 | (rw [h5])) rfl rfl d (kk h0 H locs ls hH hz hf hL)
theorem zk_sbald (B : z_B X F own cc nL ret) {w : Nat} (hw : w < 14) {i : Int32} (hin : z_inb i (z_tl w)) (d : decode cc pc = .ok (.baload, 1)) (kk : z_K X F nL mc ms G cv b0 k n (pc + 1) loc (.int (z_tc w i.toNatClampNeg) :: st) M K) : z_K X F nL mc ms G cv b0 k n pc loc (.int i :: .ref (z_sv1 X w) :: st) M K := by
  intro h0 H locs ls hH hz hf hL
  obtain ⟨cell, h1, h2, h3, h4, h5, h6, h7⟩ := (B.okS.1 w hw).2.2.2.2
  have hlt : i.toNatClampNeg < z_tl w := Nat.not_le.mp fun q => hin (Or.inr q)
  exact W.bald (v := .int (z_tc w i.toNatClampNeg)) B.1 B.2.1 (by rw [hH.1.A _ (Array.getElem?_eq_some_iff.mp h1).1 h7]; exact h1) (State.isArrayOf_alike B.2.2.2.2.2.2.2.2.1.alike h2) h3 (fun hq => hin (hq.elim Or.inl (fun q => Or.inr (Nat.le_trans h4 q)))) (h6 _ hlt) rfl rfl d (kk h0 H locs ls hH hz hf hL)
theorem zk_ldcs (B : z_B X F own cc nL ret) (w : Nat) (hw : w < 14) (ho : (z_tw w).1 = own) {ix : Nat} (hi : (z_tw w).2.1 = ix) (d : decode cc pc = .ok (.ldc ix, 2)) (kk : z_K X F nL mc ms G cv b0 k n (pc + 2) loc (.ref (z_sa X w) :: st) M K) : z_K X F nL mc ms G cv b0 k n pc loc st M K := by
  subst hi
  subst ho
  exact fun h0 H locs ls hH hz hf hL => va_ldcS B.1 B.2.1 B.2.2.2.2.1 (vk_R.warm B.2.2.2.2.2.2.2.2.1 (B.okS.1 w hw).1) d (kk h0 H locs ls hH hz hf hL)
theorem zr_VS (B : z_B X F own cc nL ret) {w : Nat} (hw : w < 14) (hR : F.2.2.1 = rm0) {y : MethodName} {cc' : ByteArray} {nL' np ix : Nat} {ret' : Option FieldType} (hm : z_mV RJ0 y cc' nL' ret' np) (hlk : Cond.methodLink own ix y ∈ z_tbl) (As : List Value) {rest st0 : List Value} (hlen : As.length = np) (hst : st0 = As.reverse ++ .ref (z_sa X w) :: rest) (hcat : (rest.map fun v => v.category).sum ≤ 8) (d : decode cc pc = .ok (.invokevirtual ix, 3)) {rm' : Room} {Q' : z_O → z_Gr → z_Mem → Prop} (hct : z_Ct X y cc' nL' ret' rm' (.ref (z_sa X w) :: As) G M Q') (hr1 : rm'.frames + 1 ≤ rm0.frames ∧ 8 + (nL' + 11) + rm'.locals ≤ rm0.locals) (hr2 : k + rm'.cells ≤ rm0.cells ∧ n + rm'.slots ≤ rm0.slots) : z_Run X F nL k n pc loc st0 rest G M rm'.cells rm'.slots (Value.ref (z_sa X w) :: As).toArray Q' := by
  intro H locs ls hH hz hl hL
  obtain ⟨cell, q1, q2, q3, -⟩ := ((B.okS.1 w hw).2.1.moved B.2.2.2.2.2.2.2.2.1.alike).kept hH.1.A
  exact vx_runV (own := own) (nL := nL) (Ts := z_tbl) ⟨B.1, B.2.1, B.2.2.1, B.2.2.2.2.1, B.2.2.2.2.2.1⟩ hct (cwV np B.2.2.2.2.2.1 (z_gV hm hlk) rfl rfl rfl hm.2.2.2.2 (by rw [hR]; exact hr1)) ⟨z_blind, ⟨cell, q1, q2, q3⟩, z_pre B hH⟩ rfl hlen hL.1 hst (lv_room hcat) d (by rw [hR]; exact hr2)
end ZR8
/-- a call whose answer is known -/
theorem zk_cpi1 {X : z_X} {F : z_F} {own : String} {cc : ByteArray} {nL mc ms : Nat} {ret : Option FieldType} {G : z_Gr} {β : Type} {cv : β → z_O × z_Mem} {b0 : β} {k n pc : Nat} {loc : List (Nat × Value)} {st0 rest : List Value} {M : z_Mem} {K : Option β} {mc' ms' : Nat} {av : Array Value} (B : z_B X F own cc nL ret) {r : Int32} {k' n' : Nat} (hk' : k + mc' = k') (hn' : n + ms' = n') (hk : k' ≤ mc) (hs : n' ≤ ms)
    (hrun : z_Run X F nL k n pc loc st0 rest G M mc' ms' av (fun o G' M' => G' = G ∧ (o, M') = z_ci M r)) (kk : z_K X F nL mc ms G cv b0 k' n' (pc + 3) loc (.int r :: rest) M K) : z_K X F nL mc ms G cv b0 k n pc loc st0 M K :=
  zk_cpi (Kc := some r) (f := fun _ => K) B hk' hn' hk hs (fun b hb => by cases Option.some.inj hb; exact hrun) (fun b hb => by cases Option.some.inj hb; exact kk)
theorem zk_cvm1 {X : z_X} {F : z_F} {own : String} {cc : ByteArray} {nL mc ms : Nat} {ret : Option FieldType} {G : z_Gr} {β : Type} {cv : β → z_O × z_Mem} {b0 : β} {k n pc : Nat} {loc : List (Nat × Value)} {st0 rest : List Value} {M M1 : z_Mem} {K : Option β} {mc' ms' : Nat} {av : Array Value} (B : z_B X F own cc nL ret) {k' n' : Nat} (hk' : k + mc' = k') (hn' : n + ms' = n') (hk : k' ≤ mc) (hs : n' ≤ ms)
    (hrun : z_Run X F nL k n pc loc st0 rest G M mc' ms' av (fun o G' M' => G' = G ∧ (o, M') = z_cvm M1)) (kk : z_K X F nL mc ms G cv b0 k' n' (pc + 3) loc rest M1 K) : z_K X F nL mc ms G cv b0 k n pc loc st0 M K :=
  zk_call (cv' := z_cvm) (Kc := some M1) (f := fun _ => K) B (Or.inr (fun b e M2 h => by cases h)) (fun b hb => by cases Option.some.inj hb; exact hrun) (fun b hb v M2 h => by cases Option.some.inj hb; cases h; subst hk'; subst hn'; exact kk) (fun b e M1 h => by cases h) (by rw [hk']; exact hk) (by rw [hn']; exact hs)
theorem z_tl_b : ∀ w, w < 14 → z_tl w < 200 := by decide +kernel
theorem z_tl_s : ∀ w, w < 14 → Int32.ofNat (z_tl w) >>> ((0 : Int32) &&& 31) = Int32.ofNat (z_tl w) := by decide +kernel
theorem z_tc_c : ∀ w, w < 14 → ∀ j, j < z_tl w → ((z_tc w j &&& 255).toUInt32 % 65536).toInt32 = z_tc w j := by decide +kernel
theorem z_tc_n : ∀ w, w < 14 → ∀ j, j < z_tl w → narrow .char (.int (z_tc w j)) = .int (z_tc w j) := by decide +kernel
theorem z_tl_0 : Int32.ofNat (z_tl 0) = 144 := by decide +kernel
theorem m_coder {X : z_X} (hX : z_ok X) {w : Nat} (hw : w < 14) {G : z_Gr} (M : z_Mem) : z_Ct X yJ0_coder_7d493 cJ0_coder_7d493 1 (some .byte) ({ frames := 0, cells := 0, slots := 0, locals := 0 } : Room) [.ref (z_sa X w)] G M (fun o G' M' => G' = G ∧ (o, M') = z_ci M 0) := by
  refine z_enter hX (by decide) (Nat.le_of_ble_eq_true rfl) (K := some 0) rfl (fun F B hR => ?_)
  show z_K X F 1 0 0 G (z_ci M) 0 0 0 0 [(0, .ref (z_sa X w))] [] M (some 0)
  refine zk_comp (pc := 0) B ks_1 dJ0_coder_7d493_0 ?_
  refine zk_ifeq' (pc := 3) (tgt := 13) B dJ0_coder_7d493_3 (by decide) (fun h => absurd h (by decide)) (fun _ => ?_)
  refine zk_aload_n (pc := 6) B dJ0_coder_7d493_6 0 rfl rfl ?_
  refine zk_scod (pc := 7) B hw ks_3 dJ0_coder_7d493_7 ?_
  refine zk_goto (tgt := 14) (pc := 10) B dJ0_coder_7d493_10 (by decide) ?_
  exact zk_iret (pc := 14) B dJ0_coder_7d493_14 rfl rfl (Nat.le_refl _) (Nat.le_refl _) rfl
theorem m_isLatin1 {X : z_X} (hX : z_ok X) {w : Nat} (hw : w < 14) {G : z_Gr} (M : z_Mem) : z_Ct X yJ0_isLatin1_aae02 cJ0_isLatin1_aae02 1 (some .boolean) ({ frames := 0, cells := 0, slots := 0, locals := 0 } : Room) [.ref (z_sa X w)] G M (fun o G' M' => G' = G ∧ (o, M') = z_ci M 1) := by
  refine z_enter hX (by decide) (Nat.le_of_ble_eq_true rfl) (K := some 1) rfl (fun F B hR => ?_)
  show z_K X F 1 0 0 G (z_ci M) 1 0 0 0 [(0, .ref (z_sa X w))] [] M (some 1)
  refine zk_comp (pc := 0) B ks_1 dJ0_isLatin1_aae02_0 ?_
  refine zk_ifeq' (pc := 3) (tgt := 17) B dJ0_isLatin1_aae02_3 (by decide) (fun h => absurd h (by decide)) (fun _ => ?_)
  refine zk_aload_n (pc := 6) B dJ0_isLatin1_aae02_6 0 rfl rfl ?_
  refine zk_scod (pc := 7) B hw ks_3 dJ0_isLatin1_aae02_7 ?_
  refine zk_ifne' (pc := 10) (tgt := 17) B dJ0_isLatin1_aae02_10 (by decide) (fun h => absurd rfl h) (fun _ => ?_)
  refine zk_iconst (v := 1) (pc := 13) B dJ0_isLatin1_aae02_13 (by decide) ?_
  refine zk_goto (tgt := 18) (pc := 14) B dJ0_isLatin1_aae02_14 (by decide) ?_
  exact zk_iret (pc := 18) B dJ0_isLatin1_aae02_18 rfl rfl (Nat.le_refl _) (Nat.le_refl _) rfl
theorem m_length {X : z_X} (hX : z_ok X) {w : Nat} (hw : w < 14) {G : z_Gr} (M : z_Mem) : z_Ct X yJ0_length_8abf5 cJ0_length_8abf5 1 (some .int) ({ frames := 1, cells := 0, slots := 0, locals := 20 } : Room) [.ref (z_sa X w)] G M (fun o G' M' => G' = G ∧ (o, M') = z_ci M (Int32.ofNat (z_tl w))) := by
  refine z_enter hX (by decide) (Nat.le_of_ble_eq_true rfl) (K := some (Int32.ofNat (z_tl w))) rfl (fun F B hR => ?_)
  show z_K X F 1 0 0 G (z_ci M) (Int32.ofNat (z_tl w)) 0 0 0 [(0, .ref (z_sa X w))] [] M (some (Int32.ofNat (z_tl w)))
  refine zk_aload_n (pc := 0) B dJ0_length_8abf5_0 0 rfl rfl ?_
  refine zk_sval (pc := 1) B hw ks_2 dJ0_length_8abf5_1 ?_
  refine zk_sarl (pc := 4) B hw dJ0_length_8abf5_4 ?_
  refine zk_aload_n (pc := 5) B dJ0_length_8abf5_5 0 rfl rfl ?_
  refine zk_cpi1 (pc := 6) (k' := 0) (n' := 0) B rfl rfl (Nat.le_refl _) (Nat.le_refl _) (zr_VS B hw hR ks_V2 ks_m2 [] rfl rfl (Nat.le_of_ble_eq_true rfl) dJ0_length_8abf5_6 (m_coder hX hw M) ⟨Nat.le_of_ble_eq_true rfl, Nat.le_of_ble_eq_true rfl⟩ ⟨Nat.le_of_ble_eq_true rfl, Nat.le_of_ble_eq_true rfl⟩) ?_
  refine zk_ishr (pc := 9) B dJ0_length_8abf5_9 ?_
  have e : Int32.ofNat (z_tl w) >>> ((0 : Int32) &&& 31) = Int32.ofNat (z_tl w) := z_tl_s w hw
  rw [e]
  exact zk_iret (pc := 10) B dJ0_length_8abf5_10 rfl rfl (Nat.le_refl _) (Nat.le_refl _) rfl
theorem m_pre {X : z_X} (hX : z_ok X) {G : z_Gr} {i n : Int32} {v : Value} (hv : v = .null ∨ ∃ t : Nat, v = .ref t) (h1 : ¬ i < 0) (h2 : i < n) (M : z_Mem) : z_Ct X yJ3_checkIndex_8e157 cJ3_checkIndex_8e157 3 (some .int) ({ frames := 0, cells := 0, slots := 0, locals := 0 } : Room) [.int i, .int n, v] G M (fun o G' M' => G' = G ∧ (o, M') = z_ci M i) := by
  rcases hv with rfl | ⟨t, rfl⟩
  · refine z_enter hX (by decide) (Nat.le_of_ble_eq_true rfl) (K := some i) rfl (fun F B hR => ?_)
    show z_K X F 3 0 0 G (z_ci M) i 0 0 0 [(0, .int i), (1, .int n), (2, .null)] [] M (some i)
    refine zk_iload_n (pc := 0) B dJ3_checkIndex_8e157_0 0 rfl rfl ?_
    refine zk_iflt' (pc := 1) (tgt := 9) B dJ3_checkIndex_8e157_1 (by decide) (fun h => absurd h h1) (fun _ => ?_)
    refine zk_iload_n (pc := 4) B dJ3_checkIndex_8e157_4 0 rfl rfl ?_
    refine zk_iload_n (pc := 5) B dJ3_checkIndex_8e157_5 1 rfl rfl ?_
    refine zk_icmplt' (pc := 6) (tgt := 16) B dJ3_checkIndex_8e157_6 (by decide) (fun _ => ?_) (fun h => absurd h2 h)
    refine zk_iload_n (pc := 16) B dJ3_checkIndex_8e157_16 0 rfl rfl ?_
    exact zk_iret (pc := 17) B dJ3_checkIndex_8e157_17 rfl rfl (Nat.le_refl _) (Nat.le_refl _) rfl
  · refine z_enter hX (by decide) (Nat.le_of_ble_eq_true rfl) (K := some i) rfl (fun F B hR => ?_)
    show z_K X F 3 0 0 G (z_ci M) i 0 0 0 [(0, .int i), (1, .int n), (2, .ref t)] [] M (some i)
    refine zk_iload_n (pc := 0) B dJ3_checkIndex_8e157_0 0 rfl rfl ?_
    refine zk_iflt' (pc := 1) (tgt := 9) B dJ3_checkIndex_8e157_1 (by decide) (fun h => absurd h h1) (fun _ => ?_)
    refine zk_iload_n (pc := 4) B dJ3_checkIndex_8e157_4 0 rfl rfl ?_
    refine zk_iload_n (pc := 5) B dJ3_checkIndex_8e157_5 1 rfl rfl ?_
    refine zk_icmplt' (pc := 6) (tgt := 16) B dJ3_checkIndex_8e157_6 (by decide) (fun _ => ?_) (fun h => absurd h2 h)
    refine zk_iload_n (pc := 16) B dJ3_checkIndex_8e157_16 0 rfl rfl ?_
    exact zk_iret (pc := 17) B dJ3_checkIndex_8e157_17 rfl rfl (Nat.le_refl _) (Nat.le_refl _) rfl
theorem m_chk {X : z_X} (hX : z_ok X) {G : z_Gr} {i n : Int32} (h1 : ¬ i < 0) (h2 : i < n) (M : z_Mem) : z_Ct X yJ0_checkIndex_df160 cJ0_checkIndex_df160 2 none ({ frames := 1, cells := 0, slots := 0, locals := 22 } : Room) [.int i, .int n] G M (fun o G' M' => G' = G ∧ (o, M') = z_cvm M) := by
  refine z_enter hX (by decide) (Nat.le_of_ble_eq_true rfl) (K := some M) rfl (fun F B hR => ?_)
  show z_K X F 2 0 0 G z_cvm M 0 0 0 [(0, .int i), (1, .int n)] [] M (some M)
  refine zk_iload_n (pc := 0) B dJ0_checkIndex_df160_0 0 rfl rfl ?_
  refine zk_iload_n (pc := 1) B dJ0_checkIndex_df160_1 1 rfl rfl ?_
  refine zk_fmt (pc := 2) B ks_4 dJ0_checkIndex_df160_2 (fun v hv => ?_)
  refine zk_cpi1 (pc := 5) (k' := 0) (n' := 0) B rfl rfl (Nat.le_refl _) (Nat.le_refl _) (zr_S B hR ks_S7 ks_m7 [.int i, .int n, v] rfl rfl (Nat.le_of_ble_eq_true rfl) dJ0_checkIndex_df160_5 (m_pre hX hv h1 h2 M) ⟨Nat.le_of_ble_eq_true rfl, Nat.le_of_ble_eq_true rfl⟩ ⟨Nat.le_of_ble_eq_true rfl, Nat.le_of_ble_eq_true rfl⟩) ?_
  refine zk_pop (pc := 8) B dJ0_checkIndex_df160_8 rfl ?_
  exact zk_vret (pc := 9) B dJ0_checkIndex_df160_9 rfl (Nat.le_refl _) (Nat.le_refl _) rfl
theorem z_inb_lt {i : Int32} {w : Nat} (hw : w < 14) (h : z_inb i (z_tl w)) : ¬ i < 0 ∧ i < Int32.ofNat (z_tl w) := by
  have h1 : ¬ i < 0 := fun q => h (Or.inl q)
  have h2 : i.toNatClampNeg < z_tl w := Nat.not_le.mp fun q => h (Or.inr q)
  refine ⟨h1, ?_⟩
  have h3 : i.toInt.toNat < z_tl w := h2
  have h4 := z_tl_b w hw
  rw [Int32.lt_iff_toInt_lt, Int32.toInt_ofNat_of_lt (by omega)]
  omega
theorem m_l1chr {X : z_X} (hX : z_ok X) {w : Nat} (hw : w < 14) {G : z_Gr} {i : Int32} (hin : z_inb i (z_tl w)) (M : z_Mem) : z_Ct X yJ1_charAt_3b067 cJ1_charAt_3b067 2 (some .char) ({ frames := 2, cells := 0, slots := 0, locals := 43 } : Room) [.ref (z_sv1 X w), .int i] G M (fun o G' M' => G' = G ∧ (o, M') = z_ci M (z_tc w i.toNatClampNeg)) := by
  have hlt : i.toNatClampNeg < z_tl w := Nat.not_le.mp fun q => hin (Or.inr q)
  refine z_enter hX (by decide) (Nat.le_of_ble_eq_true rfl) (K := some (z_tc w i.toNatClampNeg)) rfl (fun F B hR => ?_)
  show z_K X F 2 0 0 G (z_ci M) (z_tc w i.toNatClampNeg) 0 0 0 [(0, .ref (z_sv1 X w)), (1, .int i)] [] M (some (z_tc w i.toNatClampNeg))
  refine zk_iload_n (pc := 0) B dJ1_charAt_3b067_0 1 rfl rfl ?_
  refine zk_aload_n (pc := 1) B dJ1_charAt_3b067_1 0 rfl rfl ?_
  refine zk_sarl (pc := 2) B hw dJ1_charAt_3b067_2 ?_
  refine zk_cvm1 (pc := 3) (k' := 0) (n' := 0) B rfl rfl (Nat.le_refl _) (Nat.le_refl _) (zr_S B hR ks_S6 ks_m6 [.int i, .int (Int32.ofNat (z_tl w))] rfl rfl (Nat.le_of_ble_eq_true rfl) dJ1_charAt_3b067_3 (m_chk hX (z_inb_lt hw hin).1 (z_inb_lt hw hin).2 M) ⟨Nat.le_of_ble_eq_true rfl, Nat.le_of_ble_eq_true rfl⟩ ⟨Nat.le_of_ble_eq_true rfl, Nat.le_of_ble_eq_true rfl⟩) ?_
  refine zk_aload_n (pc := 6) B dJ1_charAt_3b067_6 0 rfl rfl ?_
  refine zk_iload_n (pc := 7) B dJ1_charAt_3b067_7 1 rfl rfl ?_
  refine zk_sbald (pc := 8) B hw hin dJ1_charAt_3b067_8 ?_
  refine zk_sipush (v := 255) (pc := 9) B dJ1_charAt_3b067_9 (by decide) ?_
  refine zk_iand (pc := 12) B dJ1_charAt_3b067_12 ?_
  refine zk_i2c (pc := 13) B dJ1_charAt_3b067_13 (z_tc_c w hw _ hlt) ?_
  exact zk_iret (pc := 14) B dJ1_charAt_3b067_14 rfl (z_tc_n w hw _ hlt) (Nat.le_refl _) (Nat.le_refl _) rfl
theorem m_charAt {X : z_X} (hX : z_ok X) {w : Nat} (hw : w < 14) {G : z_Gr} {i : Int32} (hin : z_inb i (z_tl w)) (M : z_Mem) : z_Ct X yJ0_charAt_5068e cJ0_charAt_5068e 2 (some .char) ({ frames := 3, cells := 0, slots := 0, locals := 64 } : Room) [.ref (z_sa X w), .int i] G M (fun o G' M' => G' = G ∧ (o, M') = z_ci M (z_tc w i.toNatClampNeg)) := by
  have hlt : i.toNatClampNeg < z_tl w := Nat.not_le.mp fun q => hin (Or.inr q)
  refine z_enter hX (by decide) (Nat.le_of_ble_eq_true rfl) (K := some (z_tc w i.toNatClampNeg)) rfl (fun F B hR => ?_)
  show z_K X F 2 0 0 G (z_ci M) (z_tc w i.toNatClampNeg) 0 0 0 [(0, .ref (z_sa X w)), (1, .int i)] [] M (some (z_tc w i.toNatClampNeg))
  refine zk_aload_n (pc := 0) B dJ0_charAt_5068e_0 0 rfl rfl ?_
  refine zk_cpi1 (pc := 1) (k' := 0) (n' := 0) B rfl rfl (Nat.le_refl _) (Nat.le_refl _) (zr_VS B hw hR ks_V4 ks_m4 [] rfl rfl (Nat.le_of_ble_eq_true rfl) dJ0_charAt_5068e_1 (m_isLatin1 hX hw M) ⟨Nat.le_of_ble_eq_true rfl, Nat.le_of_ble_eq_true rfl⟩ ⟨Nat.le_of_ble_eq_true rfl, Nat.le_of_ble_eq_true rfl⟩) ?_
  refine zk_ifeq' (pc := 4) (tgt := 16) B dJ0_charAt_5068e_4 (by decide) (fun h => absurd h (by decide)) (fun _ => ?_)
  refine zk_aload_n (pc := 7) B dJ0_charAt_5068e_7 0 rfl rfl ?_
  refine zk_sval (pc := 8) B hw ks_2 dJ0_charAt_5068e_8 ?_
  refine zk_iload_n (pc := 11) B dJ0_charAt_5068e_11 1 rfl rfl ?_
  refine zk_cpi1 (pc := 12) (k' := 0) (n' := 0) B rfl rfl (Nat.le_refl _) (Nat.le_refl _) (zr_S B hR ks_S5 ks_m5 [.ref (z_sv1 X w), .int i] rfl rfl (Nat.le_of_ble_eq_true rfl) dJ0_charAt_5068e_12 (m_l1chr hX hw hin M) ⟨Nat.le_of_ble_eq_true rfl, Nat.le_of_ble_eq_true rfl⟩ ⟨Nat.le_of_ble_eq_true rfl, Nat.le_of_ble_eq_true rfl⟩) ?_
  exact zk_iret (pc := 15) B dJ0_charAt_5068e_15 rfl (z_tc_n w hw _ hlt) (Nat.le_refl _) (Nat.le_refl _) rfl
section ZR9
variable {X : z_X} {F : z_F} {own : String} {cc : ByteArray} {nL mc ms : Nat} {ret : Option FieldType} {G : z_Gr} {β : Type} {cv : β → z_O × z_Mem} {b0 : β} {k n pc : Nat} {loc loc' : List (Nat × Value)} {st : List Value} {M : z_Mem} {K : Option β} {rm0 : Room}
/-- a text's length() and charAt(i): of the class's words, of the law's texts -/
theorem zk_len (B : z_B X F own cc nL ret) (hR : F.2.2.1 = rm0) {w : Nat} (hw : w < 14) {ix : Nat} (hlk : Cond.methodLink own ix yJ0_length_8abf5 ∈ z_tbl) (d : decode cc pc = .ok (.invokevirtual ix, 3)) (hcat : (st.map fun v => v.category).sum ≤ 8) (hr1 : 2 ≤ rm0.frames ∧ 40 ≤ rm0.locals ∧ k ≤ rm0.cells ∧ n ≤ rm0.slots ∧ k ≤ mc ∧ n ≤ ms) (kk : z_K X F nL mc ms G cv b0 k n (pc + 3) loc (.int (Int32.ofNat (z_tl w)) :: st) M K) : z_K X F nL mc ms G cv b0 k n pc loc (.ref (z_sa X w) :: st) M K :=
  zk_cpi1 (k' := k) (n' := n) B rfl rfl hr1.2.2.2.2.1 hr1.2.2.2.2.2 (zr_VS B hw hR ks_V1 hlk [] rfl rfl hcat d (m_length B.ok hw M) ⟨hr1.1, hr1.2.1⟩ ⟨hr1.2.2.1, hr1.2.2.2.1⟩) kk
theorem zk_chr (B : z_B X F own cc nL ret) (hR : F.2.2.1 = rm0) {w : Nat} (hw : w < 14) {ix : Nat} (hlk : Cond.methodLink own ix yJ0_charAt_5068e ∈ z_tbl) {i : Int32} (d : decode cc pc = .ok (.invokevirtual ix, 3)) (hcat : (st.map fun v => v.category).sum ≤ 8) (hr1 : 4 ≤ rm0.frames ∧ 85 ≤ rm0.locals ∧ k ≤ rm0.cells ∧ n ≤ rm0.slots ∧ k ≤ mc ∧ n ≤ ms) (kk : z_K X F nL mc ms G cv b0 k n (pc + 3) loc (.int (z_tc w i.toNatClampNeg) :: st) M K) : z_K X F nL mc ms G cv b0 k n pc loc (.int i :: .ref (z_sa X w) :: st) M (if z_inb i (z_tl w) then K else none) :=
  zk_chk fun hin => zk_cpi1 (k' := k) (n' := n) B rfl rfl hr1.2.2.2.2.1 hr1.2.2.2.2.2 (zr_VS B hw hR ks_V3 hlk [.int i] rfl rfl hcat d (m_charAt B.ok hw hin M) ⟨hr1.1, hr1.2.1⟩ ⟨hr1.2.2.1, hr1.2.2.2.1⟩) kk
theorem zk_wlen (B : z_B X F RX8 cc nL ret) (hR : F.2.2.1 = rm0) (d : decode cc pc = .ok (.invokevirtual 74, 3)) (hcat : (st.map fun v => v.category).sum ≤ 8) (hr1 : 2 ≤ rm0.frames ∧ 40 ≤ rm0.locals ∧ k ≤ rm0.cells ∧ n ≤ rm0.slots ∧ k ≤ mc ∧ n ≤ ms) (kk : z_K X F nL mc ms G cv b0 k n (pc + 3) loc (.int 144 :: st) M K) : z_K X F nL mc ms G cv b0 k n pc loc (.ref (z_sa X 0) :: st) M K :=
  zk_len B hR (w := 0) (by decide) ks_m1 d hcat hr1 (by rw [z_tl_0]; exact kk)
theorem zk_wch (B : z_B X F RX8 cc nL ret) (hR : F.2.2.1 = rm0) {i : Int32} (d : decode cc pc = .ok (.invokevirtual 80, 3)) (hcat : (st.map fun v => v.category).sum ≤ 8) (hr1 : 4 ≤ rm0.frames ∧ 85 ≤ rm0.locals ∧ k ≤ rm0.cells ∧ n ≤ rm0.slots ∧ k ≤ mc ∧ n ≤ ms) (kk : z_K X F nL mc ms G cv b0 k n (pc + 3) loc (.int (z_wc i.toNatClampNeg) :: st) M K) : z_K X F nL mc ms G cv b0 k n pc loc (.int i :: .ref (z_sa X 0) :: st) M (if z_inb i 144 then K else none) :=
  zk_chr (K := K) B hR (w := 0) (by decide) ks_m3 d hcat hr1 kk
end ZR9
