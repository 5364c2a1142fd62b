/-! ===== doubles and floats: a quotient of whole numbers is no NaN ===== -/
theorem z_nz64 {a : UInt64} (h : FP.Core.dIsNaN a = false) : vf_n64 a := by
  have h1 : ¬ 9218868437227405312 < a.toNat % 2 ^ 63 := fun q => by
    have := (FP.Core.isNaN_bits a).mpr q
    rw [h] at this
    cases this
  unfold vf_n64
  rw [UInt64.le_iff_toNat_le, UInt64.toNat_and]
  have e1 : (0x7fffffffffffffff : UInt64).toNat = 2 ^ 63 - 1 := by decide
  have e2 : (0x7ff0000000000000 : UInt64).toNat = 9218868437227405312 := by decide
  rw [e1, e2, Nat.and_two_pow_sub_one_eq_mod]
  omega
theorem z_nz32 {a : UInt32} (h : FP.Core.fIsNaN a = false) : vf_n32 a := by
  have h1 : ¬ 2139095040 < a.toNat % 2 ^ 31 := fun q => by
    have := (FP.Core.isNaN_bits32 a).mpr q
    rw [h] at this
    cases this
  unfold vf_n32
  rw [UInt32.le_iff_toNat_le, UInt32.toNat_and]
  have e1 : (0x7fffffff : UInt32).toNat = 2 ^ 31 - 1 := by decide
  have e2 : (0x7f800000 : UInt32).toNat = 2139095040 := by decide
  rw [e1, e2, Nat.and_two_pow_sub_one_eq_mod]
  omega
theorem z_dd (x : Int32) {y : Int32} (h : ¬ y = 0) : FP.Core.dIsNaN (FP.ddiv (FP.i2d x) (FP.i2d y)) = false :=
  FP.Core.ddiv_out (by
    obtain ⟨s, c, q, e⟩ := FP.Core.i2d_fin x
    cases hh : FP.Core.dIsNaN (FP.Core.i2d x) with
    | false => rfl
    | true =>
      have h2 := (FP.Core.isNaN_bits _).mp hh
      have h3 := FP.Core.i2d_mag x
      omega) (FP.Core.i2d_fin y) (fun hz => FP.Core.i2d_ne_zero h ((FP.Core.zero_bits2 _).mp hz))
theorem z_fd (x : Int32) {y : Int32} (h : ¬ y = 0) : FP.Core.fIsNaN (FP.fdiv (FP.i2f x) (FP.i2f y)) = false :=
  FP.Core.fdiv_out (by
    cases hh : FP.Core.fIsNaN (FP.Core.i2f x) with
    | false => rfl
    | true =>
      have h2 := (FP.Core.isNaN_bits32 _).mp hh
      have h3 := FP.Core.i2f_mag x
      omega) (FP.Core.i2f_fin y) (fun hz => FP.Core.i2f_ne_zero h ((FP.Core.zero_bits232 _).mp hz))
def z_cd (M : z_Mem) (r : UInt64) : z_O × z_Mem := (.ok (some (.double r)), M)
def z_cdm (q : UInt64 × z_Mem) : z_O × z_Mem := (.ok (some (.double q.1)), q.2)
def z_cfm (q : UInt32 × z_Mem) : z_O × z_Mem := (.ok (some (.float q.1)), q.2)
def z_cf (M : z_Mem) (r : UInt32) : z_O × z_Mem := (.ok (some (.float r)), M)
section ZRF
variable {X : z_X} {F : z_F} {own : String} {cc : ByteArray} {nL mc ms : Nat} {ret : Option FieldType} {G : z_Gr} {β : Type} {cv : β → z_O × z_Mem} {b0 : β} {k n pc : Nat} {loc loc' : List (Nat × Value)} {st : List Value} {M : z_Mem} {K : Option β}
theorem zk_i2d (B : z_B X F own cc nL ret) {x : Int32} (d : decode cc pc = .ok (.i2d, 1)) (kk : z_K X F nL mc ms G cv b0 k n (pc + 1) loc (.double (FP.i2d x) :: st) M K) : z_K X F nL mc ms G cv b0 k n pc loc (.int x :: st) M K :=
  fun h0 H locs ls hH hz hf hL => lv_i2d B.1 B.2.1 d (kk h0 H locs ls hH hz hf hL)
theorem zk_i2f (B : z_B X F own cc nL ret) {x : Int32} (d : decode cc pc = .ok (.i2f, 1)) (kk : z_K X F nL mc ms G cv b0 k n (pc + 1) loc (.float (FP.i2f x) :: st) M K) : z_K X F nL mc ms G cv b0 k n pc loc (.int x :: st) M K :=
  fun h0 H locs ls hH hz hf hL => lv_i2f B.1 B.2.1 d (kk h0 H locs ls hH hz hf hL)
theorem zk_ddiv (B : z_B X F own cc nL ret) {x y : Int32} (d : decode cc pc = .ok (.ddiv, 1)) (h : ¬ y = 0) (kk : z_K X F nL mc ms G cv b0 k n (pc + 1) loc (.double (FP.ddiv (FP.i2d x) (FP.i2d y)) :: st) M K) : z_K X F nL mc ms G cv b0 k n pc loc (.double (FP.i2d y) :: .double (FP.i2d x) :: st) M K :=
  fun h0 H locs ls hH hz hf hL => lv_ddiv B.1 B.2.1 d (z_nz64 (z_dd x h)) (kk h0 H locs ls hH hz hf hL)
theorem zk_fdiv (B : z_B X F own cc nL ret) {x y : Int32} (d : decode cc pc = .ok (.fdiv, 1)) (h : ¬ y = 0) (kk : z_K X F nL mc ms G cv b0 k n (pc + 1) loc (.float (FP.fdiv (FP.i2f x) (FP.i2f y)) :: st) M K) : z_K X F nL mc ms G cv b0 k n pc loc (.float (FP.i2f y) :: .float (FP.i2f x) :: st) M K :=
  fun h0 H locs ls hH hz hf hL => lv_fdiv B.1 B.2.1 d (z_nz32 (z_fd x h)) (kk h0 H locs ls hH hz hf hL)
theorem zk_dconst (B : z_B X F own cc nL ret) (d : decode cc pc = .ok (.dconst 0, 1)) (kk : z_K X F nL mc ms G cv b0 k n (pc + 1) loc (.double FP.dconst0 :: st) M K) : z_K X F nL mc ms G cv b0 k n pc loc st M K :=
  fun h0 H locs ls hH hz hf hL => lv_dconst0 B.1 B.2.1 d (kk h0 H locs ls hH hz hf hL)
theorem zk_fconst (B : z_B X F own cc nL ret) (d : decode cc pc = .ok (.fconst 0, 1)) (kk : z_K X F nL mc ms G cv b0 k n (pc + 1) loc (.float FP.fconst0 :: st) M K) : z_K X F nL mc ms G cv b0 k n pc loc st M K :=
  fun h0 H locs ls hH hz hf hL => lv_fconst0 B.1 B.2.1 d (kk h0 H locs ls hH hz hf hL)
theorem zk_dret (B : z_B X F own cc nL ret) {v : UInt64} {b : β} (d : decode cc pc = .ok (.dreturn, 1)) (hr : ret = some .double) (hk : k ≤ mc) (hs : n ≤ ms) (hb : cv b = (.ok (some (.double v)), M)) : z_K X F nL mc ms G cv b0 k n pc loc [.double v] M (some b) := by
  intro h0 H locs ls hH hz hf hL
  cases Option.some.inj h0
  refine W.widen hk hs (vx_ret (W.dret B.1 B.2.1 (B.2.2.2.1.trans hr) (fun t ht hW => ?_) hf d B.2.2.2.2.2.2.1))
  exact ⟨by rw [ht]; exact hz, some (.double v), G, M, rfl, ⟨rfl, hb.symm⟩, by rw [ht]; exact hH⟩
theorem zk_fret (B : z_B X F own cc nL ret) {v : UInt32} {b : β} (d : decode cc pc = .ok (.freturn, 1)) (hr : ret = some .float) (hk : k ≤ mc) (hs : n ≤ ms) (hb : cv b = (.ok (some (.float v)), M)) : z_K X F nL mc ms G cv b0 k n pc loc [.float v] M (some b) := by
  intro h0 H locs ls hH hz hf hL
  cases Option.some.inj h0
  refine W.widen hk hs (vx_ret (W.fret B.1 B.2.1 (B.2.2.2.1.trans hr) (fun t ht hW => ?_) hf d B.2.2.2.2.2.2.1))
  exact ⟨by rw [ht]; exact hz, some (.float v), G, M, rfl, ⟨rfl, hb.symm⟩, by rw [ht]; exact hH⟩
end ZRF
def F_Sys_meanFare (o : Nat) (M : z_Mem) : Option (UInt64) :=
  zb (F_Desk_countInState (o + 5) 3 M) fun x1 =>
  if x1 = 0 then
    some FP.dconst0
  else
    zb (F_Desk_paidByDone (o + 5) M) fun x2 =>
    if ¬ x1 = 0 then
    some (FP.ddiv (FP.i2d x2) (FP.i2d x1))
    else none
set_option maxHeartbeats 4000000 in
set_option maxRecDepth 100000 in
theorem m_Sys_meanFare {X : z_X} (hX : z_ok X) {G : z_Gr} {o : Nat} (hG : g_Sys G o) (M : z_Mem) (b : UInt64) (h : F_Sys_meanFare o M = some b) : z_Ct X yX11_meanFare cX11_meanFare 2 (some .double) ({ frames := 1, cells := 0, slots := 0, locals := 23 } : Room) [.ref o] G M (fun o9 G9 M9 => G9 = G ∧ (o9, M9) = (z_cd M) b) := by
  refine z_enter hX (by decide) (Nat.le_of_ble_eq_true rfl) h (fun F B hR => ?_)
  show z_K X F 2 0 0 G (z_cd M) b 0 0 0 [(0, .ref o)] [] M (F_Sys_meanFare o M)
  unfold F_Sys_meanFare
  refine zk_aload_n (pc := 0) B dX11_meanFare_0 0 rfl rfl ?_
  refine zk_getr (pc := 1) B kx_11 (gSys_s hG) 6 (by decide) kf_11_36 rfl (gSys_f6 hG) dX11_meanFare_1 ?_
  refine zk_iconst (v := 3) (pc := 4) B dX11_meanFare_4 (by decide) ?_
  refine zk_cpi (pc := 5) (k' := 0) (n' := 0) B rfl rfl (Nat.le_of_ble_eq_true rfl) (Nat.le_of_ble_eq_true rfl) (fun b hb => zr_V B hR kV_yX0_countInState km_11_193 kx_0 (gDesk_s (gSys_t6 hG)) [.int 3] rfl rfl (Nat.le_of_ble_eq_true rfl) dX11_meanFare_5 (m_Desk_countInState hX (gSys_t6 hG) 3 M b hb) ⟨Nat.le_of_ble_eq_true rfl, Nat.le_of_ble_eq_true rfl⟩ ⟨Nat.le_of_ble_eq_true rfl, Nat.le_of_ble_eq_true rfl⟩) (fun x1 _ => ?_)
  refine zk_istore_n (loc' := [(1, .int x1), (0, .ref o)]) (pc := 8) B dX11_meanFare_8 rfl (by decide) rfl ?_
  refine zk_iload_n (pc := 9) B dX11_meanFare_9 0 rfl rfl ?_
  refine zk_if_ne (tgt := 17) (pc := 10) B dX11_meanFare_10 (by decide) (fun _ => ?_) (fun _ => ?_)
  · refine zk_aload_n (pc := 17) B dX11_meanFare_17 1 rfl rfl ?_
    refine zk_getr (pc := 18) B kx_11 (gSys_s hG) 6 (by decide) kf_11_36 rfl (gSys_f6 hG) dX11_meanFare_18 ?_
    refine zk_cpi (pc := 21) (k' := 0) (n' := 0) B rfl rfl (Nat.le_of_ble_eq_true rfl) (Nat.le_of_ble_eq_true rfl) (fun b hb => zr_V B hR kV_yX0_paidByDone km_11_383 kx_0 (gDesk_s (gSys_t6 hG)) [] rfl rfl (Nat.le_of_ble_eq_true rfl) dX11_meanFare_21 (m_Desk_paidByDone hX (gSys_t6 hG) M b hb) ⟨Nat.le_of_ble_eq_true rfl, Nat.le_of_ble_eq_true rfl⟩ ⟨Nat.le_of_ble_eq_true rfl, Nat.le_of_ble_eq_true rfl⟩) (fun x2 _ => ?_)
    refine zk_i2d (pc := 24) B dX11_meanFare_24 ?_
    refine zk_iload_n (pc := 25) B dX11_meanFare_25 0 rfl rfl ?_
    refine zk_i2d (pc := 26) B dX11_meanFare_26 ?_
    refine zk_chk (fun h3 => zk_ddiv (pc := 27) B dX11_meanFare_27 h3 ?_)
    exact zk_dret (pc := 28) B dX11_meanFare_28 rfl (Nat.le_of_ble_eq_true rfl) (Nat.le_of_ble_eq_true rfl) rfl
  · refine zk_dconst (pc := 13) B dX11_meanFare_13 ?_
    refine zk_goto (tgt := 28) (pc := 14) B dX11_meanFare_14 (by decide) ?_
    exact zk_dret (pc := 28) B dX11_meanFare_28 rfl (Nat.le_of_ble_eq_true rfl) (Nat.le_of_ble_eq_true rfl) rfl
def F_Sys_sharedPart_J58 (o : Nat) (v1 : Int32) (v2 : Int32) (M : z_Mem) : Option (UInt32) :=
  if v1 = 0 then
    some FP.fconst0
  else
    if ¬ v1 = 0 then
    some (FP.fdiv (FP.i2f v2) (FP.i2f v1))
    else none
def F_Sys_sharedPart_B6 (o : Nat) (rec6 : Int32 → Int32 → Int32 → z_Mem → Option (UInt32)) (v1 : Int32) (v2 : Int32) (v3 : Int32) (M : z_Mem) : Option (UInt32) :=
  if (M.1 (o + 5) 3) ≤ v3 then
    F_Sys_sharedPart_J58 o v1 v2 M
  else
    if 4 ≤ v3 then
      F_Sys_sharedPart_J58 o v1 v2 M
    else
      if z_inb v3 4 then
      zl ((o + 5) + 4 + 3 * v3.toNatClampNeg) fun t1 =>
      zl ((v1 + (M.1 t1 14))) fun x3 =>
      if z_inb v3 4 then
      zl ((o + 5) + 4 + 3 * v3.toNatClampNeg) fun t4 =>
      zl ((v2 + (M.1 t4 15))) fun x6 =>
      zl (v3 + 1) fun x7 =>
      rec6 x3 x6 x7 M
      else none
      else none
def F_Sys_sharedPart_L6 (o : Nat) : Nat → Int32 → Int32 → Int32 → z_Mem → Option (UInt32)
  | 0, _, _, _, _ => none
  | n9 + 1, v1, v2, v3, M => F_Sys_sharedPart_B6 o (F_Sys_sharedPart_L6 o n9) v1 v2 v3 M
def F_Sys_sharedPart (o : Nat) (M : z_Mem) : Option (UInt32) :=
  F_Sys_sharedPart_L6 o 10000 0 0 0 M
set_option maxHeartbeats 4000000 in
set_option maxRecDepth 100000 in
theorem m_Sys_sharedPart {X : z_X} (hX : z_ok X) {G : z_Gr} {o : Nat} (hG : g_Sys G o) (M : z_Mem) (b : UInt32) (h : F_Sys_sharedPart o M = some b) : z_Ct X yX11_sharedPart cX11_sharedPart 4 (some .float) ({ frames := 0, cells := 0, slots := 0, locals := 0 } : Room) [.ref o] G M (fun o9 G9 M9 => G9 = G ∧ (o9, M9) = (z_cf M) b) := by
  refine z_enter hX (by decide) (Nat.le_of_ble_eq_true rfl) h (fun F B hR => ?_)
  have J58 : ∀ (v1 : Int32) (v2 : Int32), z_K X F 4 0 0 G (z_cf M) b 0 0 58 [(1, .int v1), (2, .int v2)] [] M (F_Sys_sharedPart_J58 o v1 v2 M) := by
    intro v1 v2
    unfold F_Sys_sharedPart_J58
    refine zk_iload_n (pc := 58) B dX11_sharedPart_58 0 rfl rfl ?_
    refine zk_if_ne (tgt := 66) (pc := 59) B dX11_sharedPart_59 (by decide) (fun _ => ?_) (fun _ => ?_)
    · refine zk_iload_n (pc := 66) B dX11_sharedPart_66 1 rfl rfl ?_
      refine zk_i2f (pc := 67) B dX11_sharedPart_67 ?_
      refine zk_iload_n (pc := 68) B dX11_sharedPart_68 0 rfl rfl ?_
      refine zk_i2f (pc := 69) B dX11_sharedPart_69 ?_
      refine zk_chk (fun h8 => zk_fdiv (pc := 70) B dX11_sharedPart_70 h8 ?_)
      exact zk_fret (pc := 71) B dX11_sharedPart_71 rfl (Nat.le_of_ble_eq_true rfl) (Nat.le_of_ble_eq_true rfl) rfl
    · refine zk_fconst (pc := 62) B dX11_sharedPart_62 ?_
      refine zk_goto (tgt := 71) (pc := 63) B dX11_sharedPart_63 (by decide) ?_
      exact zk_fret (pc := 71) B dX11_sharedPart_71 rfl (Nat.le_of_ble_eq_true rfl) (Nat.le_of_ble_eq_true rfl) rfl
  have L6 : ∀ (nf6 : Nat), ∀ (v1 : Int32) (v2 : Int32) (v3 : Int32), z_K X F 4 0 0 G (z_cf M) b 0 0 6 [(0, .ref o), (1, .int v1), (2, .int v2), (3, .int v3)] [] M (F_Sys_sharedPart_L6 o nf6 v1 v2 v3 M) := by
    intro nf6
    induction nf6 with
    | zero => intro v1 v2 v3; exact zk_none
    | succ nf6 ih6 =>
      intro v1 v2 v3
      show z_K X F 4 0 0 G (z_cf M) b 0 0 6 [(0, .ref o), (1, .int v1), (2, .int v2), (3, .int v3)] [] M (F_Sys_sharedPart_B6 o (F_Sys_sharedPart_L6 o nf6) v1 v2 v3 M)
      unfold F_Sys_sharedPart_B6
      refine zk_iload_n (pc := 6) B dX11_sharedPart_6 3 rfl rfl ?_
      refine zk_aload_n (pc := 7) B dX11_sharedPart_7 0 rfl rfl ?_
      refine zk_getr (pc := 8) B kx_11 (gSys_s hG) 6 (by decide) kf_11_36 rfl (gSys_f6 hG) dX11_sharedPart_8 ?_
      refine zk_geti (pc := 11) B kx_0 (gDesk_s (gSys_t6 hG)) 3 (by decide) kf_11_144 rfl dX11_sharedPart_11 ?_
      refine zk_icmp_ge (tgt := 58) (pc := 14) B dX11_sharedPart_14 (by decide) (fun _ => ?_) (fun _ => ?_)
      · refine zk_sub [1, 2] rfl ?_
        exact J58 v1 v2
      · refine zk_iload_n (pc := 17) B dX11_sharedPart_17 3 rfl rfl ?_
        refine zk_iconst (v := 4) (pc := 18) B dX11_sharedPart_18 (by decide) ?_
        refine zk_icmp_ge (tgt := 58) (pc := 19) B dX11_sharedPart_19 (by decide) (fun _ => ?_) (fun _ => ?_)
        · refine zk_sub [1, 2] rfl ?_
          exact J58 v1 v2
        · refine zk_iload_n (pc := 22) B dX11_sharedPart_22 1 rfl rfl ?_
          refine zk_aload_n (pc := 23) B dX11_sharedPart_23 0 rfl rfl ?_
          refine zk_getr (pc := 24) B kx_11 (gSys_s hG) 6 (by decide) kf_11_36 rfl (gSys_f6 hG) dX11_sharedPart_24 ?_
          refine zk_getr (pc := 27) B kx_0 (gDesk_s (gSys_t6 hG)) 6 (by decide) kf_11_366 rfl (gDesk_f6 (gSys_t6 hG)) dX11_sharedPart_27 ?_
          refine zk_iload_n (pc := 30) B dX11_sharedPart_30 3 rfl rfl ?_
          refine zk_aald (pc := 31) B (gDesk_t6 (gSys_t6 hG)) (by decide) (by decide) (fun h2 => gDesk_e6 (gSys_t6 hG) _ (z_lt h2)) dX11_sharedPart_31 (fun h2 => zk_lr (fun t1 h2e => ?_))
          have ht1 : g_Taxi G t1 := by rw [h2e]; exact gDesk_k6 (gSys_t6 hG) _ (z_lt h2)
          refine zk_geti (pc := 32) B kx_6 (gTaxi_s ht1) 14 (by decide) kf_11_261 rfl dX11_sharedPart_32 ?_
          refine zk_iadd (pc := 35) B dX11_sharedPart_35 ?_
          refine zk_li (fun x3 => ?_)
          refine zk_istore_n (loc' := [(1, .int x3), (0, .ref o), (2, .int v2), (3, .int v3)]) (pc := 36) B dX11_sharedPart_36 rfl (by decide) rfl ?_
          refine zk_iload_n (pc := 37) B dX11_sharedPart_37 2 rfl rfl ?_
          refine zk_aload_n (pc := 38) B dX11_sharedPart_38 1 rfl rfl ?_
          refine zk_getr (pc := 39) B kx_11 (gSys_s hG) 6 (by decide) kf_11_36 rfl (gSys_f6 hG) dX11_sharedPart_39 ?_
          refine zk_getr (pc := 42) B kx_0 (gDesk_s (gSys_t6 hG)) 6 (by decide) kf_11_366 rfl (gDesk_f6 (gSys_t6 hG)) dX11_sharedPart_42 ?_
          refine zk_iload_n (pc := 45) B dX11_sharedPart_45 3 rfl rfl ?_
          refine zk_aald (pc := 46) B (gDesk_t6 (gSys_t6 hG)) (by decide) (by decide) (fun h5 => gDesk_e6 (gSys_t6 hG) _ (z_lt h5)) dX11_sharedPart_46 (fun h5 => zk_lr (fun t4 h5e => ?_))
          have ht4 : g_Taxi G t4 := by rw [h5e]; exact gDesk_k6 (gSys_t6 hG) _ (z_lt h5)
          refine zk_geti (pc := 47) B kx_6 (gTaxi_s ht4) 15 (by decide) kf_11_264 rfl dX11_sharedPart_47 ?_
          refine zk_iadd (pc := 50) B dX11_sharedPart_50 ?_
          refine zk_li (fun x6 => ?_)
          refine zk_istore_n (loc' := [(2, .int x6), (1, .int x3), (0, .ref o), (3, .int v3)]) (pc := 51) B dX11_sharedPart_51 rfl (by decide) rfl ?_
          refine zk_iinc (y := 1) (lf := fun x7 => [(3, .int x7), (2, .int x6), (1, .int x3), (0, .ref o)]) (pc := 52) B dX11_sharedPart_52 3 rfl (by decide) (by decide) (fun _ => rfl) (fun x7 => ?_)
          refine zk_goto (tgt := 6) (pc := 55) B dX11_sharedPart_55 (by decide) ?_
          refine zk_sub [3, 2, 1, 0] rfl ?_
          exact ih6 x3 x6 x7
  show z_K X F 4 0 0 G (z_cf M) b 0 0 0 [(0, .ref o)] [] M (F_Sys_sharedPart o M)
  unfold F_Sys_sharedPart
  refine zk_iconst (v := 0) (pc := 0) B dX11_sharedPart_0 (by decide) ?_
  refine zk_istore_n (loc' := [(1, .int 0), (0, .ref o)]) (pc := 1) B dX11_sharedPart_1 rfl (by decide) rfl ?_
  refine zk_iconst (v := 0) (pc := 2) B dX11_sharedPart_2 (by decide) ?_
  refine zk_istore_n (loc' := [(2, .int 0), (1, .int 0), (0, .ref o)]) (pc := 3) B dX11_sharedPart_3 rfl (by decide) rfl ?_
  refine zk_iconst (v := 0) (pc := 4) B dX11_sharedPart_4 (by decide) ?_
  refine zk_istore_n (loc' := [(3, .int 0), (2, .int 0), (1, .int 0), (0, .ref o)]) (pc := 5) B dX11_sharedPart_5 rfl (by decide) rfl ?_
  refine zk_sub [3, 2, 1, 0] rfl ?_
  exact L6 10000 0 0 0
