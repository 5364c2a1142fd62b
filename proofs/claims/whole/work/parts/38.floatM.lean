/-! ===== the reference: its quotients ===== -/
def F_Model_meanFare_B11 (a : Nat) (rec11 : Int32 → Int32 → Int32 → z_Mem → Option (UInt64 × z_Mem)) (v1 : Int32) (v2 : Int32) (v3 : Int32) (M : z_Mem) : Option (UInt64 × z_Mem) :=
  if z_inb 1 581 then
  if (M.1 (a + 1) (1 : Int32).toNatClampNeg) ≤ v3 then
    if v2 = 0 then
      some (FP.dconst0, M)
    else
      if ¬ v2 = 0 then
      some ((FP.ddiv (FP.i2d v1) (FP.i2d v2)), M)
      else none
  else
    zb (F_Model_of a v3 0 M) fun x3 =>
    if x3 = 3 then
      zb (F_Model_of a v3 10 M) fun x4 =>
      zl ((v1 + x4)) fun x5 =>
      zl (v2 + 1) fun x6 =>
      zl (v3 + 1) fun x7 =>
      rec11 x5 x6 x7 M
    else
      zl (v3 + 1) fun x8 =>
      rec11 v1 v2 x8 M
  else none
def F_Model_meanFare_L11 (a : Nat) : Nat → Int32 → Int32 → Int32 → z_Mem → Option (UInt64 × z_Mem)
  | 0, _, _, _, _ => none
  | n9 + 1, v1, v2, v3, M => F_Model_meanFare_B11 a (F_Model_meanFare_L11 a n9) v1 v2 v3 M
def F_Model_meanFare (a : Nat) (M : z_Mem) : Option (UInt64 × z_Mem) :=
  zl (z_wI M a 0 0) fun M1 =>
  F_Model_meanFare_L11 a 10000 0 0 0 M1
set_option maxHeartbeats 4000000 in
set_option maxRecDepth 100000 in
theorem m_Model_meanFare {X : z_X} (hX : z_ok X) {G : z_Gr} {a : Nat} (ha : g_Model G a) (M : z_Mem) (b : UInt64 × z_Mem) (h : F_Model_meanFare a M = some b) : z_Ct X yX12_meanFare cX12_meanFare 4 (some .double) ({ frames := 1, cells := 0, slots := 0, locals := 22 } : Room) [.ref a] G M (fun o9 G9 M9 => G9 = G ∧ (o9, M9) = z_cdm b) := by
  refine z_enter hX (by decide) (Nat.le_of_ble_eq_true rfl) h (fun F B hR => ?_)
  have L11 : ∀ (nf11 : Nat), ∀ (v1 : Int32) (v2 : Int32) (v3 : Int32) (M : z_Mem), z_K X F 4 0 0 G z_cdm b 0 0 11 [(0, .ref a), (1, .int v1), (2, .int v2), (3, .int v3)] [] M (F_Model_meanFare_L11 a nf11 v1 v2 v3 M) := by
    intro nf11
    induction nf11 with
    | zero => intro v1 v2 v3 M; exact zk_none
    | succ nf11 ih11 =>
      intro v1 v2 v3 M
      show z_K X F 4 0 0 G z_cdm b 0 0 11 [(0, .ref a), (1, .int v1), (2, .int v2), (3, .int v3)] [] M (F_Model_meanFare_B11 a (F_Model_meanFare_L11 a nf11) v1 v2 v3 M)
      unfold F_Model_meanFare_B11
      refine zk_iload_n (pc := 11) B dX12_meanFare_11 3 rfl rfl ?_
      refine zk_aload_n (pc := 12) B dX12_meanFare_12 0 rfl rfl ?_
      refine zk_getr (pc := 13) B kx_12 (gModel_s ha) 1 (by decide) kf_12_7 rfl (gModel_f1 ha) dX12_meanFare_13 ?_
      refine zk_iconst (v := 1) (pc := 16) B dX12_meanFare_16 (by decide) ?_
      refine zk_iald (pc := 17) B (gModel_t1 ha) dX12_meanFare_17 ?_
      refine zk_icmp_ge (tgt := 53) (pc := 18) B dX12_meanFare_18 (by decide) (fun _ => ?_) (fun _ => ?_)
      · refine zk_iload_n (pc := 53) B dX12_meanFare_53 2 rfl rfl ?_
        refine zk_if_ne (tgt := 61) (pc := 54) B dX12_meanFare_54 (by decide) (fun _ => ?_) (fun _ => ?_)
        · refine zk_iload_n (pc := 61) B dX12_meanFare_61 1 rfl rfl ?_
          refine zk_i2d (pc := 62) B dX12_meanFare_62 ?_
          refine zk_iload_n (pc := 63) B dX12_meanFare_63 2 rfl rfl ?_
          refine zk_i2d (pc := 64) B dX12_meanFare_64 ?_
          refine zk_chk (fun h2 => zk_ddiv (pc := 65) B dX12_meanFare_65 h2 ?_)
          exact zk_dret (pc := 66) B dX12_meanFare_66 rfl (Nat.le_of_ble_eq_true rfl) (Nat.le_of_ble_eq_true rfl) rfl
        · refine zk_dconst (pc := 57) B dX12_meanFare_57 ?_
          refine zk_goto (tgt := 66) (pc := 58) B dX12_meanFare_58 (by decide) ?_
          exact zk_dret (pc := 66) B dX12_meanFare_66 rfl (Nat.le_of_ble_eq_true rfl) (Nat.le_of_ble_eq_true rfl) rfl
      · refine zk_aload_n (pc := 21) B dX12_meanFare_21 0 rfl rfl ?_
        refine zk_iload_n (pc := 22) B dX12_meanFare_22 3 rfl rfl ?_
        refine zk_iconst (v := 0) (pc := 23) B dX12_meanFare_23 (by decide) ?_
        refine zk_cpi (pc := 24) (k' := 0) (n' := 0) B rfl rfl (Nat.le_of_ble_eq_true rfl) (Nat.le_of_ble_eq_true rfl) (fun b hb => zr_V B hR kV_yX12_of km_12_274 kx_12 (gModel_s ha) [.int v3, .int 0] rfl rfl (Nat.le_of_ble_eq_true rfl) dX12_meanFare_24 (m_Model_of hX ha v3 0 M b hb) ⟨Nat.le_of_ble_eq_true rfl, Nat.le_of_ble_eq_true rfl⟩ ⟨Nat.le_of_ble_eq_true rfl, Nat.le_of_ble_eq_true rfl⟩) (fun x3 _ => ?_)
        refine zk_iconst (v := 3) (pc := 27) B dX12_meanFare_27 (by decide) ?_
        refine zk_icmp_eq (tgt := 34) (pc := 28) B dX12_meanFare_28 (by decide) (fun _ => ?_) (fun _ => ?_)
        · refine zk_iload_n (pc := 34) B dX12_meanFare_34 1 rfl rfl ?_
          refine zk_aload_n (pc := 35) B dX12_meanFare_35 0 rfl rfl ?_
          refine zk_iload_n (pc := 36) B dX12_meanFare_36 3 rfl rfl ?_
          refine zk_bipush (v := 10) (pc := 37) B dX12_meanFare_37 (by decide) ?_
          refine zk_cpi (pc := 39) (k' := 0) (n' := 0) B rfl rfl (Nat.le_of_ble_eq_true rfl) (Nat.le_of_ble_eq_true rfl) (fun b hb => zr_V B hR kV_yX12_of km_12_274 kx_12 (gModel_s ha) [.int v3, .int 10] rfl rfl (Nat.le_of_ble_eq_true rfl) dX12_meanFare_39 (m_Model_of hX ha v3 10 M b hb) ⟨Nat.le_of_ble_eq_true rfl, Nat.le_of_ble_eq_true rfl⟩ ⟨Nat.le_of_ble_eq_true rfl, Nat.le_of_ble_eq_true rfl⟩) (fun x4 _ => ?_)
          refine zk_iadd (pc := 42) B dX12_meanFare_42 ?_
          refine zk_li (fun x5 => ?_)
          refine zk_istore_n (loc' := [(1, .int x5), (0, .ref a), (2, .int v2), (3, .int v3)]) (pc := 43) B dX12_meanFare_43 rfl (by decide) rfl ?_
          refine zk_iinc (y := 1) (lf := fun x6 => [(2, .int x6), (1, .int x5), (0, .ref a), (3, .int v3)]) (pc := 44) B dX12_meanFare_44 2 rfl (by decide) (by decide) (fun _ => rfl) (fun x6 => ?_)
          refine zk_iinc (y := 1) (lf := fun x7 => [(3, .int x7), (2, .int x6), (1, .int x5), (0, .ref a)]) (pc := 47) B dX12_meanFare_47 3 rfl (by decide) (by decide) (fun _ => rfl) (fun x7 => ?_)
          refine zk_goto (tgt := 11) (pc := 50) B dX12_meanFare_50 (by decide) ?_
          refine zk_sub [3, 2, 1, 0] rfl ?_
          exact ih11 x5 x6 x7 M
        · refine zk_goto (tgt := 47) (pc := 31) B dX12_meanFare_31 (by decide) ?_
          refine zk_iinc (y := 1) (lf := fun x8 => [(3, .int x8), (0, .ref a), (1, .int v1), (2, .int v2)]) (pc := 47) B dX12_meanFare_47 3 rfl (by decide) (by decide) (fun _ => rfl) (fun x8 => ?_)
          refine zk_goto (tgt := 11) (pc := 50) B dX12_meanFare_50 (by decide) ?_
          refine zk_sub [1, 2, 3, 0] rfl ?_
          exact ih11 v1 v2 x8 M
  show z_K X F 4 0 0 G z_cdm b 0 0 0 [(0, .ref a)] [] M (F_Model_meanFare a M)
  unfold F_Model_meanFare
  refine zk_aload_n (pc := 0) B dX12_meanFare_0 0 rfl rfl ?_
  refine zk_iconst (v := 0) (pc := 1) B dX12_meanFare_1 (by decide) ?_
  refine zk_puti (pc := 2) B kx_12 (gModel_s ha) 0 (by decide) kf_12_93 rfl rfl rfl rfl dX12_meanFare_2 ?_
  refine zk_lm (fun M1 => ?_)
  refine zk_iconst (v := 0) (pc := 5) B dX12_meanFare_5 (by decide) ?_
  refine zk_istore_n (loc' := [(1, .int 0), (0, .ref a)]) (pc := 6) B dX12_meanFare_6 rfl (by decide) rfl ?_
  refine zk_iconst (v := 0) (pc := 7) B dX12_meanFare_7 (by decide) ?_
  refine zk_istore_n (loc' := [(2, .int 0), (1, .int 0), (0, .ref a)]) (pc := 8) B dX12_meanFare_8 rfl (by decide) rfl ?_
  refine zk_iconst (v := 0) (pc := 9) B dX12_meanFare_9 (by decide) ?_
  refine zk_istore_n (loc' := [(3, .int 0), (2, .int 0), (1, .int 0), (0, .ref a)]) (pc := 10) B dX12_meanFare_10 rfl (by decide) rfl ?_
  refine zk_sub [3, 2, 1, 0] rfl ?_
  exact L11 10000 0 0 0 M1
def F_Model_sharedPart (a : Nat) (M : z_Mem) : Option (UInt32 × z_Mem) :=
  zl (z_wI M a 0 0) fun M1 =>
  zb (F_Model_sumOf a 8 M1) fun x2 =>
  if x2 = 0 then
    some (FP.fconst0, M1)
  else
    zb (F_Model_sumOf a 9 M1) fun x3 =>
    zb (F_Model_sumOf a 8 M1) fun x4 =>
    if ¬ x4 = 0 then
    some ((FP.fdiv (FP.i2f x3) (FP.i2f x4)), M1)
    else none
set_option maxHeartbeats 4000000 in
set_option maxRecDepth 100000 in
theorem m_Model_sharedPart {X : z_X} (hX : z_ok X) {G : z_Gr} {a : Nat} (ha : g_Model G a) (M : z_Mem) (b : UInt32 × z_Mem) (h : F_Model_sharedPart a M = some b) : z_Ct X yX12_sharedPart cX12_sharedPart 1 (some .float) ({ frames := 2, cells := 0, slots := 0, locals := 45 } : Room) [.ref a] G M (fun o9 G9 M9 => G9 = G ∧ (o9, M9) = z_cfm b) := by
  refine z_enter hX (by decide) (Nat.le_of_ble_eq_true rfl) h (fun F B hR => ?_)
  show z_K X F 1 0 0 G z_cfm b 0 0 0 [(0, .ref a)] [] M (F_Model_sharedPart a M)
  unfold F_Model_sharedPart
  refine zk_aload_n (pc := 0) B dX12_sharedPart_0 0 rfl rfl ?_
  refine zk_iconst (v := 0) (pc := 1) B dX12_sharedPart_1 (by decide) ?_
  refine zk_puti (pc := 2) B kx_12 (gModel_s ha) 0 (by decide) kf_12_93 rfl rfl rfl rfl dX12_sharedPart_2 ?_
  refine zk_lm (fun M1 => ?_)
  refine zk_aload_n (pc := 5) B dX12_sharedPart_5 0 rfl rfl ?_
  refine zk_bipush (v := 8) (pc := 6) B dX12_sharedPart_6 (by decide) ?_
  refine zk_cpi (pc := 8) (k' := 0) (n' := 0) B rfl rfl (Nat.le_of_ble_eq_true rfl) (Nat.le_of_ble_eq_true rfl) (fun b hb => zr_V B hR kV_yX12_sumOf km_12_367 kx_12 (gModel_s ha) [.int 8] rfl rfl (Nat.le_of_ble_eq_true rfl) dX12_sharedPart_8 (m_Model_sumOf hX ha 8 M1 b hb) ⟨Nat.le_of_ble_eq_true rfl, Nat.le_of_ble_eq_true rfl⟩ ⟨Nat.le_of_ble_eq_true rfl, Nat.le_of_ble_eq_true rfl⟩) (fun x2 _ => ?_)
  refine zk_if_ne (tgt := 18) (pc := 11) B dX12_sharedPart_11 (by decide) (fun _ => ?_) (fun _ => ?_)
  · refine zk_aload_n (pc := 18) B dX12_sharedPart_18 0 rfl rfl ?_
    refine zk_bipush (v := 9) (pc := 19) B dX12_sharedPart_19 (by decide) ?_
    refine zk_cpi (pc := 21) (k' := 0) (n' := 0) B rfl rfl (Nat.le_of_ble_eq_true rfl) (Nat.le_of_ble_eq_true rfl) (fun b hb => zr_V B hR kV_yX12_sumOf km_12_367 kx_12 (gModel_s ha) [.int 9] rfl rfl (Nat.le_of_ble_eq_true rfl) dX12_sharedPart_21 (m_Model_sumOf hX ha 9 M1 b hb) ⟨Nat.le_of_ble_eq_true rfl, Nat.le_of_ble_eq_true rfl⟩ ⟨Nat.le_of_ble_eq_true rfl, Nat.le_of_ble_eq_true rfl⟩) (fun x3 _ => ?_)
    refine zk_i2f (pc := 24) B dX12_sharedPart_24 ?_
    refine zk_aload_n (pc := 25) B dX12_sharedPart_25 0 rfl rfl ?_
    refine zk_bipush (v := 8) (pc := 26) B dX12_sharedPart_26 (by decide) ?_
    refine zk_cpi (pc := 28) (k' := 0) (n' := 0) B rfl rfl (Nat.le_of_ble_eq_true rfl) (Nat.le_of_ble_eq_true rfl) (fun b hb => zr_V B hR kV_yX12_sumOf km_12_367 kx_12 (gModel_s ha) [.int 8] rfl rfl (Nat.le_of_ble_eq_true rfl) dX12_sharedPart_28 (m_Model_sumOf hX ha 8 M1 b hb) ⟨Nat.le_of_ble_eq_true rfl, Nat.le_of_ble_eq_true rfl⟩ ⟨Nat.le_of_ble_eq_true rfl, Nat.le_of_ble_eq_true rfl⟩) (fun x4 _ => ?_)
    refine zk_i2f (pc := 31) B dX12_sharedPart_31 ?_
    refine zk_chk (fun h5 => zk_fdiv (pc := 32) B dX12_sharedPart_32 h5 ?_)
    exact zk_fret (pc := 33) B dX12_sharedPart_33 rfl (Nat.le_of_ble_eq_true rfl) (Nat.le_of_ble_eq_true rfl) rfl
  · refine zk_fconst (pc := 14) B dX12_sharedPart_14 ?_
    refine zk_goto (tgt := 33) (pc := 15) B dX12_sharedPart_15 (by decide) ?_
    exact zk_fret (pc := 33) B dX12_sharedPart_33 rfl (Nat.le_of_ble_eq_true rfl) (Nat.le_of_ble_eq_true rfl) rfl
