/-! ===== walks of the reference (by program) ===== -/
set_option maxHeartbeats 4000000 in
set_option maxRecDepth 100000 in
theorem m_Model_saveSnapshot {X : z_X} (hX : z_ok X) {G : z_Gr} {a : Nat} (ha : g_Model G a) (M : z_Mem) (b : z_Mem) (h : F_Model_saveSnapshot a M = some b) : z_Ct X yX12_saveSnapshot cX12_saveSnapshot 2 none ({ frames := 0, cells := 0, slots := 0, locals := 0 } : Room) [.ref a] G M (fun o9 G9 M9 => G9 = G ∧ (o9, M9) = z_cvm b) := by
  refine z_enter hX (by decide) (Nat.le_of_ble_eq_true rfl) h (fun F B hR => ?_)
  have L7 : ∀ (nf7 : Nat), ∀ (v1 : Int32) (M : z_Mem), z_K X F 2 0 0 G z_cvm b 0 0 7 [(0, .ref a), (1, .int v1)] [] M (F_Model_saveSnapshot_L7 a nf7 v1 M) := by
    intro nf7
    induction nf7 with
    | zero => intro v1 M; exact zk_none
    | succ nf7 ih7 =>
      intro v1 M
      show z_K X F 2 0 0 G z_cvm b 0 0 7 [(0, .ref a), (1, .int v1)] [] M (F_Model_saveSnapshot_B7 a (F_Model_saveSnapshot_L7 a nf7) v1 M)
      unfold F_Model_saveSnapshot_B7
      refine zk_iload_n (pc := 7) B dX12_saveSnapshot_7 1 rfl rfl ?_
      refine zk_sipush (v := 581) (pc := 8) B dX12_saveSnapshot_8 (by decide) ?_
      refine zk_icmp_ge (tgt := 32) (pc := 11) B dX12_saveSnapshot_11 (by decide) (fun _ => ?_) (fun _ => ?_)
      · refine zk_aload_n (pc := 32) B dX12_saveSnapshot_32 0 rfl rfl ?_
        refine zk_iconst (v := 1) (pc := 33) B dX12_saveSnapshot_33 (by decide) ?_
        refine zk_puti (pc := 34) B kx_12 (gModel_s ha) 5 (by decide) kf_12_126 rfl rfl rfl rfl dX12_saveSnapshot_34 ?_
        refine zk_lm (fun M2 => ?_)
        exact zk_vret (pc := 37) B dX12_saveSnapshot_37 rfl (Nat.le_of_ble_eq_true rfl) (Nat.le_of_ble_eq_true rfl) rfl
      · refine zk_aload_n (pc := 14) B dX12_saveSnapshot_14 0 rfl rfl ?_
        refine zk_getr (pc := 15) B kx_12 (gModel_s ha) 3 (by decide) kf_12_16 rfl (gModel_f3 ha) dX12_saveSnapshot_15 ?_
        refine zk_iload_n (pc := 18) B dX12_saveSnapshot_18 1 rfl rfl ?_
        refine zk_aload_n (pc := 19) B dX12_saveSnapshot_19 0 rfl rfl ?_
        refine zk_getr (pc := 20) B kx_12 (gModel_s ha) 1 (by decide) kf_12_7 rfl (gModel_f1 ha) dX12_saveSnapshot_20 ?_
        refine zk_iload_n (pc := 23) B dX12_saveSnapshot_23 1 rfl rfl ?_
        refine zk_iald (pc := 24) B (gModel_t1 ha) dX12_saveSnapshot_24 ?_
        refine zk_iast (pc := 25) B (gModel_t3 ha) dX12_saveSnapshot_25 ?_
        refine zk_lm (fun M3 => ?_)
        refine zk_iinc (y := 1) (lf := fun x4 => [(1, .int x4), (0, .ref a)]) (pc := 26) B dX12_saveSnapshot_26 1 rfl (by decide) (by decide) (fun _ => rfl) (fun x4 => ?_)
        refine zk_goto (tgt := 7) (pc := 29) B dX12_saveSnapshot_29 (by decide) ?_
        refine zk_sub [1, 0] rfl ?_
        exact ih7 x4 M3
  show z_K X F 2 0 0 G z_cvm b 0 0 0 [(0, .ref a)] [] M (F_Model_saveSnapshot a M)
  unfold F_Model_saveSnapshot
  refine zk_aload_n (pc := 0) B dX12_saveSnapshot_0 0 rfl rfl ?_
  refine zk_iconst (v := 0) (pc := 1) B dX12_saveSnapshot_1 (by decide) ?_
  refine zk_puti (pc := 2) B kx_12 (gModel_s ha) 0 (by decide) kf_12_93 rfl rfl rfl rfl dX12_saveSnapshot_2 ?_
  refine zk_lm (fun M1 => ?_)
  refine zk_iconst (v := 0) (pc := 5) B dX12_saveSnapshot_5 (by decide) ?_
  refine zk_istore_n (loc' := [(1, .int 0), (0, .ref a)]) (pc := 6) B dX12_saveSnapshot_6 rfl (by decide) rfl ?_
  refine zk_sub [1, 0] rfl ?_
  exact L7 10000 0 M1
set_option maxHeartbeats 4000000 in
set_option maxRecDepth 100000 in
theorem m_Model_restoreSnapshot {X : z_X} (hX : z_ok X) {G : z_Gr} {a : Nat} (ha : g_Model G a) (M : z_Mem) (b : Int32 × z_Mem) (h : F_Model_restoreSnapshot a M = some b) : z_Ct X yX12_restoreSnapshot cX12_restoreSnapshot 2 (some .boolean) ({ frames := 0, cells := 0, slots := 0, locals := 0 } : Room) [.ref a] G M (fun o9 G9 M9 => G9 = G ∧ (o9, M9) = z_cim b) := by
  refine z_enter hX (by decide) (Nat.le_of_ble_eq_true rfl) h (fun F B hR => ?_)
  have L16 : ∀ (nf16 : Nat), ∀ (v1 : Int32) (M : z_Mem), z_K X F 2 0 0 G z_cim b 0 0 16 [(0, .ref a), (1, .int v1)] [] M (F_Model_restoreSnapshot_L16 a nf16 v1 M) := by
    intro nf16
    induction nf16 with
    | zero => intro v1 M; exact zk_none
    | succ nf16 ih16 =>
      intro v1 M
      show z_K X F 2 0 0 G z_cim b 0 0 16 [(0, .ref a), (1, .int v1)] [] M (F_Model_restoreSnapshot_B16 a (F_Model_restoreSnapshot_L16 a nf16) v1 M)
      unfold F_Model_restoreSnapshot_B16
      refine zk_iload_n (pc := 16) B dX12_restoreSnapshot_16 1 rfl rfl ?_
      refine zk_sipush (v := 581) (pc := 17) B dX12_restoreSnapshot_17 (by decide) ?_
      refine zk_icmp_ge (tgt := 41) (pc := 20) B dX12_restoreSnapshot_20 (by decide) (fun _ => ?_) (fun _ => ?_)
      · refine zk_aload_n (pc := 41) B dX12_restoreSnapshot_41 0 rfl rfl ?_
        refine zk_iconst (v := 0) (pc := 42) B dX12_restoreSnapshot_42 (by decide) ?_
        refine zk_puti (pc := 43) B kx_12 (gModel_s ha) 6 (by decide) kf_12_123 rfl rfl rfl rfl dX12_restoreSnapshot_43 ?_
        refine zk_lm (fun M2 => ?_)
        refine zk_iconst (v := 1) (pc := 46) B dX12_restoreSnapshot_46 (by decide) ?_
        exact zk_iret (pc := 47) B dX12_restoreSnapshot_47 rfl rfl (Nat.le_of_ble_eq_true rfl) (Nat.le_of_ble_eq_true rfl) rfl
      · refine zk_aload_n (pc := 23) B dX12_restoreSnapshot_23 0 rfl rfl ?_
        refine zk_getr (pc := 24) B kx_12 (gModel_s ha) 1 (by decide) kf_12_7 rfl (gModel_f1 ha) dX12_restoreSnapshot_24 ?_
        refine zk_iload_n (pc := 27) B dX12_restoreSnapshot_27 1 rfl rfl ?_
        refine zk_aload_n (pc := 28) B dX12_restoreSnapshot_28 0 rfl rfl ?_
        refine zk_getr (pc := 29) B kx_12 (gModel_s ha) 3 (by decide) kf_12_16 rfl (gModel_f3 ha) dX12_restoreSnapshot_29 ?_
        refine zk_iload_n (pc := 32) B dX12_restoreSnapshot_32 1 rfl rfl ?_
        refine zk_iald (pc := 33) B (gModel_t3 ha) dX12_restoreSnapshot_33 ?_
        refine zk_iast (pc := 34) B (gModel_t1 ha) dX12_restoreSnapshot_34 ?_
        refine zk_lm (fun M3 => ?_)
        refine zk_iinc (y := 1) (lf := fun x4 => [(1, .int x4), (0, .ref a)]) (pc := 35) B dX12_restoreSnapshot_35 1 rfl (by decide) (by decide) (fun _ => rfl) (fun x4 => ?_)
        refine zk_goto (tgt := 16) (pc := 38) B dX12_restoreSnapshot_38 (by decide) ?_
        refine zk_sub [1, 0] rfl ?_
        exact ih16 x4 M3
  show z_K X F 2 0 0 G z_cim b 0 0 0 [(0, .ref a)] [] M (F_Model_restoreSnapshot a M)
  unfold F_Model_restoreSnapshot
  refine zk_aload_n (pc := 0) B dX12_restoreSnapshot_0 0 rfl rfl ?_
  refine zk_iconst (v := 0) (pc := 1) B dX12_restoreSnapshot_1 (by decide) ?_
  refine zk_puti (pc := 2) B kx_12 (gModel_s ha) 0 (by decide) kf_12_93 rfl rfl rfl rfl dX12_restoreSnapshot_2 ?_
  refine zk_lm (fun M1 => ?_)
  refine zk_aload_n (pc := 5) B dX12_restoreSnapshot_5 0 rfl rfl ?_
  refine zk_geti (pc := 6) B kx_12 (gModel_s ha) 5 (by decide) kf_12_126 rfl dX12_restoreSnapshot_6 ?_
  refine zk_if_ne (tgt := 14) (pc := 9) B dX12_restoreSnapshot_9 (by decide) (fun _ => ?_) (fun _ => ?_)
  · refine zk_iconst (v := 0) (pc := 14) B dX12_restoreSnapshot_14 (by decide) ?_
    refine zk_istore_n (loc' := [(1, .int 0), (0, .ref a)]) (pc := 15) B dX12_restoreSnapshot_15 rfl (by decide) rfl ?_
    refine zk_sub [1, 0] rfl ?_
    exact L16 10000 0 M1
  · refine zk_iconst (v := 0) (pc := 12) B dX12_restoreSnapshot_12 (by decide) ?_
    exact zk_iret (pc := 13) B dX12_restoreSnapshot_13 rfl rfl (Nat.le_of_ble_eq_true rfl) (Nat.le_of_ble_eq_true rfl) rfl
set_option maxHeartbeats 4000000 in
set_option maxRecDepth 100000 in
theorem m_Model_says {X : z_X} (hX : z_ok X) {G : z_Gr} {a : Nat} (ha : g_Model G a) (p0 : Int32) (M : z_Mem) (b : z_Mem) (h : F_Model_says a p0 M = some b) : z_Ct X yX12_says cX12_says 2 none ({ frames := 0, cells := 0, slots := 0, locals := 0 } : Room) [.ref a, .int p0] G M (fun o9 G9 M9 => G9 = G ∧ (o9, M9) = z_cvm b) := by
  refine z_enter hX (by decide) (Nat.le_of_ble_eq_true rfl) h (fun F B hR => ?_)
  show z_K X F 2 0 0 G z_cvm b 0 0 0 [(0, .ref a), (1, .int p0)] [] M (F_Model_says a p0 M)
  unfold F_Model_says
  refine zk_aload_n (pc := 0) B dX12_says_0 0 rfl rfl ?_
  refine zk_getr (pc := 1) B kx_12 (gModel_s ha) 46 (by decide) kf_12_74 rfl (gModel_f46 ha) dX12_says_1 ?_
  refine zk_aload_n (pc := 4) B dX12_says_4 0 rfl rfl ?_
  refine zk_geti (pc := 5) B kx_12 (gModel_s ha) 47 (by decide) kf_12_423 rfl dX12_says_5 ?_
  refine zk_iload_n (pc := 8) B dX12_says_8 1 rfl rfl ?_
  refine zk_i2b (pc := 9) B dX12_says_9 ?_
  refine zk_bast (pc := 10) B (gModel_t46 ha) dX12_says_10 ?_
  refine zk_lm (fun M1 => ?_)
  refine zk_aload_n (pc := 11) B dX12_says_11 0 rfl rfl ?_
  refine zk_dup (pc := 12) B dX12_says_12 rfl ?_
  refine zk_geti (pc := 13) B kx_12 (gModel_s ha) 47 (by decide) kf_12_423 rfl dX12_says_13 ?_
  refine zk_iconst (v := 1) (pc := 16) B dX12_says_16 (by decide) ?_
  refine zk_iadd (pc := 17) B dX12_says_17 ?_
  refine zk_puti (pc := 18) B kx_12 (gModel_s ha) 47 (by decide) kf_12_423 rfl rfl rfl rfl dX12_says_18 ?_
  refine zk_lm (fun M2 => ?_)
  exact zk_vret (pc := 21) B dX12_says_21 rfl (Nat.le_of_ble_eq_true rfl) (Nat.le_of_ble_eq_true rfl) rfl
set_option maxHeartbeats 4000000 in
set_option maxRecDepth 100000 in
theorem m_Model_saysNumber {X : z_X} (hX : z_ok X) {G : z_Gr} {a : Nat} (ha : g_Model G a) (p0 : Int32) (M : z_Mem) (b : z_Mem) (h : F_Model_saysNumber a p0 M = some b) : z_Ct X yX12_saysNumber cX12_saysNumber 3 none ({ frames := 1, cells := 0, slots := 0, locals := 21 } : Room) [.ref a, .int p0] G M (fun o9 G9 M9 => G9 = G ∧ (o9, M9) = z_cvm b) := by
  refine z_enter hX (by decide) (Nat.le_of_ble_eq_true rfl) h (fun F B hR => ?_)
  have L18 : ∀ (nf18 : Nat), ∀ (v1 : Int32) (v2 : Int32) (M : z_Mem), z_K X F 3 0 0 G z_cvm b 0 0 18 [(0, .ref a), (1, .int v1), (2, .int v2)] [] M (F_Model_saysNumber_L18 a nf18 v1 v2 M) := by
    intro nf18
    induction nf18 with
    | zero => intro v1 v2 M; exact zk_none
    | succ nf18 ih18 =>
      intro v1 v2 M
      show z_K X F 3 0 0 G z_cvm b 0 0 18 [(0, .ref a), (1, .int v1), (2, .int v2)] [] M (F_Model_saysNumber_B18 a (F_Model_saysNumber_L18 a nf18) v1 v2 M)
      unfold F_Model_saysNumber_B18
      refine zk_iload_n (pc := 18) B dX12_saysNumber_18 2 rfl rfl ?_
      refine zk_if_le (tgt := 43) (pc := 19) B dX12_saysNumber_19 (by decide) (fun _ => ?_) (fun _ => ?_)
      · exact zk_vret (pc := 43) B dX12_saysNumber_43 rfl (Nat.le_of_ble_eq_true rfl) (Nat.le_of_ble_eq_true rfl) rfl
      · refine zk_aload_n (pc := 22) B dX12_saysNumber_22 0 rfl rfl ?_
        refine zk_bipush (v := 48) (pc := 23) B dX12_saysNumber_23 (by decide) ?_
        refine zk_iload_n (pc := 25) B dX12_saysNumber_25 1 rfl rfl ?_
        refine zk_iload_n (pc := 26) B dX12_saysNumber_26 2 rfl rfl ?_
        refine zk_chk (fun h5 => zk_idiv (pc := 27) B dX12_saysNumber_27 h5 ?_)
        refine zk_bipush (v := 10) (pc := 28) B dX12_saysNumber_28 (by decide) ?_
        refine zk_irem (pc := 30) B dX12_saysNumber_30 (by decide) ?_
        refine zk_iadd (pc := 31) B dX12_saysNumber_31 ?_
        refine zk_cvm (pc := 32) (k' := 0) (n' := 0) B rfl rfl (Nat.le_of_ble_eq_true rfl) (Nat.le_of_ble_eq_true rfl) (fun b hb => zr_V B hR kV_yX12_says km_12_426 kx_12 (gModel_s ha) [.int (48 + ((v1 / v2) - (v1 / v2) / 10 * 10))] rfl rfl (Nat.le_of_ble_eq_true rfl) dX12_saysNumber_32 (m_Model_says hX ha (48 + ((v1 / v2) - (v1 / v2) / 10 * 10)) M b hb) ⟨Nat.le_of_ble_eq_true rfl, Nat.le_of_ble_eq_true rfl⟩ ⟨Nat.le_of_ble_eq_true rfl, Nat.le_of_ble_eq_true rfl⟩) (fun M3 => ?_)
        refine zk_iload_n (pc := 35) B dX12_saysNumber_35 2 rfl rfl ?_
        refine zk_bipush (v := 10) (pc := 36) B dX12_saysNumber_36 (by decide) ?_
        refine zk_idiv (pc := 38) B dX12_saysNumber_38 (by decide) ?_
        refine zk_li (fun x4 => ?_)
        refine zk_istore_n (loc' := [(2, .int x4), (0, .ref a), (1, .int v1)]) (pc := 39) B dX12_saysNumber_39 rfl (by decide) rfl ?_
        refine zk_goto (tgt := 18) (pc := 40) B dX12_saysNumber_40 (by decide) ?_
        refine zk_sub [1, 2, 0] rfl ?_
        exact ih18 v1 x4 M3
  have L2 : ∀ (nf2 : Nat), ∀ (v1 : Int32) (v2 : Int32) (M : z_Mem), z_K X F 3 0 0 G z_cvm b 0 0 2 [(0, .ref a), (1, .int v1), (2, .int v2)] [] M (F_Model_saysNumber_L2 a nf2 v1 v2 M) := by
    intro nf2
    induction nf2 with
    | zero => intro v1 v2 M; exact zk_none
    | succ nf2 ih2 =>
      intro v1 v2 M
      show z_K X F 3 0 0 G z_cvm b 0 0 2 [(0, .ref a), (1, .int v1), (2, .int v2)] [] M (F_Model_saysNumber_B2 a (F_Model_saysNumber_L2 a nf2) v1 v2 M)
      unfold F_Model_saysNumber_B2
      refine zk_iload_n (pc := 2) B dX12_saysNumber_2 1 rfl rfl ?_
      refine zk_iload_n (pc := 3) B dX12_saysNumber_3 2 rfl rfl ?_
      refine zk_chk (fun h2 => zk_idiv (pc := 4) B dX12_saysNumber_4 h2 ?_)
      refine zk_bipush (v := 9) (pc := 5) B dX12_saysNumber_5 (by decide) ?_
      refine zk_icmp_le (tgt := 18) (pc := 7) B dX12_saysNumber_7 (by decide) (fun _ => ?_) (fun _ => ?_)
      · exact L18 10000 v1 v2 M
      · refine zk_iload_n (pc := 10) B dX12_saysNumber_10 2 rfl rfl ?_
        refine zk_bipush (v := 10) (pc := 11) B dX12_saysNumber_11 (by decide) ?_
        refine zk_imul (pc := 13) B dX12_saysNumber_13 ?_
        refine zk_li (fun x1 => ?_)
        refine zk_istore_n (loc' := [(2, .int x1), (0, .ref a), (1, .int v1)]) (pc := 14) B dX12_saysNumber_14 rfl (by decide) rfl ?_
        refine zk_goto (tgt := 2) (pc := 15) B dX12_saysNumber_15 (by decide) ?_
        refine zk_sub [1, 2, 0] rfl ?_
        exact ih2 v1 x1 M
  show z_K X F 3 0 0 G z_cvm b 0 0 0 [(0, .ref a), (1, .int p0)] [] M (F_Model_saysNumber a p0 M)
  unfold F_Model_saysNumber
  refine zk_iconst (v := 1) (pc := 0) B dX12_saysNumber_0 (by decide) ?_
  refine zk_istore_n (loc' := [(2, .int 1), (0, .ref a), (1, .int p0)]) (pc := 1) B dX12_saysNumber_1 rfl (by decide) rfl ?_
  refine zk_sub [1, 2, 0] rfl ?_
  exact L2 10000 p0 1 M
set_option maxHeartbeats 4000000 in
set_option maxRecDepth 100000 in
theorem m_Model_format {X : z_X} (hX : z_ok X) {G : z_Gr} {a : Nat} (ha : g_Model G a) (p0 : Int32) (M : z_Mem) (b : Int32 × z_Mem) (h : F_Model_format a p0 M = some b) : z_Ct X yX12_format cX12_format 3 (some .int) ({ frames := 2, cells := 0, slots := 0, locals := 46 } : Room) [.ref a, .int p0] G M (fun o9 G9 M9 => G9 = G ∧ (o9, M9) = z_cim b) := by
  refine z_enter hX (by decide) (Nat.le_of_ble_eq_true rfl) h (fun F B hR => ?_)
  have L40 : ∀ (nf40 : Nat), ∀ (v2 : Int32) (M : z_Mem), z_K X F 3 0 0 G z_cim b 0 0 40 [(0, .ref a), (2, .int v2)] [] M (F_Model_format_L40 a nf40 v2 M) := by
    intro nf40
    induction nf40 with
    | zero => intro v2 M; exact zk_none
    | succ nf40 ih40 =>
      have J78 : ∀ (v2 : Int32) (s0 : Int32) (M : z_Mem), z_K X F 3 0 0 G z_cim b 0 0 78 [(0, .ref a), (2, .int v2)] [.int s0, .ref a] M (F_Model_format_J78 a (F_Model_format_L40 a nf40) v2 s0 M) := by
        intro v2 s0 M
        unfold F_Model_format_J78
        refine zk_cvm (pc := 78) (k' := 0) (n' := 0) B rfl rfl (Nat.le_of_ble_eq_true rfl) (Nat.le_of_ble_eq_true rfl) (fun b hb => zr_V B hR kV_yX12_says km_12_426 kx_12 (gModel_s ha) [.int s0] rfl rfl (Nat.le_of_ble_eq_true rfl) dX12_format_78 (m_Model_says hX ha s0 M b hb) ⟨Nat.le_of_ble_eq_true rfl, Nat.le_of_ble_eq_true rfl⟩ ⟨Nat.le_of_ble_eq_true rfl, Nat.le_of_ble_eq_true rfl⟩) (fun M8 => ?_)
        refine zk_aload_n (pc := 81) B dX12_format_81 0 rfl rfl ?_
        refine zk_aload_n (pc := 82) B dX12_format_82 0 rfl rfl ?_
        refine zk_getr (pc := 83) B kx_12 (gModel_s ha) 32 (by decide) kf_12_50 rfl (gModel_f32 ha) dX12_format_83 ?_
        refine zk_iload_n (pc := 86) B dX12_format_86 1 rfl rfl ?_
        refine zk_iald (pc := 87) B (gModel_t32 ha) dX12_format_87 ?_
        refine zk_iconst (v := 2) (pc := 88) B dX12_format_88 (by decide) ?_
        refine zk_idiv (pc := 89) B dX12_format_89 (by decide) ?_
        refine zk_cvm (pc := 90) (k' := 0) (n' := 0) B rfl rfl (Nat.le_of_ble_eq_true rfl) (Nat.le_of_ble_eq_true rfl) (fun b hb => zr_V B hR kV_yX12_saysNumber km_12_429 kx_12 (gModel_s ha) [.int ((M8.1 (a + 13) v2.toNatClampNeg) / 2)] rfl rfl (Nat.le_of_ble_eq_true rfl) dX12_format_90 (m_Model_saysNumber hX ha ((M8.1 (a + 13) v2.toNatClampNeg) / 2) M8 b hb) ⟨Nat.le_of_ble_eq_true rfl, Nat.le_of_ble_eq_true rfl⟩ ⟨Nat.le_of_ble_eq_true rfl, Nat.le_of_ble_eq_true rfl⟩) (fun M9 => ?_)
        refine zk_aload_n (pc := 93) B dX12_format_93 0 rfl rfl ?_
        refine zk_bipush (v := 64) (pc := 94) B dX12_format_94 (by decide) ?_
        refine zk_cvm (pc := 96) (k' := 0) (n' := 0) B rfl rfl (Nat.le_of_ble_eq_true rfl) (Nat.le_of_ble_eq_true rfl) (fun b hb => zr_V B hR kV_yX12_says km_12_426 kx_12 (gModel_s ha) [.int 64] rfl rfl (Nat.le_of_ble_eq_true rfl) dX12_format_96 (m_Model_says hX ha 64 M9 b hb) ⟨Nat.le_of_ble_eq_true rfl, Nat.le_of_ble_eq_true rfl⟩ ⟨Nat.le_of_ble_eq_true rfl, Nat.le_of_ble_eq_true rfl⟩) (fun M10 => ?_)
        refine zk_aload_n (pc := 99) B dX12_format_99 0 rfl rfl ?_
        refine zk_aload_n (pc := 100) B dX12_format_100 0 rfl rfl ?_
        refine zk_aload_n (pc := 101) B dX12_format_101 0 rfl rfl ?_
        refine zk_getr (pc := 102) B kx_12 (gModel_s ha) 32 (by decide) kf_12_50 rfl (gModel_f32 ha) dX12_format_102 ?_
        refine zk_iload_n (pc := 105) B dX12_format_105 1 rfl rfl ?_
        refine zk_iald (pc := 106) B (gModel_t32 ha) dX12_format_106 ?_
        refine zk_cpi (pc := 107) (k' := 0) (n' := 0) B rfl rfl (Nat.le_of_ble_eq_true rfl) (Nat.le_of_ble_eq_true rfl) (fun b hb => zr_V B hR kV_yX12_zoneOf km_12_283 kx_12 (gModel_s ha) [.int (M10.1 (a + 13) v2.toNatClampNeg)] rfl rfl (Nat.le_of_ble_eq_true rfl) dX12_format_107 (m_Model_zoneOf hX ha (M10.1 (a + 13) v2.toNatClampNeg) M10 b hb) ⟨Nat.le_of_ble_eq_true rfl, Nat.le_of_ble_eq_true rfl⟩ ⟨Nat.le_of_ble_eq_true rfl, Nat.le_of_ble_eq_true rfl⟩) (fun x11 _ => ?_)
        refine zk_cvm (pc := 110) (k' := 0) (n' := 0) B rfl rfl (Nat.le_of_ble_eq_true rfl) (Nat.le_of_ble_eq_true rfl) (fun b hb => zr_V B hR kV_yX12_saysNumber km_12_429 kx_12 (gModel_s ha) [.int x11] rfl rfl (Nat.le_of_ble_eq_true rfl) dX12_format_110 (m_Model_saysNumber hX ha x11 M10 b hb) ⟨Nat.le_of_ble_eq_true rfl, Nat.le_of_ble_eq_true rfl⟩ ⟨Nat.le_of_ble_eq_true rfl, Nat.le_of_ble_eq_true rfl⟩) (fun M12 => ?_)
        refine zk_iinc (y := 1) (lf := fun x13 => [(2, .int x13), (0, .ref a)]) (pc := 113) B dX12_format_113 1 rfl (by decide) (by decide) (fun _ => rfl) (fun x13 => ?_)
        refine zk_goto (tgt := 40) (pc := 116) B dX12_format_116 (by decide) ?_
        refine zk_sub [1, 0] rfl ?_
        exact ih40 x13 M12
      have J58 : ∀ (v2 : Int32) (M : z_Mem), z_K X F 3 0 0 G z_cim b 0 0 58 [(0, .ref a), (2, .int v2)] [] M (F_Model_format_J58 a (F_Model_format_L40 a nf40) v2 M) := by
        intro v2 M
        unfold F_Model_format_J58
        refine zk_aload_n (pc := 58) B dX12_format_58 0 rfl rfl ?_
        refine zk_aload_n (pc := 59) B dX12_format_59 0 rfl rfl ?_
        refine zk_getr (pc := 60) B kx_12 (gModel_s ha) 32 (by decide) kf_12_50 rfl (gModel_f32 ha) dX12_format_60 ?_
        refine zk_iload_n (pc := 63) B dX12_format_63 1 rfl rfl ?_
        refine zk_iald (pc := 64) B (gModel_t32 ha) dX12_format_64 ?_
        refine zk_iconst (v := 1) (pc := 65) B dX12_format_65 (by decide) ?_
        refine zk_iand (pc := 66) B dX12_format_66 ?_
        refine zk_iconst (v := 1) (pc := 67) B dX12_format_67 (by decide) ?_
        refine zk_icmp_ne (tgt := 76) (pc := 68) B dX12_format_68 (by decide) (fun _ => ?_) (fun _ => ?_)
        · refine zk_bipush (v := 45) (pc := 76) B dX12_format_76 (by decide) ?_
          exact J78 v2 45 M
        · refine zk_bipush (v := 43) (pc := 71) B dX12_format_71 (by decide) ?_
          refine zk_goto (tgt := 78) (pc := 73) B dX12_format_73 (by decide) ?_
          exact J78 v2 43 M
      intro v2 M
      show z_K X F 3 0 0 G z_cim b 0 0 40 [(0, .ref a), (2, .int v2)] [] M (F_Model_format_B40 a (F_Model_format_L40 a nf40) v2 M)
      unfold F_Model_format_B40
      refine zk_iload_n (pc := 40) B dX12_format_40 1 rfl rfl ?_
      refine zk_aload_n (pc := 41) B dX12_format_41 0 rfl rfl ?_
      refine zk_geti (pc := 42) B kx_12 (gModel_s ha) 39 (by decide) kf_12_271 rfl dX12_format_42 ?_
      refine zk_icmp_ge (tgt := 119) (pc := 45) B dX12_format_45 (by decide) (fun _ => ?_) (fun _ => ?_)
      · refine zk_aload_n (pc := 119) B dX12_format_119 0 rfl rfl ?_
        refine zk_geti (pc := 120) B kx_12 (gModel_s ha) 47 (by decide) kf_12_423 rfl dX12_format_120 ?_
        exact zk_iret (pc := 123) B dX12_format_123 rfl rfl (Nat.le_of_ble_eq_true rfl) (Nat.le_of_ble_eq_true rfl) rfl
      · refine zk_iload_n (pc := 48) B dX12_format_48 1 rfl rfl ?_
        refine zk_if_le (tgt := 58) (pc := 49) B dX12_format_49 (by decide) (fun _ => ?_) (fun _ => ?_)
        · exact J58 v2 M
        · refine zk_aload_n (pc := 52) B dX12_format_52 0 rfl rfl ?_
          refine zk_bipush (v := 32) (pc := 53) B dX12_format_53 (by decide) ?_
          refine zk_cvm (pc := 55) (k' := 0) (n' := 0) B rfl rfl (Nat.le_of_ble_eq_true rfl) (Nat.le_of_ble_eq_true rfl) (fun b hb => zr_V B hR kV_yX12_says km_12_426 kx_12 (gModel_s ha) [.int 32] rfl rfl (Nat.le_of_ble_eq_true rfl) dX12_format_55 (m_Model_says hX ha 32 M b hb) ⟨Nat.le_of_ble_eq_true rfl, Nat.le_of_ble_eq_true rfl⟩ ⟨Nat.le_of_ble_eq_true rfl, Nat.le_of_ble_eq_true rfl⟩) (fun M7 => ?_)
          exact J58 v2 M7
  have J38 : ∀  (M : z_Mem), z_K X F 3 0 0 G z_cim b 0 0 38 [(0, .ref a)] [] M (F_Model_format_J38 a M) := by
    intro  M
    unfold F_Model_format_J38
    refine zk_iconst (v := 0) (pc := 38) B dX12_format_38 (by decide) ?_
    refine zk_istore_n (loc' := [(2, .int 0), (0, .ref a)]) (pc := 39) B dX12_format_39 rfl (by decide) rfl ?_
    refine zk_sub [1, 0] rfl ?_
    exact L40 10000 0 M
  show z_K X F 3 0 0 G z_cim b 0 0 0 [(0, .ref a), (1, .int p0)] [] M (F_Model_format a p0 M)
  unfold F_Model_format
  refine zk_aload_n (pc := 0) B dX12_format_0 0 rfl rfl ?_
  refine zk_iconst (v := 0) (pc := 1) B dX12_format_1 (by decide) ?_
  refine zk_puti (pc := 2) B kx_12 (gModel_s ha) 0 (by decide) kf_12_93 rfl rfl rfl rfl dX12_format_2 ?_
  refine zk_lm (fun M1 => ?_)
  refine zk_aload_n (pc := 5) B dX12_format_5 0 rfl rfl ?_
  refine zk_iload_n (pc := 6) B dX12_format_6 1 rfl rfl ?_
  refine zk_cim (pc := 7) (k' := 0) (n' := 0) B rfl rfl (Nat.le_of_ble_eq_true rfl) (Nat.le_of_ble_eq_true rfl) (fun b hb => zr_V B hR kV_yX12_noTaxi km_12_375 kx_12 (gModel_s ha) [.int p0] rfl rfl (Nat.le_of_ble_eq_true rfl) dX12_format_7 (m_Model_noTaxi hX ha p0 M1 b hb) ⟨Nat.le_of_ble_eq_true rfl, Nat.le_of_ble_eq_true rfl⟩ ⟨Nat.le_of_ble_eq_true rfl, Nat.le_of_ble_eq_true rfl⟩) (fun x3 M2 => ?_)
  refine zk_if_eq (tgt := 15) (pc := 10) B dX12_format_10 (by decide) (fun _ => ?_) (fun _ => ?_)
  · refine zk_aload_n (pc := 15) B dX12_format_15 0 rfl rfl ?_
    refine zk_iconst (v := 0) (pc := 16) B dX12_format_16 (by decide) ?_
    refine zk_puti (pc := 17) B kx_12 (gModel_s ha) 47 (by decide) kf_12_423 rfl rfl rfl rfl dX12_format_17 ?_
    refine zk_lm (fun M4 => ?_)
    refine zk_aload_n (pc := 20) B dX12_format_20 0 rfl rfl ?_
    refine zk_iload_n (pc := 21) B dX12_format_21 1 rfl rfl ?_
    refine zk_cvm (pc := 22) (k' := 0) (n' := 0) B rfl rfl (Nat.le_of_ble_eq_true rfl) (Nat.le_of_ble_eq_true rfl) (fun b hb => zr_V B hR kV_yX12_lists km_12_301 kx_12 (gModel_s ha) [.int p0] rfl rfl (Nat.le_of_ble_eq_true rfl) dX12_format_22 (m_Model_lists hX ha p0 M4 b hb) ⟨Nat.le_of_ble_eq_true rfl, Nat.le_of_ble_eq_true rfl⟩ ⟨Nat.le_of_ble_eq_true rfl, Nat.le_of_ble_eq_true rfl⟩) (fun M5 => ?_)
    refine zk_aload_n (pc := 25) B dX12_format_25 0 rfl rfl ?_
    refine zk_geti (pc := 26) B kx_12 (gModel_s ha) 39 (by decide) kf_12_271 rfl dX12_format_26 ?_
    refine zk_if_ne (tgt := 38) (pc := 29) B dX12_format_29 (by decide) (fun _ => ?_) (fun _ => ?_)
    · refine zk_sub [0] rfl ?_
      exact J38 M5
    · refine zk_aload_n (pc := 32) B dX12_format_32 0 rfl rfl ?_
      refine zk_bipush (v := 46) (pc := 33) B dX12_format_33 (by decide) ?_
      refine zk_cvm (pc := 35) (k' := 0) (n' := 0) B rfl rfl (Nat.le_of_ble_eq_true rfl) (Nat.le_of_ble_eq_true rfl) (fun b hb => zr_V B hR kV_yX12_says km_12_426 kx_12 (gModel_s ha) [.int 46] rfl rfl (Nat.le_of_ble_eq_true rfl) dX12_format_35 (m_Model_says hX ha 46 M5 b hb) ⟨Nat.le_of_ble_eq_true rfl, Nat.le_of_ble_eq_true rfl⟩ ⟨Nat.le_of_ble_eq_true rfl, Nat.le_of_ble_eq_true rfl⟩) (fun M6 => ?_)
      refine zk_sub [0] rfl ?_
      exact J38 M6
  · refine zk_iconst (v := 0) (pc := 13) B dX12_format_13 (by decide) ?_
    exact zk_iret (pc := 14) B dX12_format_14 rfl rfl (Nat.le_of_ble_eq_true rfl) (Nat.le_of_ble_eq_true rfl) rfl
set_option maxHeartbeats 4000000 in
set_option maxRecDepth 100000 in
theorem m_Model_formattedByte {X : z_X} (hX : z_ok X) {G : z_Gr} {a : Nat} (ha : g_Model G a) (p0 : Int32) (M : z_Mem) (b : Int32 × z_Mem) (h : F_Model_formattedByte a p0 M = some b) : z_Ct X yX12_formattedByte cX12_formattedByte 2 (some .int) ({ frames := 1, cells := 0, slots := 0, locals := 25 } : Room) [.ref a, .int p0] G M (fun o9 G9 M9 => G9 = G ∧ (o9, M9) = z_cim b) := by
  refine z_enter hX (by decide) (Nat.le_of_ble_eq_true rfl) h (fun F B hR => ?_)
  show z_K X F 2 0 0 G z_cim b 0 0 0 [(0, .ref a), (1, .int p0)] [] M (F_Model_formattedByte a p0 M)
  unfold F_Model_formattedByte
  refine zk_aload_n (pc := 0) B dX12_formattedByte_0 0 rfl rfl ?_
  refine zk_iconst (v := 0) (pc := 1) B dX12_formattedByte_1 (by decide) ?_
  refine zk_puti (pc := 2) B kx_12 (gModel_s ha) 0 (by decide) kf_12_93 rfl rfl rfl rfl dX12_formattedByte_2 ?_
  refine zk_lm (fun M1 => ?_)
  refine zk_iload_n (pc := 5) B dX12_formattedByte_5 1 rfl rfl ?_
  refine zk_i2l (pc := 6) B dX12_formattedByte_6 ?_
  refine zk_lconst (v := 0) (pc := 7) B dX12_formattedByte_7 (by decide) ?_
  refine zk_aload_n (pc := 8) B dX12_formattedByte_8 0 rfl rfl ?_
  refine zk_geti (pc := 9) B kx_12 (gModel_s ha) 47 (by decide) kf_12_423 rfl dX12_formattedByte_9 ?_
  refine zk_iconst (v := 1) (pc := 12) B dX12_formattedByte_12 (by decide) ?_
  refine zk_isub (pc := 13) B dX12_formattedByte_13 ?_
  refine zk_i2l (pc := 14) B dX12_formattedByte_14 ?_
  refine zk_cpi (pc := 15) (k' := 0) (n' := 0) B rfl rfl (Nat.le_of_ble_eq_true rfl) (Nat.le_of_ble_eq_true rfl) (fun b hb => zr_S B hR kS_yX12_in km_12_197 [.long p0.toInt64, .long 0, .long (((M1.1 a 47) - 1).toInt64)] rfl rfl (Nat.le_of_ble_eq_true rfl) dX12_formattedByte_15 (m_Model_in hX p0.toInt64 0 (((M1.1 a 47) - 1).toInt64) M1 b hb) ⟨Nat.le_of_ble_eq_true rfl, Nat.le_of_ble_eq_true rfl⟩ ⟨Nat.le_of_ble_eq_true rfl, Nat.le_of_ble_eq_true rfl⟩) (fun x2 _ => ?_)
  refine zk_if_eq (tgt := 30) (pc := 18) B dX12_formattedByte_18 (by decide) (fun _ => ?_) (fun _ => ?_)
  · refine zk_iconst (v := (-1)) (pc := 30) B dX12_formattedByte_30 (by decide) ?_
    exact zk_iret (pc := 31) B dX12_formattedByte_31 rfl rfl (Nat.le_of_ble_eq_true rfl) (Nat.le_of_ble_eq_true rfl) rfl
  · refine zk_aload_n (pc := 21) B dX12_formattedByte_21 0 rfl rfl ?_
    refine zk_getr (pc := 22) B kx_12 (gModel_s ha) 46 (by decide) kf_12_74 rfl (gModel_f46 ha) dX12_formattedByte_22 ?_
    refine zk_iload_n (pc := 25) B dX12_formattedByte_25 1 rfl rfl ?_
    refine zk_bald (pc := 26) B (gModel_t46 ha) dX12_formattedByte_26 ?_
    refine zk_goto (tgt := 31) (pc := 27) B dX12_formattedByte_27 (by decide) ?_
    exact zk_iret (pc := 31) B dX12_formattedByte_31 rfl rfl (Nat.le_of_ble_eq_true rfl) (Nat.le_of_ble_eq_true rfl) rfl
set_option maxHeartbeats 4000000 in
set_option maxRecDepth 100000 in
theorem m_Model_adds {X : z_X} (hX : z_ok X) {G : z_Gr} {a : Nat} (ha : g_Model G a) (p0 : Int32) (M : z_Mem) (b : z_Mem) (h : F_Model_adds a p0 M = some b) : z_Ct X yX12_adds cX12_adds 2 none ({ frames := 0, cells := 0, slots := 0, locals := 0 } : Room) [.ref a, .int p0] G M (fun o9 G9 M9 => G9 = G ∧ (o9, M9) = z_cvm b) := by
  refine z_enter hX (by decide) (Nat.le_of_ble_eq_true rfl) h (fun F B hR => ?_)
  show z_K X F 2 0 0 G z_cvm b 0 0 0 [(0, .ref a), (1, .int p0)] [] M (F_Model_adds a p0 M)
  unfold F_Model_adds
  refine zk_aload_n (pc := 0) B dX12_adds_0 0 rfl rfl ?_
  refine zk_getr (pc := 1) B kx_12 (gModel_s ha) 48 (by decide) kf_12_78 rfl (gModel_f48 ha) dX12_adds_1 ?_
  refine zk_aload_n (pc := 4) B dX12_adds_4 0 rfl rfl ?_
  refine zk_geti (pc := 5) B kx_12 (gModel_s ha) 51 (by decide) kf_12_432 rfl dX12_adds_5 ?_
  refine zk_iload_n (pc := 8) B dX12_adds_8 1 rfl rfl ?_
  refine zk_iast (pc := 9) B (gModel_t48 ha) dX12_adds_9 ?_
  refine zk_lm (fun M1 => ?_)
  refine zk_aload_n (pc := 10) B dX12_adds_10 0 rfl rfl ?_
  refine zk_dup (pc := 11) B dX12_adds_11 rfl ?_
  refine zk_geti (pc := 12) B kx_12 (gModel_s ha) 51 (by decide) kf_12_432 rfl dX12_adds_12 ?_
  refine zk_iconst (v := 1) (pc := 15) B dX12_adds_15 (by decide) ?_
  refine zk_iadd (pc := 16) B dX12_adds_16 ?_
  refine zk_puti (pc := 17) B kx_12 (gModel_s ha) 51 (by decide) kf_12_432 rfl rfl rfl rfl dX12_adds_17 ?_
  refine zk_lm (fun M2 => ?_)
  exact zk_vret (pc := 20) B dX12_adds_20 rfl (Nat.le_of_ble_eq_true rfl) (Nat.le_of_ble_eq_true rfl) rfl
set_option maxHeartbeats 4000000 in
set_option maxRecDepth 100000 in
theorem m_Model_propertyHere {X : z_X} (hX : z_ok X) {G : z_Gr} {a : Nat} (ha : g_Model G a) (M : z_Mem) (b : Int32) (h : F_Model_propertyHere a M = some b) : z_Ct X yX12_propertyHere cX12_propertyHere 1 (some .int) ({ frames := 2, cells := 0, slots := 0, locals := 42 } : Room) [.ref a] G M (fun o9 G9 M9 => G9 = G ∧ (o9, M9) = (z_ci M) b) := by
  refine z_enter hX (by decide) (Nat.le_of_ble_eq_true rfl) h (fun F B hR => ?_)
  show z_K X F 1 0 0 G (z_ci M) b 0 0 0 [(0, .ref a)] [] M (F_Model_propertyHere a M)
  unfold F_Model_propertyHere
  refine zk_aload_n (pc := 0) B dX12_propertyHere_0 0 rfl rfl ?_
  refine zk_ldc2 (pc := 1) B kl_12_435 dX12_propertyHere_1 ?_
  refine zk_cpi (pc := 4) (k' := 0) (n' := 0) B rfl rfl (Nat.le_of_ble_eq_true rfl) (Nat.le_of_ble_eq_true rfl) (fun b hb => zr_V B hR kV_yX12_isWord km_12_187 kx_12 (gModel_s ha) [.long 360968] rfl rfl (Nat.le_of_ble_eq_true rfl) dX12_propertyHere_4 (m_Model_isWord hX ha 360968 M b hb) ⟨Nat.le_of_ble_eq_true rfl, Nat.le_of_ble_eq_true rfl⟩ ⟨Nat.le_of_ble_eq_true rfl, Nat.le_of_ble_eq_true rfl⟩) (fun x1 _ => ?_)
  refine zk_if_eq (tgt := 12) (pc := 7) B dX12_propertyHere_7 (by decide) (fun _ => ?_) (fun _ => ?_)
  · refine zk_aload_n (pc := 12) B dX12_propertyHere_12 0 rfl rfl ?_
    refine zk_ldc2 (pc := 13) B kl_12_437 dX12_propertyHere_13 ?_
    refine zk_cpi (pc := 16) (k' := 0) (n' := 0) B rfl rfl (Nat.le_of_ble_eq_true rfl) (Nat.le_of_ble_eq_true rfl) (fun b hb => zr_V B hR kV_yX12_isWord km_12_187 kx_12 (gModel_s ha) [.long 10492313] rfl rfl (Nat.le_of_ble_eq_true rfl) dX12_propertyHere_16 (m_Model_isWord hX ha 10492313 M b hb) ⟨Nat.le_of_ble_eq_true rfl, Nat.le_of_ble_eq_true rfl⟩ ⟨Nat.le_of_ble_eq_true rfl, Nat.le_of_ble_eq_true rfl⟩) (fun x2 _ => ?_)
    refine zk_if_eq (tgt := 24) (pc := 19) B dX12_propertyHere_19 (by decide) (fun _ => ?_) (fun _ => ?_)
    · refine zk_aload_n (pc := 24) B dX12_propertyHere_24 0 rfl rfl ?_
      refine zk_ldc2 (pc := 25) B kl_12_439 dX12_propertyHere_25 ?_
      refine zk_cpi (pc := 28) (k' := 0) (n' := 0) B rfl rfl (Nat.le_of_ble_eq_true rfl) (Nat.le_of_ble_eq_true rfl) (fun b hb => zr_V B hR kV_yX12_isWord km_12_187 kx_12 (gModel_s ha) [.long 131638] rfl rfl (Nat.le_of_ble_eq_true rfl) dX12_propertyHere_28 (m_Model_isWord hX ha 131638 M b hb) ⟨Nat.le_of_ble_eq_true rfl, Nat.le_of_ble_eq_true rfl⟩ ⟨Nat.le_of_ble_eq_true rfl, Nat.le_of_ble_eq_true rfl⟩) (fun x3 _ => ?_)
      refine zk_if_eq (tgt := 36) (pc := 31) B dX12_propertyHere_31 (by decide) (fun _ => ?_) (fun _ => ?_)
      · refine zk_aload_n (pc := 36) B dX12_propertyHere_36 0 rfl rfl ?_
        refine zk_ldc2 (pc := 37) B kl_12_441 dX12_propertyHere_37 ?_
        refine zk_cpi (pc := 40) (k' := 0) (n' := 0) B rfl rfl (Nat.le_of_ble_eq_true rfl) (Nat.le_of_ble_eq_true rfl) (fun b hb => zr_V B hR kV_yX12_isWord km_12_187 kx_12 (gModel_s ha) [.long 555] rfl rfl (Nat.le_of_ble_eq_true rfl) dX12_propertyHere_40 (m_Model_isWord hX ha 555 M b hb) ⟨Nat.le_of_ble_eq_true rfl, Nat.le_of_ble_eq_true rfl⟩ ⟨Nat.le_of_ble_eq_true rfl, Nat.le_of_ble_eq_true rfl⟩) (fun x4 _ => ?_)
        refine zk_if_eq (tgt := 48) (pc := 43) B dX12_propertyHere_43 (by decide) (fun _ => ?_) (fun _ => ?_)
        · refine zk_aload_n (pc := 48) B dX12_propertyHere_48 0 rfl rfl ?_
          refine zk_ldc2 (pc := 49) B kl_12_443 dX12_propertyHere_49 ?_
          refine zk_cpi (pc := 52) (k' := 0) (n' := 0) B rfl rfl (Nat.le_of_ble_eq_true rfl) (Nat.le_of_ble_eq_true rfl) (fun b hb => zr_V B hR kV_yX12_isWord km_12_187 kx_12 (gModel_s ha) [.long 6280423606] rfl rfl (Nat.le_of_ble_eq_true rfl) dX12_propertyHere_52 (m_Model_isWord hX ha 6280423606 M b hb) ⟨Nat.le_of_ble_eq_true rfl, Nat.le_of_ble_eq_true rfl⟩ ⟨Nat.le_of_ble_eq_true rfl, Nat.le_of_ble_eq_true rfl⟩) (fun x5 _ => ?_)
          refine zk_if_eq (tgt := 60) (pc := 55) B dX12_propertyHere_55 (by decide) (fun _ => ?_) (fun _ => ?_)
          · refine zk_aload_n (pc := 60) B dX12_propertyHere_60 0 rfl rfl ?_
            refine zk_ldc2 (pc := 61) B kl_12_445 dX12_propertyHere_61 ?_
            refine zk_cpi (pc := 64) (k' := 0) (n' := 0) B rfl rfl (Nat.le_of_ble_eq_true rfl) (Nat.le_of_ble_eq_true rfl) (fun b hb => zr_V B hR kV_yX12_isWord km_12_187 kx_12 (gModel_s ha) [.long 9665215] rfl rfl (Nat.le_of_ble_eq_true rfl) dX12_propertyHere_64 (m_Model_isWord hX ha 9665215 M b hb) ⟨Nat.le_of_ble_eq_true rfl, Nat.le_of_ble_eq_true rfl⟩ ⟨Nat.le_of_ble_eq_true rfl, Nat.le_of_ble_eq_true rfl⟩) (fun x6 _ => ?_)
            refine zk_if_eq (tgt := 72) (pc := 67) B dX12_propertyHere_67 (by decide) (fun _ => ?_) (fun _ => ?_)
            · refine zk_aload_n (pc := 72) B dX12_propertyHere_72 0 rfl rfl ?_
              refine zk_ldc2 (pc := 73) B kl_12_447 dX12_propertyHere_73 ?_
              refine zk_cpi (pc := 76) (k' := 0) (n' := 0) B rfl rfl (Nat.le_of_ble_eq_true rfl) (Nat.le_of_ble_eq_true rfl) (fun b hb => zr_V B hR kV_yX12_isWord km_12_187 kx_12 (gModel_s ha) [.long 60458013] rfl rfl (Nat.le_of_ble_eq_true rfl) dX12_propertyHere_76 (m_Model_isWord hX ha 60458013 M b hb) ⟨Nat.le_of_ble_eq_true rfl, Nat.le_of_ble_eq_true rfl⟩ ⟨Nat.le_of_ble_eq_true rfl, Nat.le_of_ble_eq_true rfl⟩) (fun x7 _ => ?_)
              refine zk_if_eq (tgt := 85) (pc := 79) B dX12_propertyHere_79 (by decide) (fun _ => ?_) (fun _ => ?_)
              · refine zk_aload_n (pc := 85) B dX12_propertyHere_85 0 rfl rfl ?_
                refine zk_ldc2 (pc := 86) B kl_12_449 dX12_propertyHere_86 ?_
                refine zk_cpi (pc := 89) (k' := 0) (n' := 0) B rfl rfl (Nat.le_of_ble_eq_true rfl) (Nat.le_of_ble_eq_true rfl) (fun b hb => zr_V B hR kV_yX12_isWord km_12_187 kx_12 (gModel_s ha) [.long 119318] rfl rfl (Nat.le_of_ble_eq_true rfl) dX12_propertyHere_89 (m_Model_isWord hX ha 119318 M b hb) ⟨Nat.le_of_ble_eq_true rfl, Nat.le_of_ble_eq_true rfl⟩ ⟨Nat.le_of_ble_eq_true rfl, Nat.le_of_ble_eq_true rfl⟩) (fun x8 _ => ?_)
                refine zk_if_eq (tgt := 98) (pc := 92) B dX12_propertyHere_92 (by decide) (fun _ => ?_) (fun _ => ?_)
                · refine zk_aload_n (pc := 98) B dX12_propertyHere_98 0 rfl rfl ?_
                  refine zk_ldc2 (pc := 99) B kl_12_239 dX12_propertyHere_99 ?_
                  refine zk_cpi (pc := 102) (k' := 0) (n' := 0) B rfl rfl (Nat.le_of_ble_eq_true rfl) (Nat.le_of_ble_eq_true rfl) (fun b hb => zr_V B hR kV_yX12_isWord km_12_187 kx_12 (gModel_s ha) [.long 395046] rfl rfl (Nat.le_of_ble_eq_true rfl) dX12_propertyHere_102 (m_Model_isWord hX ha 395046 M b hb) ⟨Nat.le_of_ble_eq_true rfl, Nat.le_of_ble_eq_true rfl⟩ ⟨Nat.le_of_ble_eq_true rfl, Nat.le_of_ble_eq_true rfl⟩) (fun x9 _ => ?_)
                  refine zk_if_eq (tgt := 113) (pc := 105) B dX12_propertyHere_105 (by decide) (fun _ => ?_) (fun _ => ?_)
                  · refine zk_iconst (v := (-1)) (pc := 113) B dX12_propertyHere_113 (by decide) ?_
                    exact zk_iret (pc := 114) B dX12_propertyHere_114 rfl rfl (Nat.le_of_ble_eq_true rfl) (Nat.le_of_ble_eq_true rfl) rfl
                  · refine zk_bipush (v := 8) (pc := 108) B dX12_propertyHere_108 (by decide) ?_
                    refine zk_goto (tgt := 114) (pc := 110) B dX12_propertyHere_110 (by decide) ?_
                    exact zk_iret (pc := 114) B dX12_propertyHere_114 rfl rfl (Nat.le_of_ble_eq_true rfl) (Nat.le_of_ble_eq_true rfl) rfl
                · refine zk_bipush (v := 7) (pc := 95) B dX12_propertyHere_95 (by decide) ?_
                  exact zk_iret (pc := 97) B dX12_propertyHere_97 rfl rfl (Nat.le_of_ble_eq_true rfl) (Nat.le_of_ble_eq_true rfl) rfl
              · refine zk_bipush (v := 6) (pc := 82) B dX12_propertyHere_82 (by decide) ?_
                exact zk_iret (pc := 84) B dX12_propertyHere_84 rfl rfl (Nat.le_of_ble_eq_true rfl) (Nat.le_of_ble_eq_true rfl) rfl
            · refine zk_iconst (v := 5) (pc := 70) B dX12_propertyHere_70 (by decide) ?_
              exact zk_iret (pc := 71) B dX12_propertyHere_71 rfl rfl (Nat.le_of_ble_eq_true rfl) (Nat.le_of_ble_eq_true rfl) rfl
          · refine zk_iconst (v := 4) (pc := 58) B dX12_propertyHere_58 (by decide) ?_
            exact zk_iret (pc := 59) B dX12_propertyHere_59 rfl rfl (Nat.le_of_ble_eq_true rfl) (Nat.le_of_ble_eq_true rfl) rfl
        · refine zk_iconst (v := 3) (pc := 46) B dX12_propertyHere_46 (by decide) ?_
          exact zk_iret (pc := 47) B dX12_propertyHere_47 rfl rfl (Nat.le_of_ble_eq_true rfl) (Nat.le_of_ble_eq_true rfl) rfl
      · refine zk_iconst (v := 2) (pc := 34) B dX12_propertyHere_34 (by decide) ?_
        exact zk_iret (pc := 35) B dX12_propertyHere_35 rfl rfl (Nat.le_of_ble_eq_true rfl) (Nat.le_of_ble_eq_true rfl) rfl
    · refine zk_iconst (v := 1) (pc := 22) B dX12_propertyHere_22 (by decide) ?_
      exact zk_iret (pc := 23) B dX12_propertyHere_23 rfl rfl (Nat.le_of_ble_eq_true rfl) (Nat.le_of_ble_eq_true rfl) rfl
  · refine zk_iconst (v := 0) (pc := 10) B dX12_propertyHere_10 (by decide) ?_
    exact zk_iret (pc := 11) B dX12_propertyHere_11 rfl rfl (Nat.le_of_ble_eq_true rfl) (Nat.le_of_ble_eq_true rfl) rfl
set_option maxHeartbeats 4000000 in
set_option maxRecDepth 100000 in
theorem m_Model_valueRead {X : z_X} (hX : z_ok X) {G : z_Gr} {a : Nat} (ha : g_Model G a) (M : z_Mem) (b : z_Mem) (h : F_Model_valueRead a M = some b) : z_Ct X yX12_valueRead cX12_valueRead 2 none ({ frames := 4, cells := 0, slots := 0, locals := 84 } : Room) [.ref a] G M (fun o9 G9 M9 => G9 = G ∧ (o9, M9) = z_cvm b) := by
  refine z_enter hX (by decide) (Nat.le_of_ble_eq_true rfl) h (fun F B hR => ?_)
  show z_K X F 2 0 0 G z_cvm b 0 0 0 [(0, .ref a)] [] M (F_Model_valueRead a M)
  unfold F_Model_valueRead
  refine zk_aload_n (pc := 0) B dX12_valueRead_0 0 rfl rfl ?_
  refine zk_cpi (pc := 1) (k' := 0) (n' := 0) B rfl rfl (Nat.le_of_ble_eq_true rfl) (Nat.le_of_ble_eq_true rfl) (fun b hb => zr_V B hR kV_yX12_isGood km_12_183 kx_12 (gModel_s ha) [] rfl rfl (Nat.le_of_ble_eq_true rfl) dX12_valueRead_1 (m_Model_isGood hX ha M b hb) ⟨Nat.le_of_ble_eq_true rfl, Nat.le_of_ble_eq_true rfl⟩ ⟨Nat.le_of_ble_eq_true rfl, Nat.le_of_ble_eq_true rfl⟩) (fun x1 _ => ?_)
  refine zk_if_ne (tgt := 8) (pc := 4) B dX12_valueRead_4 (by decide) (fun _ => ?_) (fun _ => ?_)
  · refine zk_aload_n (pc := 8) B dX12_valueRead_8 0 rfl rfl ?_
    refine zk_geti (pc := 9) B kx_12 (gModel_s ha) 27 (by decide) kf_12_161 rfl dX12_valueRead_9 ?_
    refine zk_iconst (v := 2) (pc := 12) B dX12_valueRead_12 (by decide) ?_
    refine zk_icmp_ne (tgt := 34) (pc := 13) B dX12_valueRead_13 (by decide) (fun _ => ?_) (fun _ => ?_)
    · refine zk_aload_n (pc := 34) B dX12_valueRead_34 0 rfl rfl ?_
      refine zk_cpi (pc := 35) (k' := 0) (n' := 0) B rfl rfl (Nat.le_of_ble_eq_true rfl) (Nat.le_of_ble_eq_true rfl) (fun b hb => zr_V B hR kV_yX12_propertyHere km_12_455 kx_12 (gModel_s ha) [] rfl rfl (Nat.le_of_ble_eq_true rfl) dX12_valueRead_35 (m_Model_propertyHere hX ha M b hb) ⟨Nat.le_of_ble_eq_true rfl, Nat.le_of_ble_eq_true rfl⟩ ⟨Nat.le_of_ble_eq_true rfl, Nat.le_of_ble_eq_true rfl⟩) (fun x2 _ => ?_)
      refine zk_istore_n (loc' := [(1, .int x2), (0, .ref a)]) (pc := 38) B dX12_valueRead_38 rfl (by decide) rfl ?_
      refine zk_iload_n (pc := 39) B dX12_valueRead_39 0 rfl rfl ?_
      refine zk_iconst (v := (-1)) (pc := 40) B dX12_valueRead_40 (by decide) ?_
      refine zk_icmp_ne (tgt := 51) (pc := 41) B dX12_valueRead_41 (by decide) (fun _ => ?_) (fun _ => ?_)
      · refine zk_aload_n (pc := 51) B dX12_valueRead_51 1 rfl rfl ?_
        refine zk_iload_n (pc := 52) B dX12_valueRead_52 0 rfl rfl ?_
        refine zk_cvm (pc := 53) (k' := 0) (n' := 0) B rfl rfl (Nat.le_of_ble_eq_true rfl) (Nat.le_of_ble_eq_true rfl) (fun b hb => zr_V B hR kV_yX12_adds km_12_452 kx_12 (gModel_s ha) [.int x2] rfl rfl (Nat.le_of_ble_eq_true rfl) dX12_valueRead_53 (m_Model_adds hX ha x2 M b hb) ⟨Nat.le_of_ble_eq_true rfl, Nat.le_of_ble_eq_true rfl⟩ ⟨Nat.le_of_ble_eq_true rfl, Nat.le_of_ble_eq_true rfl⟩) (fun M3 => ?_)
        refine zk_aload_n (pc := 56) B dX12_valueRead_56 1 rfl rfl ?_
        refine zk_cvm (pc := 57) (k' := 0) (n' := 0) B rfl rfl (Nat.le_of_ble_eq_true rfl) (Nat.le_of_ble_eq_true rfl) (fun b hb => zr_V B hR kV_yX12_next km_12_180 kx_12 (gModel_s ha) [] rfl rfl (Nat.le_of_ble_eq_true rfl) dX12_valueRead_57 (m_Model_next hX ha M3 b hb) ⟨Nat.le_of_ble_eq_true rfl, Nat.le_of_ble_eq_true rfl⟩ ⟨Nat.le_of_ble_eq_true rfl, Nat.le_of_ble_eq_true rfl⟩) (fun M4 => ?_)
        exact zk_vret (pc := 60) B dX12_valueRead_60 rfl (Nat.le_of_ble_eq_true rfl) (Nat.le_of_ble_eq_true rfl) rfl
      · refine zk_aload_n (pc := 44) B dX12_valueRead_44 1 rfl rfl ?_
        refine zk_iconst (v := 1) (pc := 45) B dX12_valueRead_45 (by decide) ?_
        refine zk_cim (pc := 46) (k' := 0) (n' := 0) B rfl rfl (Nat.le_of_ble_eq_true rfl) (Nat.le_of_ble_eq_true rfl) (fun b hb => zr_V B hR kV_yX12_wrongs km_12_194 kx_12 (gModel_s ha) [.int 1] rfl rfl (Nat.le_of_ble_eq_true rfl) dX12_valueRead_46 (m_Model_wrongs hX ha 1 M b hb) ⟨Nat.le_of_ble_eq_true rfl, Nat.le_of_ble_eq_true rfl⟩ ⟨Nat.le_of_ble_eq_true rfl, Nat.le_of_ble_eq_true rfl⟩) (fun x6 M5 => ?_)
        refine zk_pop (pc := 49) B dX12_valueRead_49 rfl ?_
        exact zk_vret (pc := 50) B dX12_valueRead_50 rfl (Nat.le_of_ble_eq_true rfl) (Nat.le_of_ble_eq_true rfl) rfl
    · refine zk_aload_n (pc := 16) B dX12_valueRead_16 0 rfl rfl ?_
      refine zk_iconst (v := 0) (pc := 17) B dX12_valueRead_17 (by decide) ?_
      refine zk_ldcw (pc := 18) B kc_12_451 dX12_valueRead_18 ?_
      refine zk_cim (pc := 21) (k' := 0) (n' := 0) B rfl rfl (Nat.le_of_ble_eq_true rfl) (Nat.le_of_ble_eq_true rfl) (fun b hb => zr_V B hR kV_yX12_number km_12_215 kx_12 (gModel_s ha) [.int 0, .int 99999] rfl rfl (Nat.le_of_ble_eq_true rfl) dX12_valueRead_21 (m_Model_number hX ha 0 99999 M b hb) ⟨Nat.le_of_ble_eq_true rfl, Nat.le_of_ble_eq_true rfl⟩ ⟨Nat.le_of_ble_eq_true rfl, Nat.le_of_ble_eq_true rfl⟩) (fun x8 M7 => ?_)
      refine zk_istore_n (loc' := [(1, .int x8), (0, .ref a)]) (pc := 24) B dX12_valueRead_24 rfl (by decide) rfl ?_
      refine zk_aload_n (pc := 25) B dX12_valueRead_25 1 rfl rfl ?_
      refine zk_bipush (v := 100) (pc := 26) B dX12_valueRead_26 (by decide) ?_
      refine zk_iload_n (pc := 28) B dX12_valueRead_28 0 rfl rfl ?_
      refine zk_iadd (pc := 29) B dX12_valueRead_29 ?_
      refine zk_cvm (pc := 30) (k' := 0) (n' := 0) B rfl rfl (Nat.le_of_ble_eq_true rfl) (Nat.le_of_ble_eq_true rfl) (fun b hb => zr_V B hR kV_yX12_adds km_12_452 kx_12 (gModel_s ha) [.int (100 + x8)] rfl rfl (Nat.le_of_ble_eq_true rfl) dX12_valueRead_30 (m_Model_adds hX ha (100 + x8) M7 b hb) ⟨Nat.le_of_ble_eq_true rfl, Nat.le_of_ble_eq_true rfl⟩ ⟨Nat.le_of_ble_eq_true rfl, Nat.le_of_ble_eq_true rfl⟩) (fun M9 => ?_)
      exact zk_vret (pc := 33) B dX12_valueRead_33 rfl (Nat.le_of_ble_eq_true rfl) (Nat.le_of_ble_eq_true rfl) rfl
  · exact zk_vret (pc := 7) B dX12_valueRead_7 rfl (Nat.le_of_ble_eq_true rfl) (Nat.le_of_ble_eq_true rfl) rfl
set_option maxHeartbeats 4000000 in
set_option maxRecDepth 100000 in
theorem m_Model_goesIn {X : z_X} (hX : z_ok X) {G : z_Gr} {a : Nat} (ha : g_Model G a) (p0 : Int32) (M : z_Mem) (b : Int32 × z_Mem) (h : F_Model_goesIn a p0 M = some b) : z_Ct X yX12_goesIn cX12_goesIn 2 (some .boolean) ({ frames := 3, cells := 0, slots := 0, locals := 61 } : Room) [.ref a, .int p0] G M (fun o9 G9 M9 => G9 = G ∧ (o9, M9) = z_cim b) := by
  refine z_enter hX (by decide) (Nat.le_of_ble_eq_true rfl) h (fun F B hR => ?_)
  show z_K X F 2 0 0 G z_cim b 0 0 0 [(0, .ref a), (1, .int p0)] [] M (F_Model_goesIn a p0 M)
  unfold F_Model_goesIn
  refine zk_aload_n (pc := 0) B dX12_goesIn_0 0 rfl rfl ?_
  refine zk_geti (pc := 1) B kx_12 (gModel_s ha) 53 (by decide) kf_12_458 rfl dX12_goesIn_1 ?_
  refine zk_bipush (v := 6) (pc := 4) B dX12_goesIn_4 (by decide) ?_
  refine zk_icmp_ne (tgt := 15) (pc := 6) B dX12_goesIn_6 (by decide) (fun _ => ?_) (fun _ => ?_)
  · refine zk_aload_n (pc := 15) B dX12_goesIn_15 0 rfl rfl ?_
    refine zk_dup (pc := 16) B dX12_goesIn_16 rfl ?_
    refine zk_geti (pc := 17) B kx_12 (gModel_s ha) 53 (by decide) kf_12_458 rfl dX12_goesIn_17 ?_
    refine zk_iconst (v := 1) (pc := 20) B dX12_goesIn_20 (by decide) ?_
    refine zk_iadd (pc := 21) B dX12_goesIn_21 ?_
    refine zk_puti (pc := 22) B kx_12 (gModel_s ha) 53 (by decide) kf_12_458 rfl rfl rfl rfl dX12_goesIn_22 ?_
    refine zk_lm (fun M1 => ?_)
    refine zk_aload_n (pc := 25) B dX12_goesIn_25 0 rfl rfl ?_
    refine zk_getr (pc := 26) B kx_12 (gModel_s ha) 49 (by decide) kf_12_81 rfl (gModel_f49 ha) dX12_goesIn_26 ?_
    refine zk_aload_n (pc := 29) B dX12_goesIn_29 0 rfl rfl ?_
    refine zk_geti (pc := 30) B kx_12 (gModel_s ha) 52 (by decide) kf_12_461 rfl dX12_goesIn_30 ?_
    refine zk_iload_n (pc := 33) B dX12_goesIn_33 1 rfl rfl ?_
    refine zk_iast (pc := 34) B (gModel_t49 ha) dX12_goesIn_34 ?_
    refine zk_lm (fun M2 => ?_)
    refine zk_aload_n (pc := 35) B dX12_goesIn_35 0 rfl rfl ?_
    refine zk_dup (pc := 36) B dX12_goesIn_36 rfl ?_
    refine zk_geti (pc := 37) B kx_12 (gModel_s ha) 52 (by decide) kf_12_461 rfl dX12_goesIn_37 ?_
    refine zk_iconst (v := 1) (pc := 40) B dX12_goesIn_40 (by decide) ?_
    refine zk_iadd (pc := 41) B dX12_goesIn_41 ?_
    refine zk_puti (pc := 42) B kx_12 (gModel_s ha) 52 (by decide) kf_12_461 rfl rfl rfl rfl dX12_goesIn_42 ?_
    refine zk_lm (fun M3 => ?_)
    refine zk_aload_n (pc := 45) B dX12_goesIn_45 0 rfl rfl ?_
    refine zk_cvm (pc := 46) (k' := 0) (n' := 0) B rfl rfl (Nat.le_of_ble_eq_true rfl) (Nat.le_of_ble_eq_true rfl) (fun b hb => zr_V B hR kV_yX12_next km_12_180 kx_12 (gModel_s ha) [] rfl rfl (Nat.le_of_ble_eq_true rfl) dX12_goesIn_46 (m_Model_next hX ha M3 b hb) ⟨Nat.le_of_ble_eq_true rfl, Nat.le_of_ble_eq_true rfl⟩ ⟨Nat.le_of_ble_eq_true rfl, Nat.le_of_ble_eq_true rfl⟩) (fun M4 => ?_)
    refine zk_iconst (v := 1) (pc := 49) B dX12_goesIn_49 (by decide) ?_
    exact zk_iret (pc := 50) B dX12_goesIn_50 rfl rfl (Nat.le_of_ble_eq_true rfl) (Nat.le_of_ble_eq_true rfl) rfl
  · refine zk_aload_n (pc := 9) B dX12_goesIn_9 0 rfl rfl ?_
    refine zk_iconst (v := 3) (pc := 10) B dX12_goesIn_10 (by decide) ?_
    refine zk_cim (pc := 11) (k' := 0) (n' := 0) B rfl rfl (Nat.le_of_ble_eq_true rfl) (Nat.le_of_ble_eq_true rfl) (fun b hb => zr_V B hR kV_yX12_wrongs km_12_194 kx_12 (gModel_s ha) [.int 3] rfl rfl (Nat.le_of_ble_eq_true rfl) dX12_goesIn_11 (m_Model_wrongs hX ha 3 M b hb) ⟨Nat.le_of_ble_eq_true rfl, Nat.le_of_ble_eq_true rfl⟩ ⟨Nat.le_of_ble_eq_true rfl, Nat.le_of_ble_eq_true rfl⟩) (fun x6 M5 => ?_)
    exact zk_chk (fun h7 => zk_iret (pc := 14) B dX12_goesIn_14 rfl (z_n01 h7) (Nat.le_of_ble_eq_true rfl) (Nat.le_of_ble_eq_true rfl) rfl)
set_option maxHeartbeats 4000000 in
set_option maxRecDepth 100000 in
theorem m_Model_strength {X : z_X} (hX : z_ok X) {G : z_Gr} (p0 : Int32) (M : z_Mem) (b : Int32) (h : F_Model_strength p0 M = some b) : z_Ct X yX12_strength cX12_strength 1 (some .int) ({ frames := 0, cells := 0, slots := 0, locals := 0 } : Room) [.int p0] G M (fun o9 G9 M9 => G9 = G ∧ (o9, M9) = (z_ci M) b) := by
  refine z_enter hX (by decide) (Nat.le_of_ble_eq_true rfl) h (fun F B hR => ?_)
  show z_K X F 1 0 0 G (z_ci M) b 0 0 0 [(0, .int p0)] [] M (F_Model_strength p0 M)
  unfold F_Model_strength
  refine zk_iload_n (pc := 0) B dX12_strength_0 0 rfl rfl ?_
  refine zk_bipush (v := 25) (pc := 1) B dX12_strength_1 (by decide) ?_
  refine zk_icmp_ne (tgt := 10) (pc := 3) B dX12_strength_3 (by decide) (fun _ => ?_) (fun _ => ?_)
  · refine zk_iload_n (pc := 10) B dX12_strength_10 0 rfl rfl ?_
    refine zk_bipush (v := 24) (pc := 11) B dX12_strength_11 (by decide) ?_
    refine zk_icmp_ne (tgt := 20) (pc := 13) B dX12_strength_13 (by decide) (fun _ => ?_) (fun _ => ?_)
    · refine zk_iload_n (pc := 20) B dX12_strength_20 0 rfl rfl ?_
      refine zk_bipush (v := 23) (pc := 21) B dX12_strength_21 (by decide) ?_
      refine zk_icmp_ne (tgt := 30) (pc := 23) B dX12_strength_23 (by decide) (fun _ => ?_) (fun _ => ?_)
      · refine zk_iconst (v := 0) (pc := 30) B dX12_strength_30 (by decide) ?_
        exact zk_iret (pc := 31) B dX12_strength_31 rfl rfl (Nat.le_of_ble_eq_true rfl) (Nat.le_of_ble_eq_true rfl) rfl
      · refine zk_iconst (v := 3) (pc := 26) B dX12_strength_26 (by decide) ?_
        refine zk_goto (tgt := 31) (pc := 27) B dX12_strength_27 (by decide) ?_
        exact zk_iret (pc := 31) B dX12_strength_31 rfl rfl (Nat.le_of_ble_eq_true rfl) (Nat.le_of_ble_eq_true rfl) rfl
    · refine zk_iconst (v := 2) (pc := 16) B dX12_strength_16 (by decide) ?_
      refine zk_goto (tgt := 31) (pc := 17) B dX12_strength_17 (by decide) ?_
      exact zk_iret (pc := 31) B dX12_strength_31 rfl rfl (Nat.le_of_ble_eq_true rfl) (Nat.le_of_ble_eq_true rfl) rfl
  · refine zk_iconst (v := 1) (pc := 6) B dX12_strength_6 (by decide) ?_
    refine zk_goto (tgt := 31) (pc := 7) B dX12_strength_7 (by decide) ?_
    exact zk_iret (pc := 31) B dX12_strength_31 rfl rfl (Nat.le_of_ble_eq_true rfl) (Nat.le_of_ble_eq_true rfl) rfl
set_option maxHeartbeats 4000000 in
set_option maxRecDepth 100000 in
theorem m_Model_settles {X : z_X} (hX : z_ok X) {G : z_Gr} {a : Nat} (ha : g_Model G a) (p0 : Int32) (M : z_Mem) (b : z_Mem) (h : F_Model_settles a p0 M = some b) : z_Ct X yX12_settles cX12_settles 2 none ({ frames := 1, cells := 0, slots := 0, locals := 21 } : Room) [.ref a, .int p0] G M (fun o9 G9 M9 => G9 = G ∧ (o9, M9) = z_cvm b) := by
  refine z_enter hX (by decide) (Nat.le_of_ble_eq_true rfl) h (fun F B hR => ?_)
  have L0 : ∀ (nf0 : Nat), ∀ (v1 : Int32) (M : z_Mem), z_K X F 2 0 0 G z_cvm b 0 0 0 [(0, .ref a), (1, .int v1)] [] M (F_Model_settles_L0 a nf0 v1 M) := by
    intro nf0
    induction nf0 with
    | zero => intro v1 M; exact zk_none
    | succ nf0 ih0 =>
      intro v1 M
      show z_K X F 2 0 0 G z_cvm b 0 0 0 [(0, .ref a), (1, .int v1)] [] M (F_Model_settles_B0 a (F_Model_settles_L0 a nf0) v1 M)
      unfold F_Model_settles_B0
      refine zk_aload_n (pc := 0) B dX12_settles_0 0 rfl rfl ?_
      refine zk_cpi (pc := 1) (k' := 0) (n' := 0) B rfl rfl (Nat.le_of_ble_eq_true rfl) (Nat.le_of_ble_eq_true rfl) (fun b hb => zr_V B hR kV_yX12_isGood km_12_183 kx_12 (gModel_s ha) [] rfl rfl (Nat.le_of_ble_eq_true rfl) dX12_settles_1 (m_Model_isGood hX ha M b hb) ⟨Nat.le_of_ble_eq_true rfl, Nat.le_of_ble_eq_true rfl⟩ ⟨Nat.le_of_ble_eq_true rfl, Nat.le_of_ble_eq_true rfl⟩) (fun x1 _ => ?_)
      refine zk_if_eq (tgt := 82) (pc := 4) B dX12_settles_4 (by decide) (fun _ => ?_) (fun _ => ?_)
      · exact zk_vret (pc := 82) B dX12_settles_82 rfl (Nat.le_of_ble_eq_true rfl) (Nat.le_of_ble_eq_true rfl) rfl
      · refine zk_aload_n (pc := 7) B dX12_settles_7 0 rfl rfl ?_
        refine zk_geti (pc := 8) B kx_12 (gModel_s ha) 52 (by decide) kf_12_461 rfl dX12_settles_8 ?_
        refine zk_if_le (tgt := 82) (pc := 11) B dX12_settles_11 (by decide) (fun _ => ?_) (fun _ => ?_)
        · exact zk_vret (pc := 82) B dX12_settles_82 rfl (Nat.le_of_ble_eq_true rfl) (Nat.le_of_ble_eq_true rfl) rfl
        · refine zk_aload_n (pc := 14) B dX12_settles_14 0 rfl rfl ?_
          refine zk_getr (pc := 15) B kx_12 (gModel_s ha) 49 (by decide) kf_12_81 rfl (gModel_f49 ha) dX12_settles_15 ?_
          refine zk_aload_n (pc := 18) B dX12_settles_18 0 rfl rfl ?_
          refine zk_geti (pc := 19) B kx_12 (gModel_s ha) 52 (by decide) kf_12_461 rfl dX12_settles_19 ?_
          refine zk_iconst (v := 1) (pc := 22) B dX12_settles_22 (by decide) ?_
          refine zk_isub (pc := 23) B dX12_settles_23 ?_
          refine zk_iald (pc := 24) B (gModel_t49 ha) dX12_settles_24 ?_
          refine zk_cpi (pc := 25) (k' := 0) (n' := 0) B rfl rfl (Nat.le_of_ble_eq_true rfl) (Nat.le_of_ble_eq_true rfl) (fun b hb => zr_S B hR kS_yX12_strength km_12_464 [.int (M.1 (a + 23) ((M.1 a 52) - 1).toNatClampNeg)] rfl rfl (Nat.le_of_ble_eq_true rfl) dX12_settles_25 (m_Model_strength hX (M.1 (a + 23) ((M.1 a 52) - 1).toNatClampNeg) M b hb) ⟨Nat.le_of_ble_eq_true rfl, Nat.le_of_ble_eq_true rfl⟩ ⟨Nat.le_of_ble_eq_true rfl, Nat.le_of_ble_eq_true rfl⟩) (fun x2 _ => ?_)
          refine zk_iload_n (pc := 28) B dX12_settles_28 1 rfl rfl ?_
          refine zk_icmp_lt (tgt := 82) (pc := 29) B dX12_settles_29 (by decide) (fun _ => ?_) (fun _ => ?_)
          · exact zk_vret (pc := 82) B dX12_settles_82 rfl (Nat.le_of_ble_eq_true rfl) (Nat.le_of_ble_eq_true rfl) rfl
          · refine zk_aload_n (pc := 32) B dX12_settles_32 0 rfl rfl ?_
            refine zk_dup (pc := 33) B dX12_settles_33 rfl ?_
            refine zk_geti (pc := 34) B kx_12 (gModel_s ha) 52 (by decide) kf_12_461 rfl dX12_settles_34 ?_
            refine zk_iconst (v := 1) (pc := 37) B dX12_settles_37 (by decide) ?_
            refine zk_isub (pc := 38) B dX12_settles_38 ?_
            refine zk_puti (pc := 39) B kx_12 (gModel_s ha) 52 (by decide) kf_12_461 rfl rfl rfl rfl dX12_settles_39 ?_
            refine zk_lm (fun M3 => ?_)
            refine zk_aload_n (pc := 42) B dX12_settles_42 0 rfl rfl ?_
            refine zk_aload_n (pc := 43) B dX12_settles_43 0 rfl rfl ?_
            refine zk_getr (pc := 44) B kx_12 (gModel_s ha) 49 (by decide) kf_12_81 rfl (gModel_f49 ha) dX12_settles_44 ?_
            refine zk_aload_n (pc := 47) B dX12_settles_47 0 rfl rfl ?_
            refine zk_geti (pc := 48) B kx_12 (gModel_s ha) 52 (by decide) kf_12_461 rfl dX12_settles_48 ?_
            refine zk_iald (pc := 51) B (gModel_t49 ha) dX12_settles_51 ?_
            refine zk_cvm (pc := 52) (k' := 0) (n' := 0) B rfl rfl (Nat.le_of_ble_eq_true rfl) (Nat.le_of_ble_eq_true rfl) (fun b hb => zr_V B hR kV_yX12_adds km_12_452 kx_12 (gModel_s ha) [.int (M3.1 (a + 23) (M3.1 a 52).toNatClampNeg)] rfl rfl (Nat.le_of_ble_eq_true rfl) dX12_settles_52 (m_Model_adds hX ha (M3.1 (a + 23) (M3.1 a 52).toNatClampNeg) M3 b hb) ⟨Nat.le_of_ble_eq_true rfl, Nat.le_of_ble_eq_true rfl⟩ ⟨Nat.le_of_ble_eq_true rfl, Nat.le_of_ble_eq_true rfl⟩) (fun M4 => ?_)
            refine zk_aload_n (pc := 55) B dX12_settles_55 0 rfl rfl ?_
            refine zk_getr (pc := 56) B kx_12 (gModel_s ha) 49 (by decide) kf_12_81 rfl (gModel_f49 ha) dX12_settles_56 ?_
            refine zk_aload_n (pc := 59) B dX12_settles_59 0 rfl rfl ?_
            refine zk_geti (pc := 60) B kx_12 (gModel_s ha) 52 (by decide) kf_12_461 rfl dX12_settles_60 ?_
            refine zk_iald (pc := 63) B (gModel_t49 ha) dX12_settles_63 ?_
            refine zk_bipush (v := 23) (pc := 64) B dX12_settles_64 (by decide) ?_
            refine zk_icmp_ne (tgt := 0) (pc := 66) B dX12_settles_66 (by decide) (fun _ => ?_) (fun _ => ?_)
            · exact ih0 v1 M4
            · refine zk_aload_n (pc := 69) B dX12_settles_69 0 rfl rfl ?_
              refine zk_dup (pc := 70) B dX12_settles_70 rfl ?_
              refine zk_geti (pc := 71) B kx_12 (gModel_s ha) 53 (by decide) kf_12_458 rfl dX12_settles_71 ?_
              refine zk_iconst (v := 1) (pc := 74) B dX12_settles_74 (by decide) ?_
              refine zk_isub (pc := 75) B dX12_settles_75 ?_
              refine zk_puti (pc := 76) B kx_12 (gModel_s ha) 53 (by decide) kf_12_458 rfl rfl rfl rfl dX12_settles_76 ?_
              refine zk_lm (fun M5 => ?_)
              refine zk_goto (tgt := 0) (pc := 79) B dX12_settles_79 (by decide) ?_
              exact ih0 v1 M5
  show z_K X F 2 0 0 G z_cvm b 0 0 0 [(0, .ref a), (1, .int p0)] [] M (F_Model_settles a p0 M)
  unfold F_Model_settles
  exact L0 10000 p0 M
set_option maxHeartbeats 4000000 in
set_option maxRecDepth 100000 in
theorem m_Model_isInside {X : z_X} (hX : z_ok X) {G : z_Gr} {a : Nat} (ha : g_Model G a) (M : z_Mem) (b : Int32) (h : F_Model_isInside a M = some b) : z_Ct X yX12_isInside cX12_isInside 2 (some .boolean) ({ frames := 0, cells := 0, slots := 0, locals := 0 } : Room) [.ref a] G M (fun o9 G9 M9 => G9 = G ∧ (o9, M9) = (z_ci M) b) := by
  refine z_enter hX (by decide) (Nat.le_of_ble_eq_true rfl) h (fun F B hR => ?_)
  have L2 : ∀ (nf2 : Nat), ∀ (v1 : Int32), z_K X F 2 0 0 G (z_ci M) b 0 0 2 [(0, .ref a), (1, .int v1)] [] M (F_Model_isInside_L2 a nf2 v1 M) := by
    intro nf2
    induction nf2 with
    | zero => intro v1; exact zk_none
    | succ nf2 ih2 =>
      intro v1
      show z_K X F 2 0 0 G (z_ci M) b 0 0 2 [(0, .ref a), (1, .int v1)] [] M (F_Model_isInside_B2 a (F_Model_isInside_L2 a nf2) v1 M)
      unfold F_Model_isInside_B2
      refine zk_iload_n (pc := 2) B dX12_isInside_2 1 rfl rfl ?_
      refine zk_aload_n (pc := 3) B dX12_isInside_3 0 rfl rfl ?_
      refine zk_geti (pc := 4) B kx_12 (gModel_s ha) 52 (by decide) kf_12_461 rfl dX12_isInside_4 ?_
      refine zk_icmp_ge (tgt := 28) (pc := 7) B dX12_isInside_7 (by decide) (fun _ => ?_) (fun _ => ?_)
      · refine zk_iconst (v := 0) (pc := 28) B dX12_isInside_28 (by decide) ?_
        exact zk_iret (pc := 29) B dX12_isInside_29 rfl rfl (Nat.le_of_ble_eq_true rfl) (Nat.le_of_ble_eq_true rfl) rfl
      · refine zk_aload_n (pc := 10) B dX12_isInside_10 0 rfl rfl ?_
        refine zk_getr (pc := 11) B kx_12 (gModel_s ha) 49 (by decide) kf_12_81 rfl (gModel_f49 ha) dX12_isInside_11 ?_
        refine zk_iload_n (pc := 14) B dX12_isInside_14 1 rfl rfl ?_
        refine zk_iald (pc := 15) B (gModel_t49 ha) dX12_isInside_15 ?_
        refine zk_iconst (v := 1) (pc := 16) B dX12_isInside_16 (by decide) ?_
        refine zk_icmp_ne (tgt := 22) (pc := 17) B dX12_isInside_17 (by decide) (fun _ => ?_) (fun _ => ?_)
        · refine zk_iinc (y := 1) (lf := fun x1 => [(1, .int x1), (0, .ref a)]) (pc := 22) B dX12_isInside_22 1 rfl (by decide) (by decide) (fun _ => rfl) (fun x1 => ?_)
          refine zk_goto (tgt := 2) (pc := 25) B dX12_isInside_25 (by decide) ?_
          refine zk_sub [1, 0] rfl ?_
          exact ih2 x1
        · refine zk_iconst (v := 1) (pc := 20) B dX12_isInside_20 (by decide) ?_
          exact zk_iret (pc := 21) B dX12_isInside_21 rfl rfl (Nat.le_of_ble_eq_true rfl) (Nat.le_of_ble_eq_true rfl) rfl
  show z_K X F 2 0 0 G (z_ci M) b 0 0 0 [(0, .ref a)] [] M (F_Model_isInside a M)
  unfold F_Model_isInside
  refine zk_iconst (v := 0) (pc := 0) B dX12_isInside_0 (by decide) ?_
  refine zk_istore_n (loc' := [(1, .int 0), (0, .ref a)]) (pc := 1) B dX12_isInside_1 rfl (by decide) rfl ?_
  refine zk_sub [1, 0] rfl ?_
  exact L2 10000 0
set_option maxHeartbeats 4000000 in
set_option maxRecDepth 100000 in
theorem m_Model_comparisonRead {X : z_X} (hX : z_ok X) {G : z_Gr} {a : Nat} (ha : g_Model G a) (M : z_Mem) (b : z_Mem) (h : F_Model_comparisonRead a M = some b) : z_Ct X yX12_comparisonRead cX12_comparisonRead 2 none ({ frames := 5, cells := 0, slots := 0, locals := 105 } : Room) [.ref a] G M (fun o9 G9 M9 => G9 = G ∧ (o9, M9) = z_cvm b) := by
  refine z_enter hX (by decide) (Nat.le_of_ble_eq_true rfl) h (fun F B hR => ?_)
  have J99 : ∀ (v1 : Int32) (M : z_Mem), z_K X F 2 0 0 G z_cvm b 0 0 99 [(0, .ref a), (1, .int v1)] [] M (F_Model_comparisonRead_J99 a v1 M) := by
    intro v1 M
    unfold F_Model_comparisonRead_J99
    refine zk_aload_n (pc := 99) B dX12_comparisonRead_99 0 rfl rfl ?_
    refine zk_cpi (pc := 100) (k' := 0) (n' := 0) B rfl rfl (Nat.le_of_ble_eq_true rfl) (Nat.le_of_ble_eq_true rfl) (fun b hb => zr_V B hR kV_yX12_isGood km_12_183 kx_12 (gModel_s ha) [] rfl rfl (Nat.le_of_ble_eq_true rfl) dX12_comparisonRead_100 (m_Model_isGood hX ha M b hb) ⟨Nat.le_of_ble_eq_true rfl, Nat.le_of_ble_eq_true rfl⟩ ⟨Nat.le_of_ble_eq_true rfl, Nat.le_of_ble_eq_true rfl⟩) (fun x12 _ => ?_)
    refine zk_if_ne (tgt := 107) (pc := 103) B dX12_comparisonRead_103 (by decide) (fun _ => ?_) (fun _ => ?_)
    · refine zk_aload_n (pc := 107) B dX12_comparisonRead_107 0 rfl rfl ?_
      refine zk_cvm (pc := 108) (k' := 0) (n' := 0) B rfl rfl (Nat.le_of_ble_eq_true rfl) (Nat.le_of_ble_eq_true rfl) (fun b hb => zr_V B hR kV_yX12_next km_12_180 kx_12 (gModel_s ha) [] rfl rfl (Nat.le_of_ble_eq_true rfl) dX12_comparisonRead_108 (m_Model_next hX ha M b hb) ⟨Nat.le_of_ble_eq_true rfl, Nat.le_of_ble_eq_true rfl⟩ ⟨Nat.le_of_ble_eq_true rfl, Nat.le_of_ble_eq_true rfl⟩) (fun M13 => ?_)
      refine zk_aload_n (pc := 111) B dX12_comparisonRead_111 0 rfl rfl ?_
      refine zk_cvm (pc := 112) (k' := 0) (n' := 0) B rfl rfl (Nat.le_of_ble_eq_true rfl) (Nat.le_of_ble_eq_true rfl) (fun b hb => zr_V B hR kV_yX12_valueRead km_12_472 kx_12 (gModel_s ha) [] rfl rfl (Nat.le_of_ble_eq_true rfl) dX12_comparisonRead_112 (m_Model_valueRead hX ha M13 b hb) ⟨Nat.le_of_ble_eq_true rfl, Nat.le_of_ble_eq_true rfl⟩ ⟨Nat.le_of_ble_eq_true rfl, Nat.le_of_ble_eq_true rfl⟩) (fun M14 => ?_)
      refine zk_aload_n (pc := 115) B dX12_comparisonRead_115 0 rfl rfl ?_
      refine zk_cpi (pc := 116) (k' := 0) (n' := 0) B rfl rfl (Nat.le_of_ble_eq_true rfl) (Nat.le_of_ble_eq_true rfl) (fun b hb => zr_V B hR kV_yX12_isGood km_12_183 kx_12 (gModel_s ha) [] rfl rfl (Nat.le_of_ble_eq_true rfl) dX12_comparisonRead_116 (m_Model_isGood hX ha M14 b hb) ⟨Nat.le_of_ble_eq_true rfl, Nat.le_of_ble_eq_true rfl⟩ ⟨Nat.le_of_ble_eq_true rfl, Nat.le_of_ble_eq_true rfl⟩) (fun x15 _ => ?_)
      refine zk_if_eq (tgt := 127) (pc := 119) B dX12_comparisonRead_119 (by decide) (fun _ => ?_) (fun _ => ?_)
      · exact zk_vret (pc := 127) B dX12_comparisonRead_127 rfl (Nat.le_of_ble_eq_true rfl) (Nat.le_of_ble_eq_true rfl) rfl
      · refine zk_aload_n (pc := 122) B dX12_comparisonRead_122 0 rfl rfl ?_
        refine zk_iload_n (pc := 123) B dX12_comparisonRead_123 1 rfl rfl ?_
        refine zk_cvm (pc := 124) (k' := 0) (n' := 0) B rfl rfl (Nat.le_of_ble_eq_true rfl) (Nat.le_of_ble_eq_true rfl) (fun b hb => zr_V B hR kV_yX12_adds km_12_452 kx_12 (gModel_s ha) [.int v1] rfl rfl (Nat.le_of_ble_eq_true rfl) dX12_comparisonRead_124 (m_Model_adds hX ha v1 M14 b hb) ⟨Nat.le_of_ble_eq_true rfl, Nat.le_of_ble_eq_true rfl⟩ ⟨Nat.le_of_ble_eq_true rfl, Nat.le_of_ble_eq_true rfl⟩) (fun M16 => ?_)
        exact zk_vret (pc := 127) B dX12_comparisonRead_127 rfl (Nat.le_of_ble_eq_true rfl) (Nat.le_of_ble_eq_true rfl) rfl
    · exact zk_vret (pc := 106) B dX12_comparisonRead_106 rfl (Nat.le_of_ble_eq_true rfl) (Nat.le_of_ble_eq_true rfl) rfl
  have J77 : ∀ (s0 : Int32) (M : z_Mem), z_K X F 2 0 0 G z_cvm b 0 0 77 [(0, .ref a)] [.int s0] M (F_Model_comparisonRead_J77 a s0 M) := by
    intro s0 M
    unfold F_Model_comparisonRead_J77
    refine zk_istore_n (loc' := [(1, .int s0), (0, .ref a)]) (pc := 77) B dX12_comparisonRead_77 rfl (by decide) rfl ?_
    refine zk_iload_n (pc := 78) B dX12_comparisonRead_78 0 rfl rfl ?_
    refine zk_bipush (v := 21) (pc := 79) B dX12_comparisonRead_79 (by decide) ?_
    refine zk_icmp_ne (tgt := 99) (pc := 81) B dX12_comparisonRead_81 (by decide) (fun _ => ?_) (fun _ => ?_)
    · refine zk_sub [1, 0] rfl ?_
      exact J99 s0 M
    · refine zk_aload_n (pc := 84) B dX12_comparisonRead_84 1 rfl rfl ?_
      refine zk_bipush (v := 61) (pc := 85) B dX12_comparisonRead_85 (by decide) ?_
      refine zk_cpi (pc := 87) (k' := 0) (n' := 0) B rfl rfl (Nat.le_of_ble_eq_true rfl) (Nat.le_of_ble_eq_true rfl) (fun b hb => zr_V B hR kV_yX12_isByte km_12_191 kx_12 (gModel_s ha) [.int 61] rfl rfl (Nat.le_of_ble_eq_true rfl) dX12_comparisonRead_87 (m_Model_isByte hX ha 61 M b hb) ⟨Nat.le_of_ble_eq_true rfl, Nat.le_of_ble_eq_true rfl⟩ ⟨Nat.le_of_ble_eq_true rfl, Nat.le_of_ble_eq_true rfl⟩) (fun x9 _ => ?_)
      refine zk_if_ne (tgt := 99) (pc := 90) B dX12_comparisonRead_90 (by decide) (fun _ => ?_) (fun _ => ?_)
      · refine zk_sub [1, 0] rfl ?_
        exact J99 s0 M
      · refine zk_aload_n (pc := 93) B dX12_comparisonRead_93 1 rfl rfl ?_
        refine zk_iconst (v := 1) (pc := 94) B dX12_comparisonRead_94 (by decide) ?_
        refine zk_cim (pc := 95) (k' := 0) (n' := 0) B rfl rfl (Nat.le_of_ble_eq_true rfl) (Nat.le_of_ble_eq_true rfl) (fun b hb => zr_V B hR kV_yX12_wrongs km_12_194 kx_12 (gModel_s ha) [.int 1] rfl rfl (Nat.le_of_ble_eq_true rfl) dX12_comparisonRead_95 (m_Model_wrongs hX ha 1 M b hb) ⟨Nat.le_of_ble_eq_true rfl, Nat.le_of_ble_eq_true rfl⟩ ⟨Nat.le_of_ble_eq_true rfl, Nat.le_of_ble_eq_true rfl⟩) (fun x11 M10 => ?_)
        refine zk_pop (pc := 98) B dX12_comparisonRead_98 rfl ?_
        refine zk_sub [1, 0] rfl ?_
        exact J99 s0 M10
  have L0 : ∀ (nf0 : Nat), ∀  (M : z_Mem), z_K X F 2 0 0 G z_cvm b 0 0 0 [(0, .ref a)] [] M (F_Model_comparisonRead_L0 a nf0 M) := by
    intro nf0
    induction nf0 with
    | zero => intro  M; exact zk_none
    | succ nf0 ih0 =>
      have J36 : ∀ (s0 : Int32) (M : z_Mem), z_K X F 2 0 0 G z_cvm b 0 0 36 [(0, .ref a)] [.int s0, .ref a] M (F_Model_comparisonRead_J36 a (F_Model_comparisonRead_L0 a nf0) s0 M) := by
        intro s0 M
        unfold F_Model_comparisonRead_J36
        refine zk_cim (pc := 36) (k' := 0) (n' := 0) B rfl rfl (Nat.le_of_ble_eq_true rfl) (Nat.le_of_ble_eq_true rfl) (fun b hb => zr_V B hR kV_yX12_goesIn km_12_469 kx_12 (gModel_s ha) [.int s0] rfl rfl (Nat.le_of_ble_eq_true rfl) dX12_comparisonRead_36 (m_Model_goesIn hX ha s0 M b hb) ⟨Nat.le_of_ble_eq_true rfl, Nat.le_of_ble_eq_true rfl⟩ ⟨Nat.le_of_ble_eq_true rfl, Nat.le_of_ble_eq_true rfl⟩) (fun x8 M7 => ?_)
        refine zk_if_ne (tgt := 0) (pc := 39) B dX12_comparisonRead_39 (by decide) (fun _ => ?_) (fun _ => ?_)
        · exact ih0 M7
        · exact zk_vret (pc := 42) B dX12_comparisonRead_42 rfl (Nat.le_of_ble_eq_true rfl) (Nat.le_of_ble_eq_true rfl) rfl
      have J19 : ∀  (M : z_Mem), z_K X F 2 0 0 G z_cvm b 0 0 19 [(0, .ref a)] [] M (F_Model_comparisonRead_J19 a (F_Model_comparisonRead_L0 a nf0) M) := by
        intro  M
        unfold F_Model_comparisonRead_J19
        refine zk_aload_n (pc := 19) B dX12_comparisonRead_19 0 rfl rfl ?_
        refine zk_aload_n (pc := 20) B dX12_comparisonRead_20 0 rfl rfl ?_
        refine zk_ldc2 (pc := 21) B kl_12_467 dX12_comparisonRead_21 ?_
        refine zk_cpi (pc := 24) (k' := 0) (n' := 0) B rfl rfl (Nat.le_of_ble_eq_true rfl) (Nat.le_of_ble_eq_true rfl) (fun b hb => zr_V B hR kV_yX12_isWord km_12_187 kx_12 (gModel_s ha) [.long 10631] rfl rfl (Nat.le_of_ble_eq_true rfl) dX12_comparisonRead_24 (m_Model_isWord hX ha 10631 M b hb) ⟨Nat.le_of_ble_eq_true rfl, Nat.le_of_ble_eq_true rfl⟩ ⟨Nat.le_of_ble_eq_true rfl, Nat.le_of_ble_eq_true rfl⟩) (fun x6 _ => ?_)
        refine zk_if_eq (tgt := 35) (pc := 27) B dX12_comparisonRead_27 (by decide) (fun _ => ?_) (fun _ => ?_)
        · refine zk_iconst (v := 1) (pc := 35) B dX12_comparisonRead_35 (by decide) ?_
          exact J36 1 M
        · refine zk_bipush (v := 23) (pc := 30) B dX12_comparisonRead_30 (by decide) ?_
          refine zk_goto (tgt := 36) (pc := 32) B dX12_comparisonRead_32 (by decide) ?_
          exact J36 23 M
      intro  M
      show z_K X F 2 0 0 G z_cvm b 0 0 0 [(0, .ref a)] [] M (F_Model_comparisonRead_B0 a (F_Model_comparisonRead_L0 a nf0) M)
      unfold F_Model_comparisonRead_B0
      refine zk_aload_n (pc := 0) B dX12_comparisonRead_0 0 rfl rfl ?_
      refine zk_ldc2 (pc := 1) B kl_12_467 dX12_comparisonRead_1 ?_
      refine zk_cpi (pc := 4) (k' := 0) (n' := 0) B rfl rfl (Nat.le_of_ble_eq_true rfl) (Nat.le_of_ble_eq_true rfl) (fun b hb => zr_V B hR kV_yX12_isWord km_12_187 kx_12 (gModel_s ha) [.long 10631] rfl rfl (Nat.le_of_ble_eq_true rfl) dX12_comparisonRead_4 (m_Model_isWord hX ha 10631 M b hb) ⟨Nat.le_of_ble_eq_true rfl, Nat.le_of_ble_eq_true rfl⟩ ⟨Nat.le_of_ble_eq_true rfl, Nat.le_of_ble_eq_true rfl⟩) (fun x1 _ => ?_)
      refine zk_if_ne (tgt := 19) (pc := 7) B dX12_comparisonRead_7 (by decide) (fun _ => ?_) (fun _ => ?_)
      · exact J19 M
      · refine zk_aload_n (pc := 10) B dX12_comparisonRead_10 0 rfl rfl ?_
        refine zk_bipush (v := 40) (pc := 11) B dX12_comparisonRead_11 (by decide) ?_
        refine zk_cpi (pc := 13) (k' := 0) (n' := 0) B rfl rfl (Nat.le_of_ble_eq_true rfl) (Nat.le_of_ble_eq_true rfl) (fun b hb => zr_V B hR kV_yX12_isByte km_12_191 kx_12 (gModel_s ha) [.int 40] rfl rfl (Nat.le_of_ble_eq_true rfl) dX12_comparisonRead_13 (m_Model_isByte hX ha 40 M b hb) ⟨Nat.le_of_ble_eq_true rfl, Nat.le_of_ble_eq_true rfl⟩ ⟨Nat.le_of_ble_eq_true rfl, Nat.le_of_ble_eq_true rfl⟩) (fun x2 _ => ?_)
        refine zk_if_eq (tgt := 43) (pc := 16) B dX12_comparisonRead_16 (by decide) (fun _ => ?_) (fun _ => ?_)
        · refine zk_aload_n (pc := 43) B dX12_comparisonRead_43 0 rfl rfl ?_
          refine zk_cvm (pc := 44) (k' := 0) (n' := 0) B rfl rfl (Nat.le_of_ble_eq_true rfl) (Nat.le_of_ble_eq_true rfl) (fun b hb => zr_V B hR kV_yX12_valueRead km_12_472 kx_12 (gModel_s ha) [] rfl rfl (Nat.le_of_ble_eq_true rfl) dX12_comparisonRead_44 (m_Model_valueRead hX ha M b hb) ⟨Nat.le_of_ble_eq_true rfl, Nat.le_of_ble_eq_true rfl⟩ ⟨Nat.le_of_ble_eq_true rfl, Nat.le_of_ble_eq_true rfl⟩) (fun M3 => ?_)
          refine zk_aload_n (pc := 47) B dX12_comparisonRead_47 0 rfl rfl ?_
          refine zk_bipush (v := 60) (pc := 48) B dX12_comparisonRead_48 (by decide) ?_
          refine zk_cpi (pc := 50) (k' := 0) (n' := 0) B rfl rfl (Nat.le_of_ble_eq_true rfl) (Nat.le_of_ble_eq_true rfl) (fun b hb => zr_V B hR kV_yX12_isByte km_12_191 kx_12 (gModel_s ha) [.int 60] rfl rfl (Nat.le_of_ble_eq_true rfl) dX12_comparisonRead_50 (m_Model_isByte hX ha 60 M3 b hb) ⟨Nat.le_of_ble_eq_true rfl, Nat.le_of_ble_eq_true rfl⟩ ⟨Nat.le_of_ble_eq_true rfl, Nat.le_of_ble_eq_true rfl⟩) (fun x4 _ => ?_)
          refine zk_if_eq (tgt := 61) (pc := 53) B dX12_comparisonRead_53 (by decide) (fun _ => ?_) (fun _ => ?_)
          · refine zk_aload_n (pc := 61) B dX12_comparisonRead_61 0 rfl rfl ?_
            refine zk_bipush (v := 62) (pc := 62) B dX12_comparisonRead_62 (by decide) ?_
            refine zk_cpi (pc := 64) (k' := 0) (n' := 0) B rfl rfl (Nat.le_of_ble_eq_true rfl) (Nat.le_of_ble_eq_true rfl) (fun b hb => zr_V B hR kV_yX12_isByte km_12_191 kx_12 (gModel_s ha) [.int 62] rfl rfl (Nat.le_of_ble_eq_true rfl) dX12_comparisonRead_64 (m_Model_isByte hX ha 62 M3 b hb) ⟨Nat.le_of_ble_eq_true rfl, Nat.le_of_ble_eq_true rfl⟩ ⟨Nat.le_of_ble_eq_true rfl, Nat.le_of_ble_eq_true rfl⟩) (fun x5 _ => ?_)
            refine zk_if_eq (tgt := 75) (pc := 67) B dX12_comparisonRead_67 (by decide) (fun _ => ?_) (fun _ => ?_)
            · refine zk_bipush (v := 21) (pc := 75) B dX12_comparisonRead_75 (by decide) ?_
              exact J77 21 M3
            · refine zk_bipush (v := 22) (pc := 70) B dX12_comparisonRead_70 (by decide) ?_
              refine zk_goto (tgt := 77) (pc := 72) B dX12_comparisonRead_72 (by decide) ?_
              exact J77 22 M3
          · refine zk_bipush (v := 20) (pc := 56) B dX12_comparisonRead_56 (by decide) ?_
            refine zk_goto (tgt := 77) (pc := 58) B dX12_comparisonRead_58 (by decide) ?_
            exact J77 20 M3
        · exact J19 M
  show z_K X F 2 0 0 G z_cvm b 0 0 0 [(0, .ref a)] [] M (F_Model_comparisonRead a M)
  unfold F_Model_comparisonRead
  exact L0 10000 M
set_option maxHeartbeats 4000000 in
set_option maxRecDepth 100000 in
theorem m_Model_closes {X : z_X} (hX : z_ok X) {G : z_Gr} {a : Nat} (ha : g_Model G a) (M : z_Mem) (b : z_Mem) (h : F_Model_closes a M = some b) : z_Ct X yX12_closes cX12_closes 1 none ({ frames := 3, cells := 0, slots := 0, locals := 61 } : Room) [.ref a] G M (fun o9 G9 M9 => G9 = G ∧ (o9, M9) = z_cvm b) := by
  refine z_enter hX (by decide) (Nat.le_of_ble_eq_true rfl) h (fun F B hR => ?_)
  have L5 : ∀ (nf5 : Nat), ∀  (M : z_Mem), z_K X F 1 0 0 G z_cvm b 0 0 5 [(0, .ref a)] [] M (F_Model_closes_L5 a nf5 M) := by
    intro nf5
    induction nf5 with
    | zero => intro  M; exact zk_none
    | succ nf5 ih5 =>
      intro  M
      show z_K X F 1 0 0 G z_cvm b 0 0 5 [(0, .ref a)] [] M (F_Model_closes_B5 a (F_Model_closes_L5 a nf5) M)
      unfold F_Model_closes_B5
      refine zk_aload_n (pc := 5) B dX12_closes_5 0 rfl rfl ?_
      refine zk_bipush (v := 41) (pc := 6) B dX12_closes_6 (by decide) ?_
      refine zk_cpi (pc := 8) (k' := 0) (n' := 0) B rfl rfl (Nat.le_of_ble_eq_true rfl) (Nat.le_of_ble_eq_true rfl) (fun b hb => zr_V B hR kV_yX12_isByte km_12_191 kx_12 (gModel_s ha) [.int 41] rfl rfl (Nat.le_of_ble_eq_true rfl) dX12_closes_8 (m_Model_isByte hX ha 41 M b hb) ⟨Nat.le_of_ble_eq_true rfl, Nat.le_of_ble_eq_true rfl⟩ ⟨Nat.le_of_ble_eq_true rfl, Nat.le_of_ble_eq_true rfl⟩) (fun x2 _ => ?_)
      refine zk_if_eq (tgt := 58) (pc := 11) B dX12_closes_11 (by decide) (fun _ => ?_) (fun _ => ?_)
      · exact zk_vret (pc := 58) B dX12_closes_58 rfl (Nat.le_of_ble_eq_true rfl) (Nat.le_of_ble_eq_true rfl) rfl
      · refine zk_aload_n (pc := 14) B dX12_closes_14 0 rfl rfl ?_
        refine zk_cpi (pc := 15) (k' := 0) (n' := 0) B rfl rfl (Nat.le_of_ble_eq_true rfl) (Nat.le_of_ble_eq_true rfl) (fun b hb => zr_V B hR kV_yX12_isInside km_12_478 kx_12 (gModel_s ha) [] rfl rfl (Nat.le_of_ble_eq_true rfl) dX12_closes_15 (m_Model_isInside hX ha M b hb) ⟨Nat.le_of_ble_eq_true rfl, Nat.le_of_ble_eq_true rfl⟩ ⟨Nat.le_of_ble_eq_true rfl, Nat.le_of_ble_eq_true rfl⟩) (fun x3 _ => ?_)
        refine zk_if_eq (tgt := 58) (pc := 18) B dX12_closes_18 (by decide) (fun _ => ?_) (fun _ => ?_)
        · exact zk_vret (pc := 58) B dX12_closes_58 rfl (Nat.le_of_ble_eq_true rfl) (Nat.le_of_ble_eq_true rfl) rfl
        · refine zk_aload_n (pc := 21) B dX12_closes_21 0 rfl rfl ?_
          refine zk_iconst (v := 1) (pc := 22) B dX12_closes_22 (by decide) ?_
          refine zk_cvm (pc := 23) (k' := 0) (n' := 0) B rfl rfl (Nat.le_of_ble_eq_true rfl) (Nat.le_of_ble_eq_true rfl) (fun b hb => zr_V B hR kV_yX12_settles km_12_475 kx_12 (gModel_s ha) [.int 1] rfl rfl (Nat.le_of_ble_eq_true rfl) dX12_closes_23 (m_Model_settles hX ha 1 M b hb) ⟨Nat.le_of_ble_eq_true rfl, Nat.le_of_ble_eq_true rfl⟩ ⟨Nat.le_of_ble_eq_true rfl, Nat.le_of_ble_eq_true rfl⟩) (fun M4 => ?_)
          refine zk_aload_n (pc := 26) B dX12_closes_26 0 rfl rfl ?_
          refine zk_dup (pc := 27) B dX12_closes_27 rfl ?_
          refine zk_geti (pc := 28) B kx_12 (gModel_s ha) 52 (by decide) kf_12_461 rfl dX12_closes_28 ?_
          refine zk_iconst (v := 1) (pc := 31) B dX12_closes_31 (by decide) ?_
          refine zk_isub (pc := 32) B dX12_closes_32 ?_
          refine zk_puti (pc := 33) B kx_12 (gModel_s ha) 52 (by decide) kf_12_461 rfl rfl rfl rfl dX12_closes_33 ?_
          refine zk_lm (fun M5 => ?_)
          refine zk_aload_n (pc := 36) B dX12_closes_36 0 rfl rfl ?_
          refine zk_dup (pc := 37) B dX12_closes_37 rfl ?_
          refine zk_geti (pc := 38) B kx_12 (gModel_s ha) 53 (by decide) kf_12_458 rfl dX12_closes_38 ?_
          refine zk_iconst (v := 1) (pc := 41) B dX12_closes_41 (by decide) ?_
          refine zk_isub (pc := 42) B dX12_closes_42 ?_
          refine zk_puti (pc := 43) B kx_12 (gModel_s ha) 53 (by decide) kf_12_458 rfl rfl rfl rfl dX12_closes_43 ?_
          refine zk_lm (fun M6 => ?_)
          refine zk_aload_n (pc := 46) B dX12_closes_46 0 rfl rfl ?_
          refine zk_cvm (pc := 47) (k' := 0) (n' := 0) B rfl rfl (Nat.le_of_ble_eq_true rfl) (Nat.le_of_ble_eq_true rfl) (fun b hb => zr_V B hR kV_yX12_next km_12_180 kx_12 (gModel_s ha) [] rfl rfl (Nat.le_of_ble_eq_true rfl) dX12_closes_47 (m_Model_next hX ha M6 b hb) ⟨Nat.le_of_ble_eq_true rfl, Nat.le_of_ble_eq_true rfl⟩ ⟨Nat.le_of_ble_eq_true rfl, Nat.le_of_ble_eq_true rfl⟩) (fun M7 => ?_)
          refine zk_aload_n (pc := 50) B dX12_closes_50 0 rfl rfl ?_
          refine zk_iconst (v := 3) (pc := 51) B dX12_closes_51 (by decide) ?_
          refine zk_cvm (pc := 52) (k' := 0) (n' := 0) B rfl rfl (Nat.le_of_ble_eq_true rfl) (Nat.le_of_ble_eq_true rfl) (fun b hb => zr_V B hR kV_yX12_settles km_12_475 kx_12 (gModel_s ha) [.int 3] rfl rfl (Nat.le_of_ble_eq_true rfl) dX12_closes_52 (m_Model_settles hX ha 3 M7 b hb) ⟨Nat.le_of_ble_eq_true rfl, Nat.le_of_ble_eq_true rfl⟩ ⟨Nat.le_of_ble_eq_true rfl, Nat.le_of_ble_eq_true rfl⟩) (fun M8 => ?_)
          refine zk_goto (tgt := 5) (pc := 55) B dX12_closes_55 (by decide) ?_
          exact ih5 M8
  show z_K X F 1 0 0 G z_cvm b 0 0 0 [(0, .ref a)] [] M (F_Model_closes a M)
  unfold F_Model_closes
  refine zk_aload_n (pc := 0) B dX12_closes_0 0 rfl rfl ?_
  refine zk_iconst (v := 3) (pc := 1) B dX12_closes_1 (by decide) ?_
  refine zk_cvm (pc := 2) (k' := 0) (n' := 0) B rfl rfl (Nat.le_of_ble_eq_true rfl) (Nat.le_of_ble_eq_true rfl) (fun b hb => zr_V B hR kV_yX12_settles km_12_475 kx_12 (gModel_s ha) [.int 3] rfl rfl (Nat.le_of_ble_eq_true rfl) dX12_closes_2 (m_Model_settles hX ha 3 M b hb) ⟨Nat.le_of_ble_eq_true rfl, Nat.le_of_ble_eq_true rfl⟩ ⟨Nat.le_of_ble_eq_true rfl, Nat.le_of_ble_eq_true rfl⟩) (fun M1 => ?_)
  exact L5 10000 M1
set_option maxHeartbeats 4000000 in
set_option maxRecDepth 100000 in
theorem m_Model_reads {X : z_X} (hX : z_ok X) {G : z_Gr} {a : Nat} (ha : g_Model G a) (M : z_Mem) (b : z_Mem) (h : F_Model_reads a M = some b) : z_Ct X yX12_reads cX12_reads 3 none ({ frames := 6, cells := 0, slots := 0, locals := 126 } : Room) [.ref a] G M (fun o9 G9 M9 => G9 = G ∧ (o9, M9) = z_cvm b) := by
  refine z_enter hX (by decide) (Nat.le_of_ble_eq_true rfl) h (fun F B hR => ?_)
  have J151 : ∀  (M : z_Mem), z_K X F 3 0 0 G z_cvm b 0 0 151 [(0, .ref a)] [] M (F_Model_reads_J151 a M) := by
    intro  M
    unfold F_Model_reads_J151
    refine zk_aload_n (pc := 151) B dX12_reads_151 0 rfl rfl ?_
    refine zk_iconst (v := 1) (pc := 152) B dX12_reads_152 (by decide) ?_
    refine zk_cvm (pc := 153) (k' := 0) (n' := 0) B rfl rfl (Nat.le_of_ble_eq_true rfl) (Nat.le_of_ble_eq_true rfl) (fun b hb => zr_V B hR kV_yX12_settles km_12_475 kx_12 (gModel_s ha) [.int 1] rfl rfl (Nat.le_of_ble_eq_true rfl) dX12_reads_153 (m_Model_settles hX ha 1 M b hb) ⟨Nat.le_of_ble_eq_true rfl, Nat.le_of_ble_eq_true rfl⟩ ⟨Nat.le_of_ble_eq_true rfl, Nat.le_of_ble_eq_true rfl⟩) (fun M12 => ?_)
    exact zk_vret (pc := 156) B dX12_reads_156 rfl (Nat.le_of_ble_eq_true rfl) (Nat.le_of_ble_eq_true rfl) rfl
  have J145 : ∀  (M : z_Mem), z_K X F 3 0 0 G z_cvm b 0 0 145 [(0, .ref a)] [] M (F_Model_reads_J145 a M) := by
    intro  M
    unfold F_Model_reads_J145
    refine zk_aload_n (pc := 145) B dX12_reads_145 0 rfl rfl ?_
    refine zk_iconst (v := 1) (pc := 146) B dX12_reads_146 (by decide) ?_
    refine zk_cim (pc := 147) (k' := 0) (n' := 0) B rfl rfl (Nat.le_of_ble_eq_true rfl) (Nat.le_of_ble_eq_true rfl) (fun b hb => zr_V B hR kV_yX12_wrongs km_12_194 kx_12 (gModel_s ha) [.int 1] rfl rfl (Nat.le_of_ble_eq_true rfl) dX12_reads_147 (m_Model_wrongs hX ha 1 M b hb) ⟨Nat.le_of_ble_eq_true rfl, Nat.le_of_ble_eq_true rfl⟩ ⟨Nat.le_of_ble_eq_true rfl, Nat.le_of_ble_eq_true rfl⟩) (fun x14 M13 => ?_)
    refine zk_pop (pc := 150) B dX12_reads_150 rfl ?_
    exact J151 M13
  have L20 : ∀ (nf20 : Nat), ∀ (v1 : Int32) (M : z_Mem), z_K X F 3 0 0 G z_cvm b 0 0 20 [(0, .ref a), (1, .int v1)] [] M (F_Model_reads_L20 a nf20 v1 M) := by
    intro nf20
    induction nf20 with
    | zero => intro v1 M; exact zk_none
    | succ nf20 ih20 =>
      have J81 : ∀ (v2 : Int32) (s0 : Int32) (M : z_Mem), z_K X F 3 0 0 G z_cvm b 0 0 81 [(0, .ref a), (2, .int v2)] [.int s0] M (F_Model_reads_J81 a (F_Model_reads_L20 a nf20) v2 s0 M) := by
        intro v2 s0 M
        unfold F_Model_reads_J81
        refine zk_istore_n (loc' := [(1, .int s0), (0, .ref a), (2, .int v2)]) (pc := 81) B dX12_reads_81 rfl (by decide) rfl ?_
        refine zk_iload_n (pc := 82) B dX12_reads_82 0 rfl rfl ?_
        refine zk_if_ne (tgt := 89) (pc := 83) B dX12_reads_83 (by decide) (fun _ => ?_) (fun _ => ?_)
        · refine zk_aload_n (pc := 89) B dX12_reads_89 1 rfl rfl ?_
          refine zk_iload_n (pc := 90) B dX12_reads_90 2 rfl rfl ?_
          refine zk_cpi (pc := 91) (k' := 0) (n' := 0) B rfl rfl (Nat.le_of_ble_eq_true rfl) (Nat.le_of_ble_eq_true rfl) (fun b hb => zr_S B hR kS_yX12_strength km_12_464 [.int v2] rfl rfl (Nat.le_of_ble_eq_true rfl) dX12_reads_91 (m_Model_strength hX v2 M b hb) ⟨Nat.le_of_ble_eq_true rfl, Nat.le_of_ble_eq_true rfl⟩ ⟨Nat.le_of_ble_eq_true rfl, Nat.le_of_ble_eq_true rfl⟩) (fun x15 _ => ?_)
          refine zk_cvm (pc := 94) (k' := 0) (n' := 0) B rfl rfl (Nat.le_of_ble_eq_true rfl) (Nat.le_of_ble_eq_true rfl) (fun b hb => zr_V B hR kV_yX12_settles km_12_475 kx_12 (gModel_s ha) [.int x15] rfl rfl (Nat.le_of_ble_eq_true rfl) dX12_reads_94 (m_Model_settles hX ha x15 M b hb) ⟨Nat.le_of_ble_eq_true rfl, Nat.le_of_ble_eq_true rfl⟩ ⟨Nat.le_of_ble_eq_true rfl, Nat.le_of_ble_eq_true rfl⟩) (fun M16 => ?_)
          refine zk_aload_n (pc := 97) B dX12_reads_97 1 rfl rfl ?_
          refine zk_getr (pc := 98) B kx_12 (gModel_s ha) 49 (by decide) kf_12_81 rfl (gModel_f49 ha) dX12_reads_98 ?_
          refine zk_aload_n (pc := 101) B dX12_reads_101 1 rfl rfl ?_
          refine zk_geti (pc := 102) B kx_12 (gModel_s ha) 52 (by decide) kf_12_461 rfl dX12_reads_102 ?_
          refine zk_iload_n (pc := 105) B dX12_reads_105 2 rfl rfl ?_
          refine zk_iast (pc := 106) B (gModel_t49 ha) dX12_reads_106 ?_
          refine zk_lm (fun M17 => ?_)
          refine zk_aload_n (pc := 107) B dX12_reads_107 1 rfl rfl ?_
          refine zk_dup (pc := 108) B dX12_reads_108 rfl ?_
          refine zk_geti (pc := 109) B kx_12 (gModel_s ha) 52 (by decide) kf_12_461 rfl dX12_reads_109 ?_
          refine zk_iconst (v := 1) (pc := 112) B dX12_reads_112 (by decide) ?_
          refine zk_iadd (pc := 113) B dX12_reads_113 ?_
          refine zk_puti (pc := 114) B kx_12 (gModel_s ha) 52 (by decide) kf_12_461 rfl rfl rfl rfl dX12_reads_114 ?_
          refine zk_lm (fun M18 => ?_)
          refine zk_aload_n (pc := 117) B dX12_reads_117 1 rfl rfl ?_
          refine zk_cvm (pc := 118) (k' := 0) (n' := 0) B rfl rfl (Nat.le_of_ble_eq_true rfl) (Nat.le_of_ble_eq_true rfl) (fun b hb => zr_V B hR kV_yX12_next km_12_180 kx_12 (gModel_s ha) [] rfl rfl (Nat.le_of_ble_eq_true rfl) dX12_reads_118 (m_Model_next hX ha M18 b hb) ⟨Nat.le_of_ble_eq_true rfl, Nat.le_of_ble_eq_true rfl⟩ ⟨Nat.le_of_ble_eq_true rfl, Nat.le_of_ble_eq_true rfl⟩) (fun M19 => ?_)
          refine zk_goto (tgt := 20) (pc := 121) B dX12_reads_121 (by decide) ?_
          refine zk_sub [1, 0] rfl ?_
          exact ih20 s0 M19
        · refine zk_goto (tgt := 20) (pc := 86) B dX12_reads_86 (by decide) ?_
          refine zk_sub [1, 0] rfl ?_
          exact ih20 s0 M
      have J71 : ∀ (s0 : Int32) (M : z_Mem), z_K X F 3 0 0 G z_cvm b 0 0 71 [(0, .ref a)] [.int s0] M (F_Model_reads_J71 a (F_Model_reads_L20 a nf20) s0 M) := by
        intro s0 M
        unfold F_Model_reads_J71
        refine zk_istore_n (loc' := [(2, .int s0), (0, .ref a)]) (pc := 71) B dX12_reads_71 rfl (by decide) rfl ?_
        refine zk_iload_n (pc := 72) B dX12_reads_72 0 rfl rfl ?_
        refine zk_if_eq (tgt := 80) (pc := 73) B dX12_reads_73 (by decide) (fun _ => ?_) (fun _ => ?_)
        · refine zk_iconst (v := 0) (pc := 80) B dX12_reads_80 (by decide) ?_
          refine zk_sub [1, 0] rfl ?_
          exact J81 s0 0 M
        · refine zk_iconst (v := 1) (pc := 76) B dX12_reads_76 (by decide) ?_
          refine zk_goto (tgt := 81) (pc := 77) B dX12_reads_77 (by decide) ?_
          refine zk_sub [1, 0] rfl ?_
          exact J81 s0 1 M
      intro v1 M
      show z_K X F 3 0 0 G z_cvm b 0 0 20 [(0, .ref a), (1, .int v1)] [] M (F_Model_reads_B20 a (F_Model_reads_L20 a nf20) v1 M)
      unfold F_Model_reads_B20
      refine zk_iload_n (pc := 20) B dX12_reads_20 1 rfl rfl ?_
      refine zk_if_eq (tgt := 124) (pc := 21) B dX12_reads_21 (by decide) (fun _ => ?_) (fun _ => ?_)
      · refine zk_aload_n (pc := 124) B dX12_reads_124 0 rfl rfl ?_
        refine zk_cpi (pc := 125) (k' := 0) (n' := 0) B rfl rfl (Nat.le_of_ble_eq_true rfl) (Nat.le_of_ble_eq_true rfl) (fun b hb => zr_V B hR kV_yX12_isGood km_12_183 kx_12 (gModel_s ha) [] rfl rfl (Nat.le_of_ble_eq_true rfl) dX12_reads_125 (m_Model_isGood hX ha M b hb) ⟨Nat.le_of_ble_eq_true rfl, Nat.le_of_ble_eq_true rfl⟩ ⟨Nat.le_of_ble_eq_true rfl, Nat.le_of_ble_eq_true rfl⟩) (fun x5 _ => ?_)
        refine zk_if_eq (tgt := 151) (pc := 128) B dX12_reads_128 (by decide) (fun _ => ?_) (fun _ => ?_)
        · refine zk_sub [0] rfl ?_
          exact J151 M
        · refine zk_aload_n (pc := 131) B dX12_reads_131 0 rfl rfl ?_
          refine zk_cpi (pc := 132) (k' := 0) (n' := 0) B rfl rfl (Nat.le_of_ble_eq_true rfl) (Nat.le_of_ble_eq_true rfl) (fun b hb => zr_V B hR kV_yX12_isInside km_12_478 kx_12 (gModel_s ha) [] rfl rfl (Nat.le_of_ble_eq_true rfl) dX12_reads_132 (m_Model_isInside hX ha M b hb) ⟨Nat.le_of_ble_eq_true rfl, Nat.le_of_ble_eq_true rfl⟩ ⟨Nat.le_of_ble_eq_true rfl, Nat.le_of_ble_eq_true rfl⟩) (fun x6 _ => ?_)
          refine zk_if_ne (tgt := 145) (pc := 135) B dX12_reads_135 (by decide) (fun _ => ?_) (fun _ => ?_)
          · refine zk_sub [0] rfl ?_
            exact J145 M
          · refine zk_aload_n (pc := 138) B dX12_reads_138 0 rfl rfl ?_
            refine zk_geti (pc := 139) B kx_12 (gModel_s ha) 27 (by decide) kf_12_161 rfl dX12_reads_139 ?_
            refine zk_if_eq (tgt := 151) (pc := 142) B dX12_reads_142 (by decide) (fun _ => ?_) (fun _ => ?_)
            · refine zk_sub [0] rfl ?_
              exact J151 M
            · refine zk_sub [0] rfl ?_
              exact J145 M
      · refine zk_aload_n (pc := 24) B dX12_reads_24 0 rfl rfl ?_
        refine zk_cvm (pc := 25) (k' := 0) (n' := 0) B rfl rfl (Nat.le_of_ble_eq_true rfl) (Nat.le_of_ble_eq_true rfl) (fun b hb => zr_V B hR kV_yX12_comparisonRead km_12_481 kx_12 (gModel_s ha) [] rfl rfl (Nat.le_of_ble_eq_true rfl) dX12_reads_25 (m_Model_comparisonRead hX ha M b hb) ⟨Nat.le_of_ble_eq_true rfl, Nat.le_of_ble_eq_true rfl⟩ ⟨Nat.le_of_ble_eq_true rfl, Nat.le_of_ble_eq_true rfl⟩) (fun M7 => ?_)
        refine zk_aload_n (pc := 28) B dX12_reads_28 0 rfl rfl ?_
        refine zk_cpi (pc := 29) (k' := 0) (n' := 0) B rfl rfl (Nat.le_of_ble_eq_true rfl) (Nat.le_of_ble_eq_true rfl) (fun b hb => zr_V B hR kV_yX12_isGood km_12_183 kx_12 (gModel_s ha) [] rfl rfl (Nat.le_of_ble_eq_true rfl) dX12_reads_29 (m_Model_isGood hX ha M7 b hb) ⟨Nat.le_of_ble_eq_true rfl, Nat.le_of_ble_eq_true rfl⟩ ⟨Nat.le_of_ble_eq_true rfl, Nat.le_of_ble_eq_true rfl⟩) (fun x8 _ => ?_)
        refine zk_if_ne (tgt := 36) (pc := 32) B dX12_reads_32 (by decide) (fun _ => ?_) (fun _ => ?_)
        · refine zk_aload_n (pc := 36) B dX12_reads_36 0 rfl rfl ?_
          refine zk_cvm (pc := 37) (k' := 0) (n' := 0) B rfl rfl (Nat.le_of_ble_eq_true rfl) (Nat.le_of_ble_eq_true rfl) (fun b hb => zr_V B hR kV_yX12_closes km_12_484 kx_12 (gModel_s ha) [] rfl rfl (Nat.le_of_ble_eq_true rfl) dX12_reads_37 (m_Model_closes hX ha M7 b hb) ⟨Nat.le_of_ble_eq_true rfl, Nat.le_of_ble_eq_true rfl⟩ ⟨Nat.le_of_ble_eq_true rfl, Nat.le_of_ble_eq_true rfl⟩) (fun M9 => ?_)
          refine zk_aload_n (pc := 40) B dX12_reads_40 0 rfl rfl ?_
          refine zk_ldc2 (pc := 41) B kl_12_487 dX12_reads_41 ?_
          refine zk_cpi (pc := 44) (k' := 0) (n' := 0) B rfl rfl (Nat.le_of_ble_eq_true rfl) (Nat.le_of_ble_eq_true rfl) (fun b hb => zr_V B hR kV_yX12_isWord km_12_187 kx_12 (gModel_s ha) [.long 1111] rfl rfl (Nat.le_of_ble_eq_true rfl) dX12_reads_44 (m_Model_isWord hX ha 1111 M9 b hb) ⟨Nat.le_of_ble_eq_true rfl, Nat.le_of_ble_eq_true rfl⟩ ⟨Nat.le_of_ble_eq_true rfl, Nat.le_of_ble_eq_true rfl⟩) (fun x10 _ => ?_)
          refine zk_if_eq (tgt := 55) (pc := 47) B dX12_reads_47 (by decide) (fun _ => ?_) (fun _ => ?_)
          · refine zk_aload_n (pc := 55) B dX12_reads_55 0 rfl rfl ?_
            refine zk_ldc2 (pc := 56) B kl_12_489 dX12_reads_56 ?_
            refine zk_cpi (pc := 59) (k' := 0) (n' := 0) B rfl rfl (Nat.le_of_ble_eq_true rfl) (Nat.le_of_ble_eq_true rfl) (fun b hb => zr_V B hR kV_yX12_isWord km_12_187 kx_12 (gModel_s ha) [.long 423] rfl rfl (Nat.le_of_ble_eq_true rfl) dX12_reads_59 (m_Model_isWord hX ha 423 M9 b hb) ⟨Nat.le_of_ble_eq_true rfl, Nat.le_of_ble_eq_true rfl⟩ ⟨Nat.le_of_ble_eq_true rfl, Nat.le_of_ble_eq_true rfl⟩) (fun x11 _ => ?_)
            refine zk_if_eq (tgt := 70) (pc := 62) B dX12_reads_62 (by decide) (fun _ => ?_) (fun _ => ?_)
            · refine zk_iconst (v := 0) (pc := 70) B dX12_reads_70 (by decide) ?_
              refine zk_sub [0] rfl ?_
              exact J71 0 M9
            · refine zk_bipush (v := 25) (pc := 65) B dX12_reads_65 (by decide) ?_
              refine zk_goto (tgt := 71) (pc := 67) B dX12_reads_67 (by decide) ?_
              refine zk_sub [0] rfl ?_
              exact J71 25 M9
          · refine zk_bipush (v := 24) (pc := 50) B dX12_reads_50 (by decide) ?_
            refine zk_goto (tgt := 71) (pc := 52) B dX12_reads_52 (by decide) ?_
            refine zk_sub [0] rfl ?_
            exact J71 24 M9
        · exact zk_vret (pc := 35) B dX12_reads_35 rfl (Nat.le_of_ble_eq_true rfl) (Nat.le_of_ble_eq_true rfl) rfl
  show z_K X F 3 0 0 G z_cvm b 0 0 0 [(0, .ref a)] [] M (F_Model_reads a M)
  unfold F_Model_reads
  refine zk_aload_n (pc := 0) B dX12_reads_0 0 rfl rfl ?_
  refine zk_iconst (v := 0) (pc := 1) B dX12_reads_1 (by decide) ?_
  refine zk_puti (pc := 2) B kx_12 (gModel_s ha) 51 (by decide) kf_12_432 rfl rfl rfl rfl dX12_reads_2 ?_
  refine zk_lm (fun M1 => ?_)
  refine zk_aload_n (pc := 5) B dX12_reads_5 0 rfl rfl ?_
  refine zk_iconst (v := 0) (pc := 6) B dX12_reads_6 (by decide) ?_
  refine zk_puti (pc := 7) B kx_12 (gModel_s ha) 53 (by decide) kf_12_458 rfl rfl rfl rfl dX12_reads_7 ?_
  refine zk_lm (fun M2 => ?_)
  refine zk_aload_n (pc := 10) B dX12_reads_10 0 rfl rfl ?_
  refine zk_iconst (v := 0) (pc := 11) B dX12_reads_11 (by decide) ?_
  refine zk_puti (pc := 12) B kx_12 (gModel_s ha) 52 (by decide) kf_12_461 rfl rfl rfl rfl dX12_reads_12 ?_
  refine zk_lm (fun M3 => ?_)
  refine zk_aload_n (pc := 15) B dX12_reads_15 0 rfl rfl ?_
  refine zk_cpi (pc := 16) (k' := 0) (n' := 0) B rfl rfl (Nat.le_of_ble_eq_true rfl) (Nat.le_of_ble_eq_true rfl) (fun b hb => zr_V B hR kV_yX12_isGood km_12_183 kx_12 (gModel_s ha) [] rfl rfl (Nat.le_of_ble_eq_true rfl) dX12_reads_16 (m_Model_isGood hX ha M3 b hb) ⟨Nat.le_of_ble_eq_true rfl, Nat.le_of_ble_eq_true rfl⟩ ⟨Nat.le_of_ble_eq_true rfl, Nat.le_of_ble_eq_true rfl⟩) (fun x4 _ => ?_)
  refine zk_istore_n (loc' := [(1, .int x4), (0, .ref a)]) (pc := 19) B dX12_reads_19 rfl (by decide) rfl ?_
  refine zk_sub [1, 0] rfl ?_
  exact L20 10000 x4 M3
set_option maxHeartbeats 4000000 in
set_option maxRecDepth 100000 in
theorem m_Model_propertyOf {X : z_X} (hX : z_ok X) {G : z_Gr} {a : Nat} (ha : g_Model G a) (p0 : Int32) (p1 : Int32) (M : z_Mem) (b : Int32) (h : F_Model_propertyOf a p0 p1 M = some b) : z_Ct X yX12_propertyOf cX12_propertyOf 3 (some .int) ({ frames := 1, cells := 0, slots := 0, locals := 22 } : Room) [.ref a, .int p0, .int p1] G M (fun o9 G9 M9 => G9 = G ∧ (o9, M9) = (z_ci M) b) := by
  refine z_enter hX (by decide) (Nat.le_of_ble_eq_true rfl) h (fun F B hR => ?_)
  show z_K X F 3 0 0 G (z_ci M) b 0 0 0 [(0, .ref a), (1, .int p0), (2, .int p1)] [] M (F_Model_propertyOf a p0 p1 M)
  unfold F_Model_propertyOf
  refine zk_iload_n (pc := 0) B dX12_propertyOf_0 1 rfl rfl ?_
  refine zk_if (fun hs => zk_tin (v := 0) (tgt := 48) (pc := 1) B dX12_propertyOf_1 hs (by decide) (by decide) rfl (by decide) ?_) (fun hn1_0 => ?_)
  · refine zk_iload_n (pc := 48) B dX12_propertyOf_48 2 rfl rfl ?_
    exact zk_iret (pc := 49) B dX12_propertyOf_49 rfl rfl (Nat.le_of_ble_eq_true rfl) (Nat.le_of_ble_eq_true rfl) rfl
  · refine zk_if (fun hs => zk_tin (v := 1) (tgt := 50) (pc := 1) B dX12_propertyOf_1 hs (by decide) (by decide) rfl (by decide) ?_) (fun hn1_1 => ?_)
    · refine zk_aload_n (pc := 50) B dX12_propertyOf_50 0 rfl rfl ?_
      refine zk_iload_n (pc := 51) B dX12_propertyOf_51 2 rfl rfl ?_
      refine zk_iconst (v := 0) (pc := 52) B dX12_propertyOf_52 (by decide) ?_
      refine zk_cpi (pc := 53) (k' := 0) (n' := 0) B rfl rfl (Nat.le_of_ble_eq_true rfl) (Nat.le_of_ble_eq_true rfl) (fun b hb => zr_V B hR kV_yX12_of km_12_274 kx_12 (gModel_s ha) [.int p1, .int 0] rfl rfl (Nat.le_of_ble_eq_true rfl) dX12_propertyOf_53 (m_Model_of hX ha p1 0 M b hb) ⟨Nat.le_of_ble_eq_true rfl, Nat.le_of_ble_eq_true rfl⟩ ⟨Nat.le_of_ble_eq_true rfl, Nat.le_of_ble_eq_true rfl⟩) (fun x8 _ => ?_)
      exact zk_iret (pc := 56) B dX12_propertyOf_56 rfl rfl (Nat.le_of_ble_eq_true rfl) (Nat.le_of_ble_eq_true rfl) rfl
    · refine zk_if (fun hs => zk_tin (v := 2) (tgt := 57) (pc := 1) B dX12_propertyOf_1 hs (by decide) (by decide) rfl (by decide) ?_) (fun hn1_2 => ?_)
      · refine zk_aload_n (pc := 57) B dX12_propertyOf_57 0 rfl rfl ?_
        refine zk_iload_n (pc := 58) B dX12_propertyOf_58 2 rfl rfl ?_
        refine zk_iconst (v := 1) (pc := 59) B dX12_propertyOf_59 (by decide) ?_
        refine zk_cpi (pc := 60) (k' := 0) (n' := 0) B rfl rfl (Nat.le_of_ble_eq_true rfl) (Nat.le_of_ble_eq_true rfl) (fun b hb => zr_V B hR kV_yX12_of km_12_274 kx_12 (gModel_s ha) [.int p1, .int 1] rfl rfl (Nat.le_of_ble_eq_true rfl) dX12_propertyOf_60 (m_Model_of hX ha p1 1 M b hb) ⟨Nat.le_of_ble_eq_true rfl, Nat.le_of_ble_eq_true rfl⟩ ⟨Nat.le_of_ble_eq_true rfl, Nat.le_of_ble_eq_true rfl⟩) (fun x7 _ => ?_)
        exact zk_iret (pc := 63) B dX12_propertyOf_63 rfl rfl (Nat.le_of_ble_eq_true rfl) (Nat.le_of_ble_eq_true rfl) rfl
      · refine zk_if (fun hs => zk_tin (v := 3) (tgt := 64) (pc := 1) B dX12_propertyOf_1 hs (by decide) (by decide) rfl (by decide) ?_) (fun hn1_3 => ?_)
        · refine zk_aload_n (pc := 64) B dX12_propertyOf_64 0 rfl rfl ?_
          refine zk_iload_n (pc := 65) B dX12_propertyOf_65 2 rfl rfl ?_
          refine zk_iconst (v := 2) (pc := 66) B dX12_propertyOf_66 (by decide) ?_
          refine zk_cpi (pc := 67) (k' := 0) (n' := 0) B rfl rfl (Nat.le_of_ble_eq_true rfl) (Nat.le_of_ble_eq_true rfl) (fun b hb => zr_V B hR kV_yX12_of km_12_274 kx_12 (gModel_s ha) [.int p1, .int 2] rfl rfl (Nat.le_of_ble_eq_true rfl) dX12_propertyOf_67 (m_Model_of hX ha p1 2 M b hb) ⟨Nat.le_of_ble_eq_true rfl, Nat.le_of_ble_eq_true rfl⟩ ⟨Nat.le_of_ble_eq_true rfl, Nat.le_of_ble_eq_true rfl⟩) (fun x6 _ => ?_)
          exact zk_iret (pc := 70) B dX12_propertyOf_70 rfl rfl (Nat.le_of_ble_eq_true rfl) (Nat.le_of_ble_eq_true rfl) rfl
        · refine zk_if (fun hs => zk_tin (v := 4) (tgt := 71) (pc := 1) B dX12_propertyOf_1 hs (by decide) (by decide) rfl (by decide) ?_) (fun hn1_4 => ?_)
          · refine zk_aload_n (pc := 71) B dX12_propertyOf_71 0 rfl rfl ?_
            refine zk_iload_n (pc := 72) B dX12_propertyOf_72 2 rfl rfl ?_
            refine zk_iconst (v := 3) (pc := 73) B dX12_propertyOf_73 (by decide) ?_
            refine zk_cpi (pc := 74) (k' := 0) (n' := 0) B rfl rfl (Nat.le_of_ble_eq_true rfl) (Nat.le_of_ble_eq_true rfl) (fun b hb => zr_V B hR kV_yX12_of km_12_274 kx_12 (gModel_s ha) [.int p1, .int 3] rfl rfl (Nat.le_of_ble_eq_true rfl) dX12_propertyOf_74 (m_Model_of hX ha p1 3 M b hb) ⟨Nat.le_of_ble_eq_true rfl, Nat.le_of_ble_eq_true rfl⟩ ⟨Nat.le_of_ble_eq_true rfl, Nat.le_of_ble_eq_true rfl⟩) (fun x5 _ => ?_)
            exact zk_iret (pc := 77) B dX12_propertyOf_77 rfl rfl (Nat.le_of_ble_eq_true rfl) (Nat.le_of_ble_eq_true rfl) rfl
          · refine zk_if (fun hs => zk_tin (v := 5) (tgt := 78) (pc := 1) B dX12_propertyOf_1 hs (by decide) (by decide) rfl (by decide) ?_) (fun hn1_5 => ?_)
            · refine zk_aload_n (pc := 78) B dX12_propertyOf_78 0 rfl rfl ?_
              refine zk_iload_n (pc := 79) B dX12_propertyOf_79 2 rfl rfl ?_
              refine zk_iconst (v := 4) (pc := 80) B dX12_propertyOf_80 (by decide) ?_
              refine zk_cpi (pc := 81) (k' := 0) (n' := 0) B rfl rfl (Nat.le_of_ble_eq_true rfl) (Nat.le_of_ble_eq_true rfl) (fun b hb => zr_V B hR kV_yX12_of km_12_274 kx_12 (gModel_s ha) [.int p1, .int 4] rfl rfl (Nat.le_of_ble_eq_true rfl) dX12_propertyOf_81 (m_Model_of hX ha p1 4 M b hb) ⟨Nat.le_of_ble_eq_true rfl, Nat.le_of_ble_eq_true rfl⟩ ⟨Nat.le_of_ble_eq_true rfl, Nat.le_of_ble_eq_true rfl⟩) (fun x4 _ => ?_)
              exact zk_iret (pc := 84) B dX12_propertyOf_84 rfl rfl (Nat.le_of_ble_eq_true rfl) (Nat.le_of_ble_eq_true rfl) rfl
            · refine zk_if (fun hs => zk_tin (v := 6) (tgt := 85) (pc := 1) B dX12_propertyOf_1 hs (by decide) (by decide) rfl (by decide) ?_) (fun hn1_6 => ?_)
              · refine zk_aload_n (pc := 85) B dX12_propertyOf_85 0 rfl rfl ?_
                refine zk_iload_n (pc := 86) B dX12_propertyOf_86 2 rfl rfl ?_
                refine zk_bipush (v := 6) (pc := 87) B dX12_propertyOf_87 (by decide) ?_
                refine zk_cpi (pc := 89) (k' := 0) (n' := 0) B rfl rfl (Nat.le_of_ble_eq_true rfl) (Nat.le_of_ble_eq_true rfl) (fun b hb => zr_V B hR kV_yX12_of km_12_274 kx_12 (gModel_s ha) [.int p1, .int 6] rfl rfl (Nat.le_of_ble_eq_true rfl) dX12_propertyOf_89 (m_Model_of hX ha p1 6 M b hb) ⟨Nat.le_of_ble_eq_true rfl, Nat.le_of_ble_eq_true rfl⟩ ⟨Nat.le_of_ble_eq_true rfl, Nat.le_of_ble_eq_true rfl⟩) (fun x3 _ => ?_)
                exact zk_iret (pc := 92) B dX12_propertyOf_92 rfl rfl (Nat.le_of_ble_eq_true rfl) (Nat.le_of_ble_eq_true rfl) rfl
              · refine zk_if (fun hs => zk_tin (v := 7) (tgt := 93) (pc := 1) B dX12_propertyOf_1 hs (by decide) (by decide) rfl (by decide) ?_) (fun hn1_7 => ?_)
                · refine zk_aload_n (pc := 93) B dX12_propertyOf_93 0 rfl rfl ?_
                  refine zk_iload_n (pc := 94) B dX12_propertyOf_94 2 rfl rfl ?_
                  refine zk_bipush (v := 10) (pc := 95) B dX12_propertyOf_95 (by decide) ?_
                  refine zk_cpi (pc := 97) (k' := 0) (n' := 0) B rfl rfl (Nat.le_of_ble_eq_true rfl) (Nat.le_of_ble_eq_true rfl) (fun b hb => zr_V B hR kV_yX12_of km_12_274 kx_12 (gModel_s ha) [.int p1, .int 10] rfl rfl (Nat.le_of_ble_eq_true rfl) dX12_propertyOf_97 (m_Model_of hX ha p1 10 M b hb) ⟨Nat.le_of_ble_eq_true rfl, Nat.le_of_ble_eq_true rfl⟩ ⟨Nat.le_of_ble_eq_true rfl, Nat.le_of_ble_eq_true rfl⟩) (fun x2 _ => ?_)
                  exact zk_iret (pc := 100) B dX12_propertyOf_100 rfl rfl (Nat.le_of_ble_eq_true rfl) (Nat.le_of_ble_eq_true rfl) rfl
                · refine zk_tout (pc := 1)  (tgt := 101) B dX12_propertyOf_1 (by have q0 := z_ne hn1_0 (z := 0) (by decide); have q1 := z_ne hn1_1 (z := 1) (by decide); have q2 := z_ne hn1_2 (z := 2) (by decide); have q3 := z_ne hn1_3 (z := 3) (by decide); have q4 := z_ne hn1_4 (z := 4) (by decide); have q5 := z_ne hn1_5 (z := 5) (by decide); have q6 := z_ne hn1_6 (z := 6) (by decide); have q7 := z_ne hn1_7 (z := 7) (by decide); omega) (by decide) ?_
                  refine zk_aload_n (pc := 101) B dX12_propertyOf_101 0 rfl rfl ?_
                  refine zk_iload_n (pc := 102) B dX12_propertyOf_102 2 rfl rfl ?_
                  refine zk_bipush (v := 7) (pc := 103) B dX12_propertyOf_103 (by decide) ?_
                  refine zk_cpi (pc := 105) (k' := 0) (n' := 0) B rfl rfl (Nat.le_of_ble_eq_true rfl) (Nat.le_of_ble_eq_true rfl) (fun b hb => zr_V B hR kV_yX12_of km_12_274 kx_12 (gModel_s ha) [.int p1, .int 7] rfl rfl (Nat.le_of_ble_eq_true rfl) dX12_propertyOf_105 (m_Model_of hX ha p1 7 M b hb) ⟨Nat.le_of_ble_eq_true rfl, Nat.le_of_ble_eq_true rfl⟩ ⟨Nat.le_of_ble_eq_true rfl, Nat.le_of_ble_eq_true rfl⟩) (fun x1 _ => ?_)
                  refine zk_iconst (v := 1) (pc := 108) B dX12_propertyOf_108 (by decide) ?_
                  refine zk_iadd (pc := 109) B dX12_propertyOf_109 ?_
                  exact zk_iret (pc := 110) B dX12_propertyOf_110 rfl rfl (Nat.le_of_ble_eq_true rfl) (Nat.le_of_ble_eq_true rfl) rfl
set_option maxHeartbeats 4000000 in
set_option maxRecDepth 100000 in
theorem m_Model_joined {X : z_X} (hX : z_ok X) {G : z_Gr} (p0 : Int32) (p1 : Int32) (p2 : Int32) (M : z_Mem) (b : Int32) (h : F_Model_joined p0 p1 p2 M = some b) : z_Ct X yX12_joined cX12_joined 3 (some .boolean) ({ frames := 0, cells := 0, slots := 0, locals := 0 } : Room) [.int p0, .int p1, .int p2] G M (fun o9 G9 M9 => G9 = G ∧ (o9, M9) = (z_ci M) b) := by
  refine z_enter hX (by decide) (Nat.le_of_ble_eq_true rfl) h (fun F B hR => ?_)
  show z_K X F 3 0 0 G (z_ci M) b 0 0 0 [(0, .int p0), (1, .int p1), (2, .int p2)] [] M (F_Model_joined p0 p1 p2 M)
  unfold F_Model_joined
  refine zk_iload_n (pc := 0) B dX12_joined_0 0 rfl rfl ?_
  refine zk_if (fun hs => zk_tin (v := 20) (tgt := 36) (pc := 1) B dX12_joined_1 hs (by decide) (by decide) rfl (by decide) ?_) (fun hn1_0 => ?_)
  · refine zk_iload_n (pc := 36) B dX12_joined_36 1 rfl rfl ?_
    refine zk_iload_n (pc := 37) B dX12_joined_37 2 rfl rfl ?_
    refine zk_icmp_ge (tgt := 45) (pc := 38) B dX12_joined_38 (by decide) (fun _ => ?_) (fun _ => ?_)
    · refine zk_iconst (v := 0) (pc := 45) B dX12_joined_45 (by decide) ?_
      exact zk_iret (pc := 46) B dX12_joined_46 rfl rfl (Nat.le_of_ble_eq_true rfl) (Nat.le_of_ble_eq_true rfl) rfl
    · refine zk_iconst (v := 1) (pc := 41) B dX12_joined_41 (by decide) ?_
      refine zk_goto (tgt := 46) (pc := 42) B dX12_joined_42 (by decide) ?_
      exact zk_iret (pc := 46) B dX12_joined_46 rfl rfl (Nat.le_of_ble_eq_true rfl) (Nat.le_of_ble_eq_true rfl) rfl
  · refine zk_if (fun hs => zk_tin (v := 21) (tgt := 47) (pc := 1) B dX12_joined_1 hs (by decide) (by decide) rfl (by decide) ?_) (fun hn1_1 => ?_)
    · refine zk_iload_n (pc := 47) B dX12_joined_47 1 rfl rfl ?_
      refine zk_iload_n (pc := 48) B dX12_joined_48 2 rfl rfl ?_
      refine zk_icmp_ne (tgt := 56) (pc := 49) B dX12_joined_49 (by decide) (fun _ => ?_) (fun _ => ?_)
      · refine zk_iconst (v := 0) (pc := 56) B dX12_joined_56 (by decide) ?_
        exact zk_iret (pc := 57) B dX12_joined_57 rfl rfl (Nat.le_of_ble_eq_true rfl) (Nat.le_of_ble_eq_true rfl) rfl
      · refine zk_iconst (v := 1) (pc := 52) B dX12_joined_52 (by decide) ?_
        refine zk_goto (tgt := 57) (pc := 53) B dX12_joined_53 (by decide) ?_
        exact zk_iret (pc := 57) B dX12_joined_57 rfl rfl (Nat.le_of_ble_eq_true rfl) (Nat.le_of_ble_eq_true rfl) rfl
    · refine zk_if (fun hs => zk_tin (v := 22) (tgt := 58) (pc := 1) B dX12_joined_1 hs (by decide) (by decide) rfl (by decide) ?_) (fun hn1_2 => ?_)
      · refine zk_iload_n (pc := 58) B dX12_joined_58 1 rfl rfl ?_
        refine zk_iload_n (pc := 59) B dX12_joined_59 2 rfl rfl ?_
        refine zk_icmp_le (tgt := 67) (pc := 60) B dX12_joined_60 (by decide) (fun _ => ?_) (fun _ => ?_)
        · refine zk_iconst (v := 0) (pc := 67) B dX12_joined_67 (by decide) ?_
          exact zk_iret (pc := 68) B dX12_joined_68 rfl rfl (Nat.le_of_ble_eq_true rfl) (Nat.le_of_ble_eq_true rfl) rfl
        · refine zk_iconst (v := 1) (pc := 63) B dX12_joined_63 (by decide) ?_
          refine zk_goto (tgt := 68) (pc := 64) B dX12_joined_64 (by decide) ?_
          exact zk_iret (pc := 68) B dX12_joined_68 rfl rfl (Nat.le_of_ble_eq_true rfl) (Nat.le_of_ble_eq_true rfl) rfl
      · refine zk_if (fun hs => zk_tin (v := 23) (tgt := 82) (pc := 1) B dX12_joined_1 hs (by decide) (by decide) rfl (by decide) ?_) (fun hn1_3 => ?_)
        · refine zk_iload_n (pc := 82) B dX12_joined_82 1 rfl rfl ?_
          refine zk_iload_n (pc := 83) B dX12_joined_83 2 rfl rfl ?_
          refine zk_iadd (pc := 84) B dX12_joined_84 ?_
          refine zk_if_le (tgt := 92) (pc := 85) B dX12_joined_85 (by decide) (fun _ => ?_) (fun _ => ?_)
          · refine zk_iconst (v := 0) (pc := 92) B dX12_joined_92 (by decide) ?_
            exact zk_iret (pc := 93) B dX12_joined_93 rfl rfl (Nat.le_of_ble_eq_true rfl) (Nat.le_of_ble_eq_true rfl) rfl
          · refine zk_iconst (v := 1) (pc := 88) B dX12_joined_88 (by decide) ?_
            refine zk_goto (tgt := 93) (pc := 89) B dX12_joined_89 (by decide) ?_
            exact zk_iret (pc := 93) B dX12_joined_93 rfl rfl (Nat.le_of_ble_eq_true rfl) (Nat.le_of_ble_eq_true rfl) rfl
        · refine zk_if (fun hs => zk_tin (v := 24) (tgt := 69) (pc := 1) B dX12_joined_1 hs (by decide) (by decide) rfl (by decide) ?_) (fun hn1_4 => ?_)
          · refine zk_iload_n (pc := 69) B dX12_joined_69 1 rfl rfl ?_
            refine zk_iload_n (pc := 70) B dX12_joined_70 2 rfl rfl ?_
            refine zk_iadd (pc := 71) B dX12_joined_71 ?_
            refine zk_iconst (v := 2) (pc := 72) B dX12_joined_72 (by decide) ?_
            refine zk_icmp_ne (tgt := 80) (pc := 73) B dX12_joined_73 (by decide) (fun _ => ?_) (fun _ => ?_)
            · refine zk_iconst (v := 0) (pc := 80) B dX12_joined_80 (by decide) ?_
              exact zk_iret (pc := 81) B dX12_joined_81 rfl rfl (Nat.le_of_ble_eq_true rfl) (Nat.le_of_ble_eq_true rfl) rfl
            · refine zk_iconst (v := 1) (pc := 76) B dX12_joined_76 (by decide) ?_
              refine zk_goto (tgt := 81) (pc := 77) B dX12_joined_77 (by decide) ?_
              exact zk_iret (pc := 81) B dX12_joined_81 rfl rfl (Nat.le_of_ble_eq_true rfl) (Nat.le_of_ble_eq_true rfl) rfl
          · refine zk_tout (pc := 1)  (tgt := 82) B dX12_joined_1 (by have q0 := z_ne hn1_0 (z := 20) (by decide); have q1 := z_ne hn1_1 (z := 21) (by decide); have q2 := z_ne hn1_2 (z := 22) (by decide); have q3 := z_ne hn1_3 (z := 23) (by decide); have q4 := z_ne hn1_4 (z := 24) (by decide); omega) (by decide) ?_
            refine zk_iload_n (pc := 82) B dX12_joined_82 1 rfl rfl ?_
            refine zk_iload_n (pc := 83) B dX12_joined_83 2 rfl rfl ?_
            refine zk_iadd (pc := 84) B dX12_joined_84 ?_
            refine zk_if_le (tgt := 92) (pc := 85) B dX12_joined_85 (by decide) (fun _ => ?_) (fun _ => ?_)
            · refine zk_iconst (v := 0) (pc := 92) B dX12_joined_92 (by decide) ?_
              exact zk_iret (pc := 93) B dX12_joined_93 rfl rfl (Nat.le_of_ble_eq_true rfl) (Nat.le_of_ble_eq_true rfl) rfl
            · refine zk_iconst (v := 1) (pc := 88) B dX12_joined_88 (by decide) ?_
              refine zk_goto (tgt := 93) (pc := 89) B dX12_joined_89 (by decide) ?_
              exact zk_iret (pc := 93) B dX12_joined_93 rfl rfl (Nat.le_of_ble_eq_true rfl) (Nat.le_of_ble_eq_true rfl) rfl
set_option maxHeartbeats 4000000 in
set_option maxRecDepth 100000 in
theorem m_Model_holds {X : z_X} (hX : z_ok X) {G : z_Gr} {a : Nat} (ha : g_Model G a) (p0 : Int32) (M : z_Mem) (b : Int32 × z_Mem) (h : F_Model_holds a p0 M = some b) : z_Ct X yX12_holds cX12_holds 5 (some .boolean) ({ frames := 2, cells := 0, slots := 0, locals := 44 } : Room) [.ref a, .int p0] G M (fun o9 G9 M9 => G9 = G ∧ (o9, M9) = z_cim b) := by
  refine z_enter hX (by decide) (Nat.le_of_ble_eq_true rfl) h (fun F B hR => ?_)
  have L4 : ∀ (nf4 : Nat), ∀ (v1 : Int32) (v2 : Int32) (v3 : Int32) (M : z_Mem), z_K X F 5 0 0 G z_cim b 0 0 4 [(0, .ref a), (1, .int v1), (2, .int v2), (3, .int v3)] [] M (F_Model_holds_L4 a nf4 v1 v2 v3 M) := by
    intro nf4
    induction nf4 with
    | zero => intro v1 v2 v3 M; exact zk_none
    | succ nf4 ih4 =>
      have J131 : ∀ (v1 : Int32) (v2 : Int32) (v3 : Int32) (s0 : Int32) (s1 : Int32) (M : z_Mem), z_K X F 5 0 0 G z_cim b 0 0 131 [(0, .ref a), (1, .int v1), (2, .int v2), (3, .int v3)] [.int s0, .int s1, .ref (a + 24)] M (F_Model_holds_J131 a (F_Model_holds_L4 a nf4) v1 v2 v3 s0 s1 M) := by
        intro v1 v2 v3 s0 s1 M
        unfold F_Model_holds_J131
        refine zk_iast (pc := 131) B (gModel_t50 ha) dX12_holds_131 ?_
        refine zk_lm (fun M8 => ?_)
        refine zk_iinc (y := 1) (lf := fun x9 => [(2, .int x9), (0, .ref a), (1, .int v1), (3, .int v3)]) (pc := 132) B dX12_holds_132 2 rfl (by decide) (by decide) (fun _ => rfl) (fun x9 => ?_)
        refine zk_iinc (y := 1) (lf := fun x10 => [(3, .int x10), (2, .int x9), (0, .ref a), (1, .int v1)]) (pc := 135) B dX12_holds_135 3 rfl (by decide) (by decide) (fun _ => rfl) (fun x10 => ?_)
        refine zk_goto (tgt := 4) (pc := 138) B dX12_holds_138 (by decide) ?_
        refine zk_sub [2, 3, 1, 0] rfl ?_
        exact ih4 v1 x9 x10 M8
      have J100 : ∀ (v1 : Int32) (v2 : Int32) (v3 : Int32) (s0 : Int32) (s1 : Int32) (M : z_Mem), z_K X F 5 0 0 G z_cim b 0 0 100 [(0, .ref a), (1, .int v1), (2, .int v2), (3, .int v3)] [.int s0, .int s1, .ref (a + 24)] M (F_Model_holds_J100 a (F_Model_holds_L4 a nf4) v1 v2 v3 s0 s1 M) := by
        intro v1 v2 v3 s0 s1 M
        unfold F_Model_holds_J100
        refine zk_iast (pc := 100) B (gModel_t50 ha) dX12_holds_100 ?_
        refine zk_lm (fun M11 => ?_)
        refine zk_goto (tgt := 135) (pc := 101) B dX12_holds_101 (by decide) ?_
        refine zk_iinc (y := 1) (lf := fun x12 => [(3, .int x12), (0, .ref a), (1, .int v1), (2, .int v2)]) (pc := 135) B dX12_holds_135 3 rfl (by decide) (by decide) (fun _ => rfl) (fun x12 => ?_)
        refine zk_goto (tgt := 4) (pc := 138) B dX12_holds_138 (by decide) ?_
        refine zk_sub [1, 2, 3, 0] rfl ?_
        exact ih4 v1 v2 x12 M11
      intro v1 v2 v3 M
      show z_K X F 5 0 0 G z_cim b 0 0 4 [(0, .ref a), (1, .int v1), (2, .int v2), (3, .int v3)] [] M (F_Model_holds_B4 a (F_Model_holds_L4 a nf4) v1 v2 v3 M)
      unfold F_Model_holds_B4
      refine zk_iload_n (pc := 4) B dX12_holds_4 3 rfl rfl ?_
      refine zk_aload_n (pc := 5) B dX12_holds_5 0 rfl rfl ?_
      refine zk_geti (pc := 6) B kx_12 (gModel_s ha) 51 (by decide) kf_12_432 rfl dX12_holds_6 ?_
      refine zk_icmp_ge (tgt := 141) (pc := 9) B dX12_holds_9 (by decide) (fun _ => ?_) (fun _ => ?_)
      · refine zk_aload_n (pc := 141) B dX12_holds_141 0 rfl rfl ?_
        refine zk_getr (pc := 142) B kx_12 (gModel_s ha) 50 (by decide) kf_12_84 rfl (gModel_f50 ha) dX12_holds_142 ?_
        refine zk_iconst (v := 0) (pc := 145) B dX12_holds_145 (by decide) ?_
        refine zk_iald (pc := 146) B (gModel_t50 ha) dX12_holds_146 ?_
        refine zk_iconst (v := 1) (pc := 147) B dX12_holds_147 (by decide) ?_
        refine zk_icmp_ne (tgt := 155) (pc := 148) B dX12_holds_148 (by decide) (fun _ => ?_) (fun _ => ?_)
        · refine zk_iconst (v := 0) (pc := 155) B dX12_holds_155 (by decide) ?_
          exact zk_iret (pc := 156) B dX12_holds_156 rfl rfl (Nat.le_of_ble_eq_true rfl) (Nat.le_of_ble_eq_true rfl) rfl
        · refine zk_iconst (v := 1) (pc := 151) B dX12_holds_151 (by decide) ?_
          refine zk_goto (tgt := 156) (pc := 152) B dX12_holds_152 (by decide) ?_
          exact zk_iret (pc := 156) B dX12_holds_156 rfl rfl (Nat.le_of_ble_eq_true rfl) (Nat.le_of_ble_eq_true rfl) rfl
      · refine zk_aload_n (pc := 12) B dX12_holds_12 0 rfl rfl ?_
        refine zk_getr (pc := 13) B kx_12 (gModel_s ha) 48 (by decide) kf_12_78 rfl (gModel_f48 ha) dX12_holds_13 ?_
        refine zk_iload_n (pc := 16) B dX12_holds_16 3 rfl rfl ?_
        refine zk_iald (pc := 17) B (gModel_t48 ha) dX12_holds_17 ?_
        refine zk_li (fun x1 => ?_)
        refine zk_istore (loc' := [(4, .int x1), (0, .ref a), (1, .int v1), (2, .int v2), (3, .int v3)]) (pc := 18) B dX12_holds_18 (by decide) rfl ?_
        refine zk_iload (pc := 20) B dX12_holds_20 0 rfl ?_
        refine zk_bipush (v := 23) (pc := 22) B dX12_holds_22 (by decide) ?_
        refine zk_icmp_ne (tgt := 48) (pc := 24) B dX12_holds_24 (by decide) (fun _ => ?_) (fun _ => ?_)
        · refine zk_iload (pc := 48) B dX12_holds_48 0 rfl ?_
          refine zk_i2l (pc := 50) B dX12_holds_50 ?_
          refine zk_ldc2 (pc := 51) B kl_12_491 dX12_holds_51 ?_
          refine zk_ldc2 (pc := 54) B kl_12_493 dX12_holds_54 ?_
          refine zk_cpi (pc := 57) (k' := 0) (n' := 0) B rfl rfl (Nat.le_of_ble_eq_true rfl) (Nat.le_of_ble_eq_true rfl) (fun b hb => zr_S B hR kS_yX12_in km_12_197 [.long x1.toInt64, .long 20, .long 25] rfl rfl (Nat.le_of_ble_eq_true rfl) dX12_holds_57 (m_Model_in hX x1.toInt64 20 25 M b hb) ⟨Nat.le_of_ble_eq_true rfl, Nat.le_of_ble_eq_true rfl⟩ ⟨Nat.le_of_ble_eq_true rfl, Nat.le_of_ble_eq_true rfl⟩) (fun x2 _ => ?_)
          refine zk_if_eq (tgt := 104) (pc := 60) B dX12_holds_60 (by decide) (fun _ => ?_) (fun _ => ?_)
          · refine zk_aload_n (pc := 104) B dX12_holds_104 1 rfl rfl ?_
            refine zk_getr (pc := 105) B kx_12 (gModel_s ha) 50 (by decide) kf_12_84 rfl (gModel_f50 ha) dX12_holds_105 ?_
            refine zk_iload_n (pc := 108) B dX12_holds_108 3 rfl rfl ?_
            refine zk_iload (pc := 109) B dX12_holds_109 0 rfl ?_
            refine zk_bipush (v := 100) (pc := 111) B dX12_holds_111 (by decide) ?_
            refine zk_icmp_lt (tgt := 124) (pc := 113) B dX12_holds_113 (by decide) (fun _ => ?_) (fun _ => ?_)
            · refine zk_aload_n (pc := 124) B dX12_holds_124 1 rfl rfl ?_
              refine zk_iload (pc := 125) B dX12_holds_125 0 rfl ?_
              refine zk_iload_n (pc := 127) B dX12_holds_127 2 rfl rfl ?_
              refine zk_cpi (pc := 128) (k' := 0) (n' := 0) B rfl rfl (Nat.le_of_ble_eq_true rfl) (Nat.le_of_ble_eq_true rfl) (fun b hb => zr_V B hR kV_yX12_propertyOf km_12_499 kx_12 (gModel_s ha) [.int x1, .int v1] rfl rfl (Nat.le_of_ble_eq_true rfl) dX12_holds_128 (m_Model_propertyOf hX ha x1 v1 M b hb) ⟨Nat.le_of_ble_eq_true rfl, Nat.le_of_ble_eq_true rfl⟩ ⟨Nat.le_of_ble_eq_true rfl, Nat.le_of_ble_eq_true rfl⟩) (fun x3 _ => ?_)
              refine zk_sub [1, 2, 3, 4] rfl ?_
              exact J131 v1 v2 v3 x3 v2 M
            · refine zk_iload (pc := 116) B dX12_holds_116 0 rfl ?_
              refine zk_bipush (v := 100) (pc := 118) B dX12_holds_118 (by decide) ?_
              refine zk_isub (pc := 120) B dX12_holds_120 ?_
              refine zk_goto (tgt := 131) (pc := 121) B dX12_holds_121 (by decide) ?_
              refine zk_sub [1, 2, 3, 4] rfl ?_
              exact J131 v1 v2 v3 (x1 - 100) v2 M
          · refine zk_iinc (y := (-1)) (lf := fun x4 => [(2, .int x4), (4, .int x1), (0, .ref a), (1, .int v1), (3, .int v3)]) (pc := 63) B dX12_holds_63 3 rfl (by decide) (by decide) (fun _ => rfl) (fun x4 => ?_)
            refine zk_aload_n (pc := 66) B dX12_holds_66 2 rfl rfl ?_
            refine zk_getr (pc := 67) B kx_12 (gModel_s ha) 50 (by decide) kf_12_84 rfl (gModel_f50 ha) dX12_holds_67 ?_
            refine zk_iload_n (pc := 70) B dX12_holds_70 0 rfl rfl ?_
            refine zk_iconst (v := 1) (pc := 71) B dX12_holds_71 (by decide) ?_
            refine zk_isub (pc := 72) B dX12_holds_72 ?_
            refine zk_iload (pc := 73) B dX12_holds_73 1 rfl ?_
            refine zk_aload_n (pc := 75) B dX12_holds_75 2 rfl rfl ?_
            refine zk_getr (pc := 76) B kx_12 (gModel_s ha) 50 (by decide) kf_12_84 rfl (gModel_f50 ha) dX12_holds_76 ?_
            refine zk_iload_n (pc := 79) B dX12_holds_79 0 rfl rfl ?_
            refine zk_iconst (v := 1) (pc := 80) B dX12_holds_80 (by decide) ?_
            refine zk_isub (pc := 81) B dX12_holds_81 ?_
            refine zk_iald (pc := 82) B (gModel_t50 ha) dX12_holds_82 ?_
            refine zk_aload_n (pc := 83) B dX12_holds_83 2 rfl rfl ?_
            refine zk_getr (pc := 84) B kx_12 (gModel_s ha) 50 (by decide) kf_12_84 rfl (gModel_f50 ha) dX12_holds_84 ?_
            refine zk_iload_n (pc := 87) B dX12_holds_87 0 rfl rfl ?_
            refine zk_iald (pc := 88) B (gModel_t50 ha) dX12_holds_88 ?_
            refine zk_cpi (pc := 89) (k' := 0) (n' := 0) B rfl rfl (Nat.le_of_ble_eq_true rfl) (Nat.le_of_ble_eq_true rfl) (fun b hb => zr_S B hR kS_yX12_joined km_12_495 [.int x1, .int (M.1 (a + 24) (x4 - 1).toNatClampNeg), .int (M.1 (a + 24) x4.toNatClampNeg)] rfl rfl (Nat.le_of_ble_eq_true rfl) dX12_holds_89 (m_Model_joined hX x1 (M.1 (a + 24) (x4 - 1).toNatClampNeg) (M.1 (a + 24) x4.toNatClampNeg) M b hb) ⟨Nat.le_of_ble_eq_true rfl, Nat.le_of_ble_eq_true rfl⟩ ⟨Nat.le_of_ble_eq_true rfl, Nat.le_of_ble_eq_true rfl⟩) (fun x5 _ => ?_)
            refine zk_if_eq (tgt := 99) (pc := 92) B dX12_holds_92 (by decide) (fun _ => ?_) (fun _ => ?_)
            · refine zk_iconst (v := 0) (pc := 99) B dX12_holds_99 (by decide) ?_
              refine zk_sub [2, 3, 0, 4] rfl ?_
              exact J100 v1 x4 v3 0 (x4 - 1) M
            · refine zk_iconst (v := 1) (pc := 95) B dX12_holds_95 (by decide) ?_
              refine zk_goto (tgt := 100) (pc := 96) B dX12_holds_96 (by decide) ?_
              refine zk_sub [2, 3, 0, 4] rfl ?_
              exact J100 v1 x4 v3 1 (x4 - 1) M
        · refine zk_aload_n (pc := 27) B dX12_holds_27 1 rfl rfl ?_
          refine zk_getr (pc := 28) B kx_12 (gModel_s ha) 50 (by decide) kf_12_84 rfl (gModel_f50 ha) dX12_holds_28 ?_
          refine zk_iload_n (pc := 31) B dX12_holds_31 3 rfl rfl ?_
          refine zk_iconst (v := 1) (pc := 32) B dX12_holds_32 (by decide) ?_
          refine zk_isub (pc := 33) B dX12_holds_33 ?_
          refine zk_iconst (v := 1) (pc := 34) B dX12_holds_34 (by decide) ?_
          refine zk_aload_n (pc := 35) B dX12_holds_35 1 rfl rfl ?_
          refine zk_getr (pc := 36) B kx_12 (gModel_s ha) 50 (by decide) kf_12_84 rfl (gModel_f50 ha) dX12_holds_36 ?_
          refine zk_iload_n (pc := 39) B dX12_holds_39 3 rfl rfl ?_
          refine zk_iconst (v := 1) (pc := 40) B dX12_holds_40 (by decide) ?_
          refine zk_isub (pc := 41) B dX12_holds_41 ?_
          refine zk_iald (pc := 42) B (gModel_t50 ha) dX12_holds_42 ?_
          refine zk_isub (pc := 43) B dX12_holds_43 ?_
          refine zk_iast (pc := 44) B (gModel_t50 ha) dX12_holds_44 ?_
          refine zk_lm (fun M6 => ?_)
          refine zk_goto (tgt := 135) (pc := 45) B dX12_holds_45 (by decide) ?_
          refine zk_iinc (y := 1) (lf := fun x7 => [(3, .int x7), (4, .int x1), (0, .ref a), (1, .int v1), (2, .int v2)]) (pc := 135) B dX12_holds_135 4 rfl (by decide) (by decide) (fun _ => rfl) (fun x7 => ?_)
          refine zk_goto (tgt := 4) (pc := 138) B dX12_holds_138 (by decide) ?_
          refine zk_sub [2, 3, 4, 0] rfl ?_
          exact ih4 v1 v2 x7 M6
  show z_K X F 5 0 0 G z_cim b 0 0 0 [(0, .ref a), (1, .int p0)] [] M (F_Model_holds a p0 M)
  unfold F_Model_holds
  refine zk_iconst (v := 0) (pc := 0) B dX12_holds_0 (by decide) ?_
  refine zk_istore_n (loc' := [(2, .int 0), (0, .ref a), (1, .int p0)]) (pc := 1) B dX12_holds_1 rfl (by decide) rfl ?_
  refine zk_iconst (v := 0) (pc := 2) B dX12_holds_2 (by decide) ?_
  refine zk_istore_n (loc' := [(3, .int 0), (2, .int 0), (0, .ref a), (1, .int p0)]) (pc := 3) B dX12_holds_3 rfl (by decide) rfl ?_
  refine zk_sub [2, 3, 1, 0] rfl ?_
  exact L4 10000 p0 0 0 M
