/-! ===== walks of the reference (by program) ===== -/
set_option maxHeartbeats 4000000 in
set_option maxRecDepth 100000 in
theorem m_Model_begins {X : z_X} (hX : z_ok X) {G : z_Gr} {a : Nat} (ha : g_Model G a) (p0 : Int32) (M : z_Mem) (b : z_Mem) (h : F_Model_begins a p0 M = some b) : z_Ct X yX12_begins cX12_begins 3 none ({ frames := 0, cells := 0, slots := 0, locals := 0 } : Room) [.ref a, .int p0] G M (fun o9 G9 M9 => G9 = G ∧ (o9, M9) = z_cvm b) := by
  refine z_enter hX (by decide) (Nat.le_of_ble_eq_true rfl) h (fun F B hR => ?_)
  have L43 : ∀ (nf43 : Nat), ∀ (v2 : Int32) (M : z_Mem), z_K X F 3 0 0 G z_cvm b 0 0 43 [(0, .ref a), (2, .int v2)] [] M (F_Model_begins_L43 a nf43 v2 M) := by
    intro nf43
    induction nf43 with
    | zero => intro v2 M; exact zk_none
    | succ nf43 ih43 =>
      intro v2 M
      show z_K X F 3 0 0 G z_cvm b 0 0 43 [(0, .ref a), (2, .int v2)] [] M (F_Model_begins_B43 a (F_Model_begins_L43 a nf43) v2 M)
      unfold F_Model_begins_B43
      refine zk_iload_n (pc := 43) B dX12_begins_43 1 rfl rfl ?_
      refine zk_sipush (v := 581) (pc := 44) B dX12_begins_44 (by decide) ?_
      refine zk_icmp_ge (tgt := 63) (pc := 47) B dX12_begins_47 (by decide) (fun _ => ?_) (fun _ => ?_)
      · refine zk_aload_n (pc := 63) B dX12_begins_63 0 rfl rfl ?_
        refine zk_getr (pc := 64) B kx_12 (gModel_s ha) 2 (by decide) kf_12_13 rfl (gModel_f2 ha) dX12_begins_64 ?_
        refine zk_iconst (v := 3) (pc := 67) B dX12_begins_67 (by decide) ?_
        refine zk_bipush (v := 15) (pc := 68) B dX12_begins_68 (by decide) ?_
        refine zk_iast (pc := 70) B (gModel_t2 ha) dX12_begins_70 ?_
        refine zk_lm (fun M7 => ?_)
        refine zk_aload_n (pc := 71) B dX12_begins_71 0 rfl rfl ?_
        refine zk_getr (pc := 72) B kx_12 (gModel_s ha) 2 (by decide) kf_12_13 rfl (gModel_f2 ha) dX12_begins_72 ?_
        refine zk_iconst (v := 4) (pc := 75) B dX12_begins_75 (by decide) ?_
        refine zk_iconst (v := 1) (pc := 76) B dX12_begins_76 (by decide) ?_
        refine zk_iast (pc := 77) B (gModel_t2 ha) dX12_begins_77 ?_
        refine zk_lm (fun M8 => ?_)
        refine zk_aload_n (pc := 78) B dX12_begins_78 0 rfl rfl ?_
        refine zk_getr (pc := 79) B kx_12 (gModel_s ha) 2 (by decide) kf_12_13 rfl (gModel_f2 ha) dX12_begins_79 ?_
        refine zk_iconst (v := 5) (pc := 82) B dX12_begins_82 (by decide) ?_
        refine zk_iconst (v := 5) (pc := 83) B dX12_begins_83 (by decide) ?_
        refine zk_iast (pc := 84) B (gModel_t2 ha) dX12_begins_84 ?_
        refine zk_lm (fun M9 => ?_)
        refine zk_aload_n (pc := 85) B dX12_begins_85 0 rfl rfl ?_
        refine zk_getr (pc := 86) B kx_12 (gModel_s ha) 2 (by decide) kf_12_13 rfl (gModel_f2 ha) dX12_begins_86 ?_
        refine zk_bipush (v := 6) (pc := 89) B dX12_begins_89 (by decide) ?_
        refine zk_iconst (v := 3) (pc := 91) B dX12_begins_91 (by decide) ?_
        refine zk_iast (pc := 92) B (gModel_t2 ha) dX12_begins_92 ?_
        refine zk_lm (fun M10 => ?_)
        refine zk_aload_n (pc := 93) B dX12_begins_93 0 rfl rfl ?_
        refine zk_getr (pc := 94) B kx_12 (gModel_s ha) 2 (by decide) kf_12_13 rfl (gModel_f2 ha) dX12_begins_94 ?_
        refine zk_bipush (v := 8) (pc := 97) B dX12_begins_97 (by decide) ?_
        refine zk_sipush (v := 240) (pc := 99) B dX12_begins_99 (by decide) ?_
        refine zk_iast (pc := 102) B (gModel_t2 ha) dX12_begins_102 ?_
        refine zk_lm (fun M11 => ?_)
        refine zk_aload_n (pc := 103) B dX12_begins_103 0 rfl rfl ?_
        refine zk_getr (pc := 104) B kx_12 (gModel_s ha) 2 (by decide) kf_12_13 rfl (gModel_f2 ha) dX12_begins_104 ?_
        refine zk_bipush (v := 9) (pc := 107) B dX12_begins_107 (by decide) ?_
        refine zk_bipush (v := 30) (pc := 109) B dX12_begins_109 (by decide) ?_
        refine zk_iast (pc := 111) B (gModel_t2 ha) dX12_begins_111 ?_
        refine zk_lm (fun M12 => ?_)
        exact zk_vret (pc := 112) B dX12_begins_112 rfl (Nat.le_of_ble_eq_true rfl) (Nat.le_of_ble_eq_true rfl) rfl
      · refine zk_aload_n (pc := 50) B dX12_begins_50 0 rfl rfl ?_
        refine zk_getr (pc := 51) B kx_12 (gModel_s ha) 2 (by decide) kf_12_13 rfl (gModel_f2 ha) dX12_begins_51 ?_
        refine zk_iload_n (pc := 54) B dX12_begins_54 1 rfl rfl ?_
        refine zk_iconst (v := 0) (pc := 55) B dX12_begins_55 (by decide) ?_
        refine zk_iast (pc := 56) B (gModel_t2 ha) dX12_begins_56 ?_
        refine zk_lm (fun M13 => ?_)
        refine zk_iinc (y := 1) (lf := fun x14 => [(2, .int x14), (0, .ref a)]) (pc := 57) B dX12_begins_57 1 rfl (by decide) (by decide) (fun _ => rfl) (fun x14 => ?_)
        refine zk_goto (tgt := 43) (pc := 60) B dX12_begins_60 (by decide) ?_
        refine zk_sub [1, 0] rfl ?_
        exact ih43 x14 M13
  have L22 : ∀ (nf22 : Nat), ∀ (v2 : Int32) (M : z_Mem), z_K X F 3 0 0 G z_cvm b 0 0 22 [(0, .ref a), (2, .int v2)] [] M (F_Model_begins_L22 a nf22 v2 M) := by
    intro nf22
    induction nf22 with
    | zero => intro v2 M; exact zk_none
    | succ nf22 ih22 =>
      intro v2 M
      show z_K X F 3 0 0 G z_cvm b 0 0 22 [(0, .ref a), (2, .int v2)] [] M (F_Model_begins_B22 a (F_Model_begins_L22 a nf22) v2 M)
      unfold F_Model_begins_B22
      refine zk_iload_n (pc := 22) B dX12_begins_22 1 rfl rfl ?_
      refine zk_bipush (v := 64) (pc := 23) B dX12_begins_23 (by decide) ?_
      refine zk_icmp_ge (tgt := 41) (pc := 25) B dX12_begins_25 (by decide) (fun _ => ?_) (fun _ => ?_)
      · refine zk_iconst (v := 0) (pc := 41) B dX12_begins_41 (by decide) ?_
        refine zk_istore_n (loc' := [(2, .int 0), (0, .ref a)]) (pc := 42) B dX12_begins_42 rfl (by decide) rfl ?_
        refine zk_sub [1, 0] rfl ?_
        exact L43 10000 0 M
      · refine zk_aload_n (pc := 28) B dX12_begins_28 0 rfl rfl ?_
        refine zk_getr (pc := 29) B kx_12 (gModel_s ha) 11 (by decide) kf_12_22 rfl (gModel_f11 ha) dX12_begins_29 ?_
        refine zk_iload_n (pc := 32) B dX12_begins_32 1 rfl rfl ?_
        refine zk_iconst (v := (-1)) (pc := 33) B dX12_begins_33 (by decide) ?_
        refine zk_iast (pc := 34) B (gModel_t11 ha) dX12_begins_34 ?_
        refine zk_lm (fun M5 => ?_)
        refine zk_iinc (y := 1) (lf := fun x6 => [(2, .int x6), (0, .ref a)]) (pc := 35) B dX12_begins_35 1 rfl (by decide) (by decide) (fun _ => rfl) (fun x6 => ?_)
        refine zk_goto (tgt := 22) (pc := 38) B dX12_begins_38 (by decide) ?_
        refine zk_sub [1, 0] rfl ?_
        exact ih22 x6 M5
  show z_K X F 3 0 0 G z_cvm b 0 0 0 [(0, .ref a), (1, .int p0)] [] M (F_Model_begins a p0 M)
  unfold F_Model_begins
  refine zk_aload_n (pc := 0) B dX12_begins_0 0 rfl rfl ?_
  refine zk_iload_n (pc := 1) B dX12_begins_1 1 rfl rfl ?_
  refine zk_puti (pc := 2) B kx_12 (gModel_s ha) 7 (by decide) kf_12_96 rfl rfl rfl rfl dX12_begins_2 ?_
  refine zk_lm (fun M1 => ?_)
  refine zk_aload_n (pc := 5) B dX12_begins_5 0 rfl rfl ?_
  refine zk_iconst (v := 0) (pc := 6) B dX12_begins_6 (by decide) ?_
  refine zk_puti (pc := 7) B kx_12 (gModel_s ha) 8 (by decide) kf_12_99 rfl rfl rfl rfl dX12_begins_7 ?_
  refine zk_lm (fun M2 => ?_)
  refine zk_aload_n (pc := 10) B dX12_begins_10 0 rfl rfl ?_
  refine zk_iconst (v := 0) (pc := 11) B dX12_begins_11 (by decide) ?_
  refine zk_puti (pc := 12) B kx_12 (gModel_s ha) 9 (by decide) kf_12_102 rfl rfl rfl rfl dX12_begins_12 ?_
  refine zk_lm (fun M3 => ?_)
  refine zk_aload_n (pc := 15) B dX12_begins_15 0 rfl rfl ?_
  refine zk_iconst (v := 0) (pc := 16) B dX12_begins_16 (by decide) ?_
  refine zk_puti (pc := 17) B kx_12 (gModel_s ha) 10 (by decide) kf_12_105 rfl rfl rfl rfl dX12_begins_17 ?_
  refine zk_lm (fun M4 => ?_)
  refine zk_iconst (v := 0) (pc := 20) B dX12_begins_20 (by decide) ?_
  refine zk_istore_n (loc' := [(2, .int 0), (0, .ref a), (1, .int p0)]) (pc := 21) B dX12_begins_21 rfl (by decide) rfl ?_
  refine zk_sub [1, 0] rfl ?_
  exact L22 10000 0 M4
set_option maxHeartbeats 4000000 in
set_option maxRecDepth 100000 in
theorem m_Model_laysWays {X : z_X} (hX : z_ok X) {G : z_Gr} {a : Nat} (ha : g_Model G a) (M : z_Mem) (b : z_Mem) (h : F_Model_laysWays a M = some b) : z_Ct X yX12_laysWays cX12_laysWays 7 none ({ frames := 0, cells := 0, slots := 0, locals := 0 } : Room) [.ref a] G M (fun o9 G9 M9 => G9 = G ∧ (o9, M9) = z_cvm b) := by
  refine z_enter hX (by decide) (Nat.le_of_ble_eq_true rfl) h (fun F B hR => ?_)
  have L2 : ∀ (nf2 : Nat), ∀ (v1 : Int32) (M : z_Mem), z_K X F 7 0 0 G z_cvm b 0 0 2 [(0, .ref a), (1, .int v1)] [] M (F_Model_laysWays_L2 a nf2 v1 M) := by
    intro nf2
    induction nf2 with
    | zero => intro v1 M; exact zk_none
    | succ nf2 ih2 =>
      have L12 : ∀ (nf12 : Nat), ∀ (v1 : Int32) (v2 : Int32) (M : z_Mem), z_K X F 7 0 0 G z_cvm b 0 0 12 [(0, .ref a), (1, .int v1), (2, .int v2)] [] M (F_Model_laysWays_L12 a (F_Model_laysWays_L2 a nf2) nf12 v1 v2 M) := by
        intro nf12
        induction nf12 with
        | zero => intro v1 v2 M; exact zk_none
        | succ nf12 ih12 =>
          have L22 : ∀ (nf22 : Nat), ∀ (v1 : Int32) (v2 : Int32) (v3 : Int32) (M : z_Mem), z_K X F 7 0 0 G z_cvm b 0 0 22 [(0, .ref a), (1, .int v1), (2, .int v2), (3, .int v3)] [] M (F_Model_laysWays_L22 a (F_Model_laysWays_L2 a nf2) (F_Model_laysWays_L12 a (F_Model_laysWays_L2 a nf2) nf12) nf22 v1 v2 v3 M) := by
            intro nf22
            induction nf22 with
            | zero => intro v1 v2 v3 M; exact zk_none
            | succ nf22 ih22 =>
              have J94 : ∀ (v1 : Int32) (v2 : Int32) (v3 : Int32) (v4 : Int32) (v5 : Int32) (M : z_Mem), z_K X F 7 0 0 G z_cvm b 0 0 94 [(0, .ref a), (1, .int v1), (2, .int v2), (3, .int v3), (4, .int v4), (5, .int v5)] [] M (F_Model_laysWays_J94 a (F_Model_laysWays_L2 a nf2) (F_Model_laysWays_L12 a (F_Model_laysWays_L2 a nf2) nf12) (F_Model_laysWays_L22 a (F_Model_laysWays_L2 a nf2) (F_Model_laysWays_L12 a (F_Model_laysWays_L2 a nf2) nf12) nf22) v1 v2 v3 v4 v5 M) := by
                intro v1 v2 v3 v4 v5 M
                unfold F_Model_laysWays_J94
                refine zk_aload_n (pc := 94) B dX12_laysWays_94 0 rfl rfl ?_
                refine zk_getr (pc := 95) B kx_12 (gModel_s ha) 19 (by decide) kf_12_34 rfl (gModel_f19 ha) dX12_laysWays_95 ?_
                refine zk_bipush (v := 8) (pc := 98) B dX12_laysWays_98 (by decide) ?_
                refine zk_iload_n (pc := 100) B dX12_laysWays_100 2 rfl rfl ?_
                refine zk_imul (pc := 101) B dX12_laysWays_101 ?_
                refine zk_iload_n (pc := 102) B dX12_laysWays_102 3 rfl rfl ?_
                refine zk_iadd (pc := 103) B dX12_laysWays_103 ?_
                refine zk_iload (pc := 104) B dX12_laysWays_104 4 rfl ?_
                refine zk_iload (pc := 106) B dX12_laysWays_106 5 rfl ?_
                refine zk_iadd (pc := 108) B dX12_laysWays_108 ?_
                refine zk_iast (pc := 109) B (gModel_t19 ha) dX12_laysWays_109 ?_
                refine zk_lm (fun M9 => ?_)
                refine zk_iinc (y := 1) (lf := fun x10 => [(3, .int x10), (0, .ref a), (1, .int v1), (2, .int v2), (4, .int v4), (5, .int v5)]) (pc := 110) B dX12_laysWays_110 3 rfl (by decide) (by decide) (fun _ => rfl) (fun x10 => ?_)
                refine zk_goto (tgt := 22) (pc := 113) B dX12_laysWays_113 (by decide) ?_
                refine zk_sub [1, 2, 3, 0] rfl ?_
                exact ih22 v1 v2 x10 M9
              intro v1 v2 v3 M
              show z_K X F 7 0 0 G z_cvm b 0 0 22 [(0, .ref a), (1, .int v1), (2, .int v2), (3, .int v3)] [] M (F_Model_laysWays_B22 a (F_Model_laysWays_L2 a nf2) (F_Model_laysWays_L12 a (F_Model_laysWays_L2 a nf2) nf12) (F_Model_laysWays_L22 a (F_Model_laysWays_L2 a nf2) (F_Model_laysWays_L12 a (F_Model_laysWays_L2 a nf2) nf12) nf22) v1 v2 v3 M)
              unfold F_Model_laysWays_B22
              refine zk_iload_n (pc := 22) B dX12_laysWays_22 3 rfl rfl ?_
              refine zk_aload_n (pc := 23) B dX12_laysWays_23 0 rfl rfl ?_
              refine zk_geti (pc := 24) B kx_12 (gModel_s ha) 15 (by decide) kf_12_108 rfl dX12_laysWays_24 ?_
              refine zk_icmp_ge (tgt := 116) (pc := 27) B dX12_laysWays_27 (by decide) (fun _ => ?_) (fun _ => ?_)
              · refine zk_iinc (y := 1) (lf := fun x2 => [(2, .int x2), (0, .ref a), (1, .int v1), (3, .int v3)]) (pc := 116) B dX12_laysWays_116 2 rfl (by decide) (by decide) (fun _ => rfl) (fun x2 => ?_)
                refine zk_goto (tgt := 12) (pc := 119) B dX12_laysWays_119 (by decide) ?_
                refine zk_sub [1, 2, 0] rfl ?_
                exact ih12 v1 x2 M
              · refine zk_aload_n (pc := 30) B dX12_laysWays_30 0 rfl rfl ?_
                refine zk_getr (pc := 31) B kx_12 (gModel_s ha) 19 (by decide) kf_12_34 rfl (gModel_f19 ha) dX12_laysWays_31 ?_
                refine zk_bipush (v := 8) (pc := 34) B dX12_laysWays_34 (by decide) ?_
                refine zk_iload_n (pc := 36) B dX12_laysWays_36 2 rfl rfl ?_
                refine zk_imul (pc := 37) B dX12_laysWays_37 ?_
                refine zk_iload_n (pc := 38) B dX12_laysWays_38 1 rfl rfl ?_
                refine zk_iadd (pc := 39) B dX12_laysWays_39 ?_
                refine zk_iald (pc := 40) B (gModel_t19 ha) dX12_laysWays_40 ?_
                refine zk_li (fun x3 => ?_)
                refine zk_istore (loc' := [(4, .int x3), (0, .ref a), (1, .int v1), (2, .int v2), (3, .int v3)]) (pc := 41) B dX12_laysWays_41 (by decide) rfl ?_
                refine zk_aload_n (pc := 43) B dX12_laysWays_43 1 rfl rfl ?_
                refine zk_getr (pc := 44) B kx_12 (gModel_s ha) 19 (by decide) kf_12_34 rfl (gModel_f19 ha) dX12_laysWays_44 ?_
                refine zk_bipush (v := 8) (pc := 47) B dX12_laysWays_47 (by decide) ?_
                refine zk_iload_n (pc := 49) B dX12_laysWays_49 2 rfl rfl ?_
                refine zk_imul (pc := 50) B dX12_laysWays_50 ?_
                refine zk_iload_n (pc := 51) B dX12_laysWays_51 4 rfl rfl ?_
                refine zk_iadd (pc := 52) B dX12_laysWays_52 ?_
                refine zk_iald (pc := 53) B (gModel_t19 ha) dX12_laysWays_53 ?_
                refine zk_li (fun x4 => ?_)
                refine zk_istore (loc' := [(5, .int x4), (4, .int x3), (0, .ref a), (1, .int v1), (2, .int v2), (3, .int v3)]) (pc := 54) B dX12_laysWays_54 (by decide) rfl ?_
                refine zk_aload_n (pc := 56) B dX12_laysWays_56 2 rfl rfl ?_
                refine zk_getr (pc := 57) B kx_12 (gModel_s ha) 19 (by decide) kf_12_34 rfl (gModel_f19 ha) dX12_laysWays_57 ?_
                refine zk_bipush (v := 8) (pc := 60) B dX12_laysWays_60 (by decide) ?_
                refine zk_iload_n (pc := 62) B dX12_laysWays_62 4 rfl rfl ?_
                refine zk_imul (pc := 63) B dX12_laysWays_63 ?_
                refine zk_iload_n (pc := 64) B dX12_laysWays_64 5 rfl rfl ?_
                refine zk_iadd (pc := 65) B dX12_laysWays_65 ?_
                refine zk_iald (pc := 66) B (gModel_t19 ha) dX12_laysWays_66 ?_
                refine zk_li (fun x5 => ?_)
                refine zk_istore (loc' := [(6, .int x5), (5, .int x4), (4, .int x3), (0, .ref a), (1, .int v1), (2, .int v2), (3, .int v3)]) (pc := 67) B dX12_laysWays_67 (by decide) rfl ?_
                refine zk_iload (pc := 69) B dX12_laysWays_69 2 rfl ?_
                refine zk_if_lt (tgt := 110) (pc := 71) B dX12_laysWays_71 (by decide) (fun _ => ?_) (fun _ => ?_)
                · refine zk_iinc (y := 1) (lf := fun x6 => [(3, .int x6), (6, .int x5), (5, .int x4), (4, .int x3), (0, .ref a), (1, .int v1), (2, .int v2)]) (pc := 110) B dX12_laysWays_110 6 rfl (by decide) (by decide) (fun _ => rfl) (fun x6 => ?_)
                  refine zk_goto (tgt := 22) (pc := 113) B dX12_laysWays_113 (by decide) ?_
                  refine zk_sub [4, 5, 6, 0] rfl ?_
                  exact ih22 v1 v2 x6 M
                · refine zk_iload (pc := 74) B dX12_laysWays_74 1 rfl ?_
                  refine zk_if_lt (tgt := 110) (pc := 76) B dX12_laysWays_76 (by decide) (fun _ => ?_) (fun _ => ?_)
                  · refine zk_iinc (y := 1) (lf := fun x7 => [(3, .int x7), (6, .int x5), (5, .int x4), (4, .int x3), (0, .ref a), (1, .int v1), (2, .int v2)]) (pc := 110) B dX12_laysWays_110 6 rfl (by decide) (by decide) (fun _ => rfl) (fun x7 => ?_)
                    refine zk_goto (tgt := 22) (pc := 113) B dX12_laysWays_113 (by decide) ?_
                    refine zk_sub [4, 5, 6, 0] rfl ?_
                    exact ih22 v1 v2 x7 M
                  · refine zk_iload (pc := 79) B dX12_laysWays_79 0 rfl ?_
                    refine zk_if_lt (tgt := 94) (pc := 81) B dX12_laysWays_81 (by decide) (fun _ => ?_) (fun _ => ?_)
                    · refine zk_sub [3, 4, 5, 6, 2, 1] rfl ?_
                      exact J94 v1 v2 v3 x3 x4 M
                    · refine zk_iload (pc := 84) B dX12_laysWays_84 2 rfl ?_
                      refine zk_iload (pc := 86) B dX12_laysWays_86 1 rfl ?_
                      refine zk_iadd (pc := 88) B dX12_laysWays_88 ?_
                      refine zk_iload (pc := 89) B dX12_laysWays_89 0 rfl ?_
                      refine zk_icmp_ge (tgt := 110) (pc := 91) B dX12_laysWays_91 (by decide) (fun _ => ?_) (fun _ => ?_)
                      · refine zk_iinc (y := 1) (lf := fun x8 => [(3, .int x8), (6, .int x5), (5, .int x4), (4, .int x3), (0, .ref a), (1, .int v1), (2, .int v2)]) (pc := 110) B dX12_laysWays_110 6 rfl (by decide) (by decide) (fun _ => rfl) (fun x8 => ?_)
                        refine zk_goto (tgt := 22) (pc := 113) B dX12_laysWays_113 (by decide) ?_
                        refine zk_sub [4, 5, 6, 0] rfl ?_
                        exact ih22 v1 v2 x8 M
                      · refine zk_sub [3, 4, 5, 6, 2, 1] rfl ?_
                        exact J94 v1 v2 v3 x3 x4 M
          intro v1 v2 M
          show z_K X F 7 0 0 G z_cvm b 0 0 12 [(0, .ref a), (1, .int v1), (2, .int v2)] [] M (F_Model_laysWays_B12 a (F_Model_laysWays_L2 a nf2) (F_Model_laysWays_L12 a (F_Model_laysWays_L2 a nf2) nf12) v1 v2 M)
          unfold F_Model_laysWays_B12
          refine zk_iload_n (pc := 12) B dX12_laysWays_12 2 rfl rfl ?_
          refine zk_aload_n (pc := 13) B dX12_laysWays_13 0 rfl rfl ?_
          refine zk_geti (pc := 14) B kx_12 (gModel_s ha) 15 (by decide) kf_12_108 rfl dX12_laysWays_14 ?_
          refine zk_icmp_ge (tgt := 122) (pc := 17) B dX12_laysWays_17 (by decide) (fun _ => ?_) (fun _ => ?_)
          · refine zk_iinc (y := 1) (lf := fun x1 => [(1, .int x1), (0, .ref a), (2, .int v2)]) (pc := 122) B dX12_laysWays_122 1 rfl (by decide) (by decide) (fun _ => rfl) (fun x1 => ?_)
            refine zk_goto (tgt := 2) (pc := 125) B dX12_laysWays_125 (by decide) ?_
            refine zk_sub [1, 0] rfl ?_
            exact ih2 x1 M
          · refine zk_iconst (v := 0) (pc := 20) B dX12_laysWays_20 (by decide) ?_
            refine zk_istore_n (loc' := [(3, .int 0), (0, .ref a), (1, .int v1), (2, .int v2)]) (pc := 21) B dX12_laysWays_21 rfl (by decide) rfl ?_
            refine zk_sub [1, 2, 3, 0] rfl ?_
            exact L22 10000 v1 v2 0 M
      intro v1 M
      show z_K X F 7 0 0 G z_cvm b 0 0 2 [(0, .ref a), (1, .int v1)] [] M (F_Model_laysWays_B2 a (F_Model_laysWays_L2 a nf2) v1 M)
      unfold F_Model_laysWays_B2
      refine zk_iload_n (pc := 2) B dX12_laysWays_2 1 rfl rfl ?_
      refine zk_aload_n (pc := 3) B dX12_laysWays_3 0 rfl rfl ?_
      refine zk_geti (pc := 4) B kx_12 (gModel_s ha) 15 (by decide) kf_12_108 rfl dX12_laysWays_4 ?_
      refine zk_icmp_ge (tgt := 128) (pc := 7) B dX12_laysWays_7 (by decide) (fun _ => ?_) (fun _ => ?_)
      · exact zk_vret (pc := 128) B dX12_laysWays_128 rfl (Nat.le_of_ble_eq_true rfl) (Nat.le_of_ble_eq_true rfl) rfl
      · refine zk_iconst (v := 0) (pc := 10) B dX12_laysWays_10 (by decide) ?_
        refine zk_istore_n (loc' := [(2, .int 0), (0, .ref a), (1, .int v1)]) (pc := 11) B dX12_laysWays_11 rfl (by decide) rfl ?_
        refine zk_sub [1, 2, 0] rfl ?_
        exact L12 10000 v1 0 M
  show z_K X F 7 0 0 G z_cvm b 0 0 0 [(0, .ref a)] [] M (F_Model_laysWays a M)
  unfold F_Model_laysWays
  refine zk_iconst (v := 0) (pc := 0) B dX12_laysWays_0 (by decide) ?_
  refine zk_istore_n (loc' := [(1, .int 0), (0, .ref a)]) (pc := 1) B dX12_laysWays_1 rfl (by decide) rfl ?_
  refine zk_sub [1, 0] rfl ?_
  exact L2 10000 0 M
set_option maxHeartbeats 4000000 in
set_option maxRecDepth 100000 in
theorem m_Model_becomes {X : z_X} (hX : z_ok X) {G : z_Gr} {a : Nat} (ha : g_Model G a) (M : z_Mem) (b : z_Mem) (h : F_Model_becomes a M = some b) : z_Ct X yX12_becomes cX12_becomes 2 none ({ frames := 1, cells := 0, slots := 0, locals := 26 } : Room) [.ref a] G M (fun o9 G9 M9 => G9 = G ∧ (o9, M9) = z_cvm b) := by
  refine z_enter hX (by decide) (Nat.le_of_ble_eq_true rfl) h (fun F B hR => ?_)
  have L112 : ∀ (nf112 : Nat), ∀ (v1 : Int32) (M : z_Mem), z_K X F 2 0 0 G z_cvm b 0 0 112 [(0, .ref a), (1, .int v1)] [] M (F_Model_becomes_L112 a nf112 v1 M) := by
    intro nf112
    induction nf112 with
    | zero => intro v1 M; exact zk_none
    | succ nf112 ih112 =>
      intro v1 M
      show z_K X F 2 0 0 G z_cvm b 0 0 112 [(0, .ref a), (1, .int v1)] [] M (F_Model_becomes_B112 a (F_Model_becomes_L112 a nf112) v1 M)
      unfold F_Model_becomes_B112
      refine zk_iload_n (pc := 112) B dX12_becomes_112 1 rfl rfl ?_
      refine zk_sipush (v := 581) (pc := 113) B dX12_becomes_113 (by decide) ?_
      refine zk_icmp_ge (tgt := 137) (pc := 116) B dX12_becomes_116 (by decide) (fun _ => ?_) (fun _ => ?_)
      · refine zk_aload_n (pc := 137) B dX12_becomes_137 0 rfl rfl ?_
        refine zk_cvm (pc := 138) (k' := 0) (n' := 0) B rfl rfl (Nat.le_of_ble_eq_true rfl) (Nat.le_of_ble_eq_true rfl) (fun b hb => zr_V B hR kV_yX12_laysWays km_12_120 kx_12 (gModel_s ha) [] rfl rfl (Nat.le_of_ble_eq_true rfl) dX12_becomes_138 (m_Model_laysWays hX ha M b hb) ⟨Nat.le_of_ble_eq_true rfl, Nat.le_of_ble_eq_true rfl⟩ ⟨Nat.le_of_ble_eq_true rfl, Nat.le_of_ble_eq_true rfl⟩) (fun M8 => ?_)
        refine zk_aload_n (pc := 141) B dX12_becomes_141 0 rfl rfl ?_
        refine zk_iconst (v := 0) (pc := 142) B dX12_becomes_142 (by decide) ?_
        refine zk_puti (pc := 143) B kx_12 (gModel_s ha) 6 (by decide) kf_12_123 rfl rfl rfl rfl dX12_becomes_143 ?_
        refine zk_lm (fun M9 => ?_)
        refine zk_aload_n (pc := 146) B dX12_becomes_146 0 rfl rfl ?_
        refine zk_iconst (v := 0) (pc := 147) B dX12_becomes_147 (by decide) ?_
        refine zk_puti (pc := 148) B kx_12 (gModel_s ha) 5 (by decide) kf_12_126 rfl rfl rfl rfl dX12_becomes_148 ?_
        refine zk_lm (fun M10 => ?_)
        exact zk_vret (pc := 151) B dX12_becomes_151 rfl (Nat.le_of_ble_eq_true rfl) (Nat.le_of_ble_eq_true rfl) rfl
      · refine zk_aload_n (pc := 119) B dX12_becomes_119 0 rfl rfl ?_
        refine zk_getr (pc := 120) B kx_12 (gModel_s ha) 1 (by decide) kf_12_7 rfl (gModel_f1 ha) dX12_becomes_120 ?_
        refine zk_iload_n (pc := 123) B dX12_becomes_123 1 rfl rfl ?_
        refine zk_aload_n (pc := 124) B dX12_becomes_124 0 rfl rfl ?_
        refine zk_getr (pc := 125) B kx_12 (gModel_s ha) 2 (by decide) kf_12_13 rfl (gModel_f2 ha) dX12_becomes_125 ?_
        refine zk_iload_n (pc := 128) B dX12_becomes_128 1 rfl rfl ?_
        refine zk_iald (pc := 129) B (gModel_t2 ha) dX12_becomes_129 ?_
        refine zk_iast (pc := 130) B (gModel_t1 ha) dX12_becomes_130 ?_
        refine zk_lm (fun M11 => ?_)
        refine zk_iinc (y := 1) (lf := fun x12 => [(1, .int x12), (0, .ref a)]) (pc := 131) B dX12_becomes_131 1 rfl (by decide) (by decide) (fun _ => rfl) (fun x12 => ?_)
        refine zk_goto (tgt := 112) (pc := 134) B dX12_becomes_134 (by decide) ?_
        refine zk_sub [1, 0] rfl ?_
        exact ih112 x12 M11
  have L75 : ∀ (nf75 : Nat), ∀ (v1 : Int32) (M : z_Mem), z_K X F 2 0 0 G z_cvm b 0 0 75 [(0, .ref a), (1, .int v1)] [] M (F_Model_becomes_L75 a nf75 v1 M) := by
    intro nf75
    induction nf75 with
    | zero => intro v1 M; exact zk_none
    | succ nf75 ih75 =>
      intro v1 M
      show z_K X F 2 0 0 G z_cvm b 0 0 75 [(0, .ref a), (1, .int v1)] [] M (F_Model_becomes_B75 a (F_Model_becomes_L75 a nf75) v1 M)
      unfold F_Model_becomes_B75
      refine zk_iload_n (pc := 75) B dX12_becomes_75 1 rfl rfl ?_
      refine zk_iconst (v := 4) (pc := 76) B dX12_becomes_76 (by decide) ?_
      refine zk_icmp_ge (tgt := 110) (pc := 77) B dX12_becomes_77 (by decide) (fun _ => ?_) (fun _ => ?_)
      · refine zk_iconst (v := 0) (pc := 110) B dX12_becomes_110 (by decide) ?_
        refine zk_istore_n (loc' := [(1, .int 0), (0, .ref a)]) (pc := 111) B dX12_becomes_111 rfl (by decide) rfl ?_
        refine zk_sub [1, 0] rfl ?_
        exact L112 10000 0 M
      · refine zk_aload_n (pc := 80) B dX12_becomes_80 0 rfl rfl ?_
        refine zk_getr (pc := 81) B kx_12 (gModel_s ha) 20 (by decide) kf_12_37 rfl (gModel_f20 ha) dX12_becomes_81 ?_
        refine zk_iload_n (pc := 84) B dX12_becomes_84 1 rfl rfl ?_
        refine zk_aload_n (pc := 85) B dX12_becomes_85 0 rfl rfl ?_
        refine zk_getr (pc := 86) B kx_12 (gModel_s ha) 12 (by decide) kf_12_25 rfl (gModel_f12 ha) dX12_becomes_86 ?_
        refine zk_iload_n (pc := 89) B dX12_becomes_89 1 rfl rfl ?_
        refine zk_iald (pc := 90) B (gModel_t12 ha) dX12_becomes_90 ?_
        refine zk_iast (pc := 91) B (gModel_t20 ha) dX12_becomes_91 ?_
        refine zk_lm (fun M5 => ?_)
        refine zk_aload_n (pc := 92) B dX12_becomes_92 0 rfl rfl ?_
        refine zk_getr (pc := 93) B kx_12 (gModel_s ha) 21 (by decide) kf_12_40 rfl (gModel_f21 ha) dX12_becomes_93 ?_
        refine zk_iload_n (pc := 96) B dX12_becomes_96 1 rfl rfl ?_
        refine zk_aload_n (pc := 97) B dX12_becomes_97 0 rfl rfl ?_
        refine zk_getr (pc := 98) B kx_12 (gModel_s ha) 13 (by decide) kf_12_28 rfl (gModel_f13 ha) dX12_becomes_98 ?_
        refine zk_iload_n (pc := 101) B dX12_becomes_101 1 rfl rfl ?_
        refine zk_iald (pc := 102) B (gModel_t13 ha) dX12_becomes_102 ?_
        refine zk_iast (pc := 103) B (gModel_t21 ha) dX12_becomes_103 ?_
        refine zk_lm (fun M6 => ?_)
        refine zk_iinc (y := 1) (lf := fun x7 => [(1, .int x7), (0, .ref a)]) (pc := 104) B dX12_becomes_104 1 rfl (by decide) (by decide) (fun _ => rfl) (fun x7 => ?_)
        refine zk_goto (tgt := 75) (pc := 107) B dX12_becomes_107 (by decide) ?_
        refine zk_sub [1, 0] rfl ?_
        exact ih75 x7 M6
  have L34 : ∀ (nf34 : Nat), ∀ (v1 : Int32) (M : z_Mem), z_K X F 2 0 0 G z_cvm b 0 0 34 [(0, .ref a), (1, .int v1)] [] M (F_Model_becomes_L34 a nf34 v1 M) := by
    intro nf34
    induction nf34 with
    | zero => intro v1 M; exact zk_none
    | succ nf34 ih34 =>
      have J66 : ∀ (v1 : Int32) (s0 : Int32) (s1 : Int32) (M : z_Mem), z_K X F 2 0 0 G z_cvm b 0 0 66 [(0, .ref a), (1, .int v1)] [.int s0, .int s1, .ref (a + 9)] M (F_Model_becomes_J66 a (F_Model_becomes_L34 a nf34) v1 s0 s1 M) := by
        intro v1 s0 s1 M
        unfold F_Model_becomes_J66
        refine zk_iast (pc := 66) B (gModel_t19 ha) dX12_becomes_66 ?_
        refine zk_lm (fun M13 => ?_)
        refine zk_iinc (y := 1) (lf := fun x14 => [(1, .int x14), (0, .ref a)]) (pc := 67) B dX12_becomes_67 1 rfl (by decide) (by decide) (fun _ => rfl) (fun x14 => ?_)
        refine zk_goto (tgt := 34) (pc := 70) B dX12_becomes_70 (by decide) ?_
        refine zk_sub [1, 0] rfl ?_
        exact ih34 x14 M13
      intro v1 M
      show z_K X F 2 0 0 G z_cvm b 0 0 34 [(0, .ref a), (1, .int v1)] [] M (F_Model_becomes_B34 a (F_Model_becomes_L34 a nf34) v1 M)
      unfold F_Model_becomes_B34
      refine zk_iload_n (pc := 34) B dX12_becomes_34 1 rfl rfl ?_
      refine zk_bipush (v := 64) (pc := 35) B dX12_becomes_35 (by decide) ?_
      refine zk_icmp_ge (tgt := 73) (pc := 37) B dX12_becomes_37 (by decide) (fun _ => ?_) (fun _ => ?_)
      · refine zk_iconst (v := 0) (pc := 73) B dX12_becomes_73 (by decide) ?_
        refine zk_istore_n (loc' := [(1, .int 0), (0, .ref a)]) (pc := 74) B dX12_becomes_74 rfl (by decide) rfl ?_
        refine zk_sub [1, 0] rfl ?_
        exact L75 10000 0 M
      · refine zk_aload_n (pc := 40) B dX12_becomes_40 0 rfl rfl ?_
        refine zk_getr (pc := 41) B kx_12 (gModel_s ha) 19 (by decide) kf_12_34 rfl (gModel_f19 ha) dX12_becomes_41 ?_
        refine zk_iload_n (pc := 44) B dX12_becomes_44 1 rfl rfl ?_
        refine zk_iload_n (pc := 45) B dX12_becomes_45 1 rfl rfl ?_
        refine zk_bipush (v := 8) (pc := 46) B dX12_becomes_46 (by decide) ?_
        refine zk_idiv (pc := 48) B dX12_becomes_48 (by decide) ?_
        refine zk_iload_n (pc := 49) B dX12_becomes_49 1 rfl rfl ?_
        refine zk_bipush (v := 8) (pc := 50) B dX12_becomes_50 (by decide) ?_
        refine zk_irem (pc := 52) B dX12_becomes_52 (by decide) ?_
        refine zk_icmp_ne (tgt := 60) (pc := 53) B dX12_becomes_53 (by decide) (fun _ => ?_) (fun _ => ?_)
        · refine zk_aload_n (pc := 60) B dX12_becomes_60 0 rfl rfl ?_
          refine zk_getr (pc := 61) B kx_12 (gModel_s ha) 11 (by decide) kf_12_22 rfl (gModel_f11 ha) dX12_becomes_61 ?_
          refine zk_iload_n (pc := 64) B dX12_becomes_64 1 rfl rfl ?_
          refine zk_iald (pc := 65) B (gModel_t11 ha) dX12_becomes_65 ?_
          exact J66 v1 (M.1 (a + 5) v1.toNatClampNeg) v1 M
        · refine zk_iconst (v := 0) (pc := 56) B dX12_becomes_56 (by decide) ?_
          refine zk_goto (tgt := 66) (pc := 57) B dX12_becomes_57 (by decide) ?_
          exact J66 v1 0 v1 M
  show z_K X F 2 0 0 G z_cvm b 0 0 0 [(0, .ref a)] [] M (F_Model_becomes a M)
  unfold F_Model_becomes
  refine zk_aload_n (pc := 0) B dX12_becomes_0 0 rfl rfl ?_
  refine zk_aload_n (pc := 1) B dX12_becomes_1 0 rfl rfl ?_
  refine zk_geti (pc := 2) B kx_12 (gModel_s ha) 7 (by decide) kf_12_96 rfl dX12_becomes_2 ?_
  refine zk_puti (pc := 5) B kx_12 (gModel_s ha) 15 (by decide) kf_12_108 rfl rfl rfl rfl dX12_becomes_5 ?_
  refine zk_lm (fun M1 => ?_)
  refine zk_aload_n (pc := 8) B dX12_becomes_8 0 rfl rfl ?_
  refine zk_aload_n (pc := 9) B dX12_becomes_9 0 rfl rfl ?_
  refine zk_geti (pc := 10) B kx_12 (gModel_s ha) 8 (by decide) kf_12_99 rfl dX12_becomes_10 ?_
  refine zk_puti (pc := 13) B kx_12 (gModel_s ha) 16 (by decide) kf_12_111 rfl rfl rfl rfl dX12_becomes_13 ?_
  refine zk_lm (fun M2 => ?_)
  refine zk_aload_n (pc := 16) B dX12_becomes_16 0 rfl rfl ?_
  refine zk_aload_n (pc := 17) B dX12_becomes_17 0 rfl rfl ?_
  refine zk_geti (pc := 18) B kx_12 (gModel_s ha) 9 (by decide) kf_12_102 rfl dX12_becomes_18 ?_
  refine zk_puti (pc := 21) B kx_12 (gModel_s ha) 17 (by decide) kf_12_114 rfl rfl rfl rfl dX12_becomes_21 ?_
  refine zk_lm (fun M3 => ?_)
  refine zk_aload_n (pc := 24) B dX12_becomes_24 0 rfl rfl ?_
  refine zk_aload_n (pc := 25) B dX12_becomes_25 0 rfl rfl ?_
  refine zk_geti (pc := 26) B kx_12 (gModel_s ha) 10 (by decide) kf_12_105 rfl dX12_becomes_26 ?_
  refine zk_puti (pc := 29) B kx_12 (gModel_s ha) 18 (by decide) kf_12_117 rfl rfl rfl rfl dX12_becomes_29 ?_
  refine zk_lm (fun M4 => ?_)
  refine zk_iconst (v := 0) (pc := 32) B dX12_becomes_32 (by decide) ?_
  refine zk_istore_n (loc' := [(1, .int 0), (0, .ref a)]) (pc := 33) B dX12_becomes_33 rfl (by decide) rfl ?_
  refine zk_sub [1, 0] rfl ?_
  exact L34 10000 0 M4
set_option maxHeartbeats 4000000 in
set_option maxRecDepth 100000 in
theorem m_Model_thrown {X : z_X} (hX : z_ok X) {G : z_Gr} {a : Nat} (ha : g_Model G a) (M : z_Mem) (b : Int32) (h : F_Model_thrown a M = some b) : z_Ct X yX12_thrown cX12_thrown 1 (some .int) ({ frames := 0, cells := 0, slots := 0, locals := 0 } : Room) [.ref a] G M (fun o9 G9 M9 => G9 = G ∧ (o9, M9) = (z_ci M) b) := by
  refine z_enter hX (by decide) (Nat.le_of_ble_eq_true rfl) h (fun F B hR => ?_)
  show z_K X F 1 0 0 G (z_ci M) b 0 0 0 [(0, .ref a)] [] M (F_Model_thrown a M)
  unfold F_Model_thrown
  refine zk_aload_n (pc := 0) B dX12_thrown_0 0 rfl rfl ?_
  refine zk_geti (pc := 1) B kx_12 (gModel_s ha) 0 (by decide) kf_12_93 rfl dX12_thrown_1 ?_
  exact zk_iret (pc := 4) B dX12_thrown_4 rfl rfl (Nat.le_of_ble_eq_true rfl) (Nat.le_of_ble_eq_true rfl) rfl
set_option maxHeartbeats 4000000 in
set_option maxRecDepth 100000 in
theorem m_Model_in {X : z_X} (hX : z_ok X) {G : z_Gr} (p0 : Int64) (p1 : Int64) (p2 : Int64) (M : z_Mem) (b : Int32) (h : F_Model_in p0 p1 p2 M = some b) : z_Ct X yX12_in cX12_in 6 (some .boolean) ({ frames := 0, cells := 0, slots := 0, locals := 0 } : Room) [.long p0, .long p1, .long p2] G M (fun o9 G9 M9 => G9 = G ∧ (o9, M9) = (z_ci M) b) := by
  refine z_enter hX (by decide) (Nat.le_of_ble_eq_true rfl) h (fun F B hR => ?_)
  show z_K X F 6 0 0 G (z_ci M) b 0 0 0 [(0, .long p0), (2, .long p1), (4, .long p2)] [] M (F_Model_in p0 p1 p2 M)
  unfold F_Model_in
  refine zk_lload_n (pc := 0) B dX12_in_0 0 rfl rfl ?_
  refine zk_lload_n (pc := 1) B dX12_in_1 1 rfl rfl ?_
  refine zk_lcmp (pc := 2) B dX12_in_2 ?_
  refine zk_if_lt (tgt := 17) (pc := 3) B dX12_in_3 (by decide) (fun _ => ?_) (fun _ => ?_)
  · refine zk_iconst (v := 0) (pc := 17) B dX12_in_17 (by decide) ?_
    exact zk_iret (pc := 18) B dX12_in_18 rfl rfl (Nat.le_of_ble_eq_true rfl) (Nat.le_of_ble_eq_true rfl) rfl
  · refine zk_lload_n (pc := 6) B dX12_in_6 0 rfl rfl ?_
    refine zk_lload (pc := 7) B dX12_in_7 2 rfl ?_
    refine zk_lcmp (pc := 9) B dX12_in_9 ?_
    refine zk_if_gt (tgt := 17) (pc := 10) B dX12_in_10 (by decide) (fun _ => ?_) (fun _ => ?_)
    · refine zk_iconst (v := 0) (pc := 17) B dX12_in_17 (by decide) ?_
      exact zk_iret (pc := 18) B dX12_in_18 rfl rfl (Nat.le_of_ble_eq_true rfl) (Nat.le_of_ble_eq_true rfl) rfl
    · refine zk_iconst (v := 1) (pc := 13) B dX12_in_13 (by decide) ?_
      refine zk_goto (tgt := 18) (pc := 14) B dX12_in_14 (by decide) ?_
      exact zk_iret (pc := 18) B dX12_in_18 rfl rfl (Nat.le_of_ble_eq_true rfl) (Nat.le_of_ble_eq_true rfl) rfl
set_option maxHeartbeats 4000000 in
set_option maxRecDepth 100000 in
theorem m_Model_fails {X : z_X} (hX : z_ok X) {G : z_Gr} {a : Nat} (ha : g_Model G a) (p0 : Int32) (p1 : Int32) (M : z_Mem) (b : Int32 × z_Mem) (h : F_Model_fails a p0 p1 M = some b) : z_Ct X yX12_fails cX12_fails 3 (some .boolean) ({ frames := 0, cells := 0, slots := 0, locals := 0 } : Room) [.ref a, .int p0, .int p1] G M (fun o9 G9 M9 => G9 = G ∧ (o9, M9) = z_cim b) := by
  refine z_enter hX (by decide) (Nat.le_of_ble_eq_true rfl) h (fun F B hR => ?_)
  show z_K X F 3 0 0 G z_cim b 0 0 0 [(0, .ref a), (1, .int p0), (2, .int p1)] [] M (F_Model_fails a p0 p1 M)
  unfold F_Model_fails
  refine zk_iload_n (pc := 0) B dX12_fails_0 1 rfl rfl ?_
  refine zk_if_eq (tgt := 6) (pc := 1) B dX12_fails_1 (by decide) (fun _ => ?_) (fun _ => ?_)
  · refine zk_aload_n (pc := 6) B dX12_fails_6 0 rfl rfl ?_
    refine zk_iload_n (pc := 7) B dX12_fails_7 2 rfl rfl ?_
    refine zk_puti (pc := 8) B kx_12 (gModel_s ha) 0 (by decide) kf_12_93 rfl rfl rfl rfl dX12_fails_8 ?_
    refine zk_lm (fun M1 => ?_)
    refine zk_iconst (v := 1) (pc := 11) B dX12_fails_11 (by decide) ?_
    exact zk_iret (pc := 12) B dX12_fails_12 rfl rfl (Nat.le_of_ble_eq_true rfl) (Nat.le_of_ble_eq_true rfl) rfl
  · refine zk_iconst (v := 0) (pc := 4) B dX12_fails_4 (by decide) ?_
    exact zk_iret (pc := 5) B dX12_fails_5 rfl rfl (Nat.le_of_ble_eq_true rfl) (Nat.le_of_ble_eq_true rfl) rfl
set_option maxHeartbeats 4000000 in
set_option maxRecDepth 100000 in
theorem m_Model_greater {X : z_X} (hX : z_ok X) {G : z_Gr} (p0 : Int32) (p1 : Int32) (M : z_Mem) (b : Int32) (h : F_Model_greater p0 p1 M = some b) : z_Ct X yX12_greater cX12_greater 2 (some .int) ({ frames := 0, cells := 0, slots := 0, locals := 0 } : Room) [.int p0, .int p1] G M (fun o9 G9 M9 => G9 = G ∧ (o9, M9) = (z_ci M) b) := by
  refine z_enter hX (by decide) (Nat.le_of_ble_eq_true rfl) h (fun F B hR => ?_)
  show z_K X F 2 0 0 G (z_ci M) b 0 0 0 [(0, .int p0), (1, .int p1)] [] M (F_Model_greater p0 p1 M)
  unfold F_Model_greater
  refine zk_iload_n (pc := 0) B dX12_greater_0 0 rfl rfl ?_
  refine zk_iload_n (pc := 1) B dX12_greater_1 1 rfl rfl ?_
  refine zk_icmp_le (tgt := 9) (pc := 2) B dX12_greater_2 (by decide) (fun _ => ?_) (fun _ => ?_)
  · refine zk_iload_n (pc := 9) B dX12_greater_9 1 rfl rfl ?_
    exact zk_iret (pc := 10) B dX12_greater_10 rfl rfl (Nat.le_of_ble_eq_true rfl) (Nat.le_of_ble_eq_true rfl) rfl
  · refine zk_iload_n (pc := 5) B dX12_greater_5 0 rfl rfl ?_
    refine zk_goto (tgt := 10) (pc := 6) B dX12_greater_6 (by decide) ?_
    exact zk_iret (pc := 10) B dX12_greater_10 rfl rfl (Nat.le_of_ble_eq_true rfl) (Nat.le_of_ble_eq_true rfl) rfl
set_option maxHeartbeats 4000000 in
set_option maxRecDepth 100000 in
theorem m_Model_lesser {X : z_X} (hX : z_ok X) {G : z_Gr} (p0 : Int32) (p1 : Int32) (M : z_Mem) (b : Int32) (h : F_Model_lesser p0 p1 M = some b) : z_Ct X yX12_lesser cX12_lesser 2 (some .int) ({ frames := 0, cells := 0, slots := 0, locals := 0 } : Room) [.int p0, .int p1] G M (fun o9 G9 M9 => G9 = G ∧ (o9, M9) = (z_ci M) b) := by
  refine z_enter hX (by decide) (Nat.le_of_ble_eq_true rfl) h (fun F B hR => ?_)
  show z_K X F 2 0 0 G (z_ci M) b 0 0 0 [(0, .int p0), (1, .int p1)] [] M (F_Model_lesser p0 p1 M)
  unfold F_Model_lesser
  refine zk_iload_n (pc := 0) B dX12_lesser_0 0 rfl rfl ?_
  refine zk_iload_n (pc := 1) B dX12_lesser_1 1 rfl rfl ?_
  refine zk_icmp_ge (tgt := 9) (pc := 2) B dX12_lesser_2 (by decide) (fun _ => ?_) (fun _ => ?_)
  · refine zk_iload_n (pc := 9) B dX12_lesser_9 1 rfl rfl ?_
    exact zk_iret (pc := 10) B dX12_lesser_10 rfl rfl (Nat.le_of_ble_eq_true rfl) (Nat.le_of_ble_eq_true rfl) rfl
  · refine zk_iload_n (pc := 5) B dX12_lesser_5 0 rfl rfl ?_
    refine zk_goto (tgt := 10) (pc := 6) B dX12_lesser_6 (by decide) ?_
    exact zk_iret (pc := 10) B dX12_lesser_10 rfl rfl (Nat.le_of_ble_eq_true rfl) (Nat.le_of_ble_eq_true rfl) rfl
set_option maxHeartbeats 4000000 in
set_option maxRecDepth 100000 in
theorem m_Model_of {X : z_X} (hX : z_ok X) {G : z_Gr} {a : Nat} (ha : g_Model G a) (p0 : Int32) (p1 : Int32) (M : z_Mem) (b : Int32) (h : F_Model_of a p0 p1 M = some b) : z_Ct X yX12_of cX12_of 3 (some .int) ({ frames := 0, cells := 0, slots := 0, locals := 0 } : Room) [.ref a, .int p0, .int p1] G M (fun o9 G9 M9 => G9 = G ∧ (o9, M9) = (z_ci M) b) := by
  refine z_enter hX (by decide) (Nat.le_of_ble_eq_true rfl) h (fun F B hR => ?_)
  show z_K X F 3 0 0 G (z_ci M) b 0 0 0 [(0, .ref a), (1, .int p0), (2, .int p1)] [] M (F_Model_of a p0 p1 M)
  unfold F_Model_of
  refine zk_aload_n (pc := 0) B dX12_of_0 0 rfl rfl ?_
  refine zk_getr (pc := 1) B kx_12 (gModel_s ha) 1 (by decide) kf_12_7 rfl (gModel_f1 ha) dX12_of_1 ?_
  refine zk_sipush (v := 173) (pc := 4) B dX12_of_4 (by decide) ?_
  refine zk_bipush (v := 17) (pc := 7) B dX12_of_7 (by decide) ?_
  refine zk_iload_n (pc := 9) B dX12_of_9 1 rfl rfl ?_
  refine zk_imul (pc := 10) B dX12_of_10 ?_
  refine zk_iadd (pc := 11) B dX12_of_11 ?_
  refine zk_iload_n (pc := 12) B dX12_of_12 2 rfl rfl ?_
  refine zk_iadd (pc := 13) B dX12_of_13 ?_
  refine zk_iald (pc := 14) B (gModel_t1 ha) dX12_of_14 ?_
  exact zk_iret (pc := 15) B dX12_of_15 rfl rfl (Nat.le_of_ble_eq_true rfl) (Nat.le_of_ble_eq_true rfl) rfl
set_option maxHeartbeats 4000000 in
set_option maxRecDepth 100000 in
theorem m_Model_sets {X : z_X} (hX : z_ok X) {G : z_Gr} {a : Nat} (ha : g_Model G a) (p0 : Int32) (p1 : Int32) (p2 : Int32) (M : z_Mem) (b : z_Mem) (h : F_Model_sets a p0 p1 p2 M = some b) : z_Ct X yX12_sets cX12_sets 4 none ({ frames := 0, cells := 0, slots := 0, locals := 0 } : Room) [.ref a, .int p0, .int p1, .int p2] G M (fun o9 G9 M9 => G9 = G ∧ (o9, M9) = z_cvm b) := by
  refine z_enter hX (by decide) (Nat.le_of_ble_eq_true rfl) h (fun F B hR => ?_)
  show z_K X F 4 0 0 G z_cvm b 0 0 0 [(0, .ref a), (1, .int p0), (2, .int p1), (3, .int p2)] [] M (F_Model_sets a p0 p1 p2 M)
  unfold F_Model_sets
  refine zk_aload_n (pc := 0) B dX12_sets_0 0 rfl rfl ?_
  refine zk_getr (pc := 1) B kx_12 (gModel_s ha) 1 (by decide) kf_12_7 rfl (gModel_f1 ha) dX12_sets_1 ?_
  refine zk_sipush (v := 173) (pc := 4) B dX12_sets_4 (by decide) ?_
  refine zk_bipush (v := 17) (pc := 7) B dX12_sets_7 (by decide) ?_
  refine zk_iload_n (pc := 9) B dX12_sets_9 1 rfl rfl ?_
  refine zk_imul (pc := 10) B dX12_sets_10 ?_
  refine zk_iadd (pc := 11) B dX12_sets_11 ?_
  refine zk_iload_n (pc := 12) B dX12_sets_12 2 rfl rfl ?_
  refine zk_iadd (pc := 13) B dX12_sets_13 ?_
  refine zk_iload_n (pc := 14) B dX12_sets_14 3 rfl rfl ?_
  refine zk_iast (pc := 15) B (gModel_t1 ha) dX12_sets_15 ?_
  refine zk_lm (fun M1 => ?_)
  exact zk_vret (pc := 16) B dX12_sets_16 rfl (Nat.le_of_ble_eq_true rfl) (Nat.le_of_ble_eq_true rfl) rfl
set_option maxHeartbeats 4000000 in
set_option maxRecDepth 100000 in
theorem m_Model_in2 {X : z_X} (hX : z_ok X) {G : z_Gr} {a : Nat} (ha : g_Model G a) (p0 : Int32) (p1 : Int32) (M : z_Mem) (b : Int32) (h : F_Model_in2 a p0 p1 M = some b) : z_Ct X yX12_in2 cX12_in2 3 (some .int) ({ frames := 0, cells := 0, slots := 0, locals := 0 } : Room) [.ref a, .int p0, .int p1] G M (fun o9 G9 M9 => G9 = G ∧ (o9, M9) = (z_ci M) b) := by
  refine z_enter hX (by decide) (Nat.le_of_ble_eq_true rfl) h (fun F B hR => ?_)
  show z_K X F 3 0 0 G (z_ci M) b 0 0 0 [(0, .ref a), (1, .int p0), (2, .int p1)] [] M (F_Model_in2 a p0 p1 M)
  unfold F_Model_in2
  refine zk_aload_n (pc := 0) B dX12_in2_0 0 rfl rfl ?_
  refine zk_getr (pc := 1) B kx_12 (gModel_s ha) 1 (by decide) kf_12_7 rfl (gModel_f1 ha) dX12_in2_1 ?_
  refine zk_bipush (v := 13) (pc := 4) B dX12_in2_4 (by decide) ?_
  refine zk_bipush (v := 40) (pc := 6) B dX12_in2_6 (by decide) ?_
  refine zk_iload_n (pc := 8) B dX12_in2_8 1 rfl rfl ?_
  refine zk_imul (pc := 9) B dX12_in2_9 ?_
  refine zk_iadd (pc := 10) B dX12_in2_10 ?_
  refine zk_iload_n (pc := 11) B dX12_in2_11 2 rfl rfl ?_
  refine zk_iadd (pc := 12) B dX12_in2_12 ?_
  refine zk_iald (pc := 13) B (gModel_t1 ha) dX12_in2_13 ?_
  exact zk_iret (pc := 14) B dX12_in2_14 rfl rfl (Nat.le_of_ble_eq_true rfl) (Nat.le_of_ble_eq_true rfl) rfl
set_option maxHeartbeats 4000000 in
set_option maxRecDepth 100000 in
theorem m_Model_lays2 {X : z_X} (hX : z_ok X) {G : z_Gr} {a : Nat} (ha : g_Model G a) (p0 : Int32) (p1 : Int32) (p2 : Int32) (M : z_Mem) (b : z_Mem) (h : F_Model_lays2 a p0 p1 p2 M = some b) : z_Ct X yX12_lays2 cX12_lays2 4 none ({ frames := 0, cells := 0, slots := 0, locals := 0 } : Room) [.ref a, .int p0, .int p1, .int p2] G M (fun o9 G9 M9 => G9 = G ∧ (o9, M9) = z_cvm b) := by
  refine z_enter hX (by decide) (Nat.le_of_ble_eq_true rfl) h (fun F B hR => ?_)
  show z_K X F 4 0 0 G z_cvm b 0 0 0 [(0, .ref a), (1, .int p0), (2, .int p1), (3, .int p2)] [] M (F_Model_lays2 a p0 p1 p2 M)
  unfold F_Model_lays2
  refine zk_aload_n (pc := 0) B dX12_lays2_0 0 rfl rfl ?_
  refine zk_getr (pc := 1) B kx_12 (gModel_s ha) 1 (by decide) kf_12_7 rfl (gModel_f1 ha) dX12_lays2_1 ?_
  refine zk_bipush (v := 13) (pc := 4) B dX12_lays2_4 (by decide) ?_
  refine zk_bipush (v := 40) (pc := 6) B dX12_lays2_6 (by decide) ?_
  refine zk_iload_n (pc := 8) B dX12_lays2_8 1 rfl rfl ?_
  refine zk_imul (pc := 9) B dX12_lays2_9 ?_
  refine zk_iadd (pc := 10) B dX12_lays2_10 ?_
  refine zk_iload_n (pc := 11) B dX12_lays2_11 2 rfl rfl ?_
  refine zk_iadd (pc := 12) B dX12_lays2_12 ?_
  refine zk_iload_n (pc := 13) B dX12_lays2_13 3 rfl rfl ?_
  refine zk_iast (pc := 14) B (gModel_t1 ha) dX12_lays2_14 ?_
  refine zk_lm (fun M1 => ?_)
  exact zk_vret (pc := 15) B dX12_lays2_15 rfl (Nat.le_of_ble_eq_true rfl) (Nat.le_of_ble_eq_true rfl) rfl
set_option maxHeartbeats 4000000 in
set_option maxRecDepth 100000 in
theorem m_Model_grows {X : z_X} (hX : z_ok X) {G : z_Gr} {a : Nat} (ha : g_Model G a) (p0 : Int32) (p1 : Int32) (p2 : Int32) (M : z_Mem) (b : z_Mem) (h : F_Model_grows a p0 p1 p2 M = some b) : z_Ct X yX12_grows cX12_grows 4 none ({ frames := 0, cells := 0, slots := 0, locals := 0 } : Room) [.ref a, .int p0, .int p1, .int p2] G M (fun o9 G9 M9 => G9 = G ∧ (o9, M9) = z_cvm b) := by
  refine z_enter hX (by decide) (Nat.le_of_ble_eq_true rfl) h (fun F B hR => ?_)
  show z_K X F 4 0 0 G z_cvm b 0 0 0 [(0, .ref a), (1, .int p0), (2, .int p1), (3, .int p2)] [] M (F_Model_grows a p0 p1 p2 M)
  unfold F_Model_grows
  refine zk_aload_n (pc := 0) B dX12_grows_0 0 rfl rfl ?_
  refine zk_getr (pc := 1) B kx_12 (gModel_s ha) 1 (by decide) kf_12_7 rfl (gModel_f1 ha) dX12_grows_1 ?_
  refine zk_bipush (v := 13) (pc := 4) B dX12_grows_4 (by decide) ?_
  refine zk_bipush (v := 40) (pc := 6) B dX12_grows_6 (by decide) ?_
  refine zk_iload_n (pc := 8) B dX12_grows_8 1 rfl rfl ?_
  refine zk_imul (pc := 9) B dX12_grows_9 ?_
  refine zk_iadd (pc := 10) B dX12_grows_10 ?_
  refine zk_iload_n (pc := 11) B dX12_grows_11 2 rfl rfl ?_
  refine zk_iadd (pc := 12) B dX12_grows_12 ?_
  refine zk_dup2 (pc := 13) B dX12_grows_13 rfl rfl ?_
  refine zk_iald (pc := 14) B (gModel_t1 ha) dX12_grows_14 ?_
  refine zk_iload_n (pc := 15) B dX12_grows_15 3 rfl rfl ?_
  refine zk_iadd (pc := 16) B dX12_grows_16 ?_
  refine zk_iast (pc := 17) B (gModel_t1 ha) dX12_grows_17 ?_
  refine zk_lm (fun M1 => ?_)
  exact zk_vret (pc := 18) B dX12_grows_18 rfl (Nat.le_of_ble_eq_true rfl) (Nat.le_of_ble_eq_true rfl) rfl
set_option maxHeartbeats 4000000 in
set_option maxRecDepth 100000 in
theorem m_Model_ruled {X : z_X} (hX : z_ok X) {G : z_Gr} {a : Nat} (ha : g_Model G a) (p0 : Int32) (M : z_Mem) (b : Int32) (h : F_Model_ruled a p0 M = some b) : z_Ct X yX12_ruled cX12_ruled 2 (some .int) ({ frames := 0, cells := 0, slots := 0, locals := 0 } : Room) [.ref a, .int p0] G M (fun o9 G9 M9 => G9 = G ∧ (o9, M9) = (z_ci M) b) := by
  refine z_enter hX (by decide) (Nat.le_of_ble_eq_true rfl) h (fun F B hR => ?_)
  show z_K X F 2 0 0 G (z_ci M) b 0 0 0 [(0, .ref a), (1, .int p0)] [] M (F_Model_ruled a p0 M)
  unfold F_Model_ruled
  refine zk_aload_n (pc := 0) B dX12_ruled_0 0 rfl rfl ?_
  refine zk_getr (pc := 1) B kx_12 (gModel_s ha) 1 (by decide) kf_12_7 rfl (gModel_f1 ha) dX12_ruled_1 ?_
  refine zk_iconst (v := 3) (pc := 4) B dX12_ruled_4 (by decide) ?_
  refine zk_iload_n (pc := 5) B dX12_ruled_5 1 rfl rfl ?_
  refine zk_iadd (pc := 6) B dX12_ruled_6 ?_
  refine zk_iald (pc := 7) B (gModel_t1 ha) dX12_ruled_7 ?_
  exact zk_iret (pc := 8) B dX12_ruled_8 rfl rfl (Nat.le_of_ble_eq_true rfl) (Nat.le_of_ble_eq_true rfl) rfl
set_option maxHeartbeats 4000000 in
set_option maxRecDepth 100000 in
theorem m_Model_least {X : z_X} (hX : z_ok X) {G : z_Gr} (p0 : Int32) (M : z_Mem) (b : Int32) (h : F_Model_least p0 M = some b) : z_Ct X yX12_least cX12_least 1 (some .int) ({ frames := 0, cells := 0, slots := 0, locals := 0 } : Room) [.int p0] G M (fun o9 G9 M9 => G9 = G ∧ (o9, M9) = (z_ci M) b) := by
  refine z_enter hX (by decide) (Nat.le_of_ble_eq_true rfl) h (fun F B hR => ?_)
  have J11 : z_K X F 1 0 0 G (z_ci M) b 0 0 11 [] [] M (F_Model_least_J11 M) := by
    unfold F_Model_least_J11
    refine zk_iconst (v := 1) (pc := 11) B dX12_least_11 (by decide) ?_
    refine zk_goto (tgt := 16) (pc := 12) B dX12_least_12 (by decide) ?_
    exact zk_iret (pc := 16) B dX12_least_16 rfl rfl (Nat.le_of_ble_eq_true rfl) (Nat.le_of_ble_eq_true rfl) rfl
  show z_K X F 1 0 0 G (z_ci M) b 0 0 0 [(0, .int p0)] [] M (F_Model_least p0 M)
  unfold F_Model_least
  refine zk_iload_n (pc := 0) B dX12_least_0 0 rfl rfl ?_
  refine zk_iconst (v := 5) (pc := 1) B dX12_least_1 (by decide) ?_
  refine zk_icmp_eq (tgt := 11) (pc := 2) B dX12_least_2 (by decide) (fun _ => ?_) (fun _ => ?_)
  · refine zk_sub [] rfl ?_
    exact J11
  · refine zk_iload_n (pc := 5) B dX12_least_5 0 rfl rfl ?_
    refine zk_bipush (v := 6) (pc := 6) B dX12_least_6 (by decide) ?_
    refine zk_icmp_ne (tgt := 15) (pc := 8) B dX12_least_8 (by decide) (fun _ => ?_) (fun _ => ?_)
    · refine zk_iconst (v := 0) (pc := 15) B dX12_least_15 (by decide) ?_
      exact zk_iret (pc := 16) B dX12_least_16 rfl rfl (Nat.le_of_ble_eq_true rfl) (Nat.le_of_ble_eq_true rfl) rfl
    · refine zk_sub [] rfl ?_
      exact J11
set_option maxHeartbeats 4000000 in
set_option maxRecDepth 100000 in
theorem m_Model_most {X : z_X} (hX : z_ok X) {G : z_Gr} (p0 : Int32) (M : z_Mem) (b : Int32) (h : F_Model_most p0 M = some b) : z_Ct X yX12_most cX12_most 1 (some .int) ({ frames := 0, cells := 0, slots := 0, locals := 0 } : Room) [.int p0] G M (fun o9 G9 M9 => G9 = G ∧ (o9, M9) = (z_ci M) b) := by
  refine z_enter hX (by decide) (Nat.le_of_ble_eq_true rfl) h (fun F B hR => ?_)
  show z_K X F 1 0 0 G (z_ci M) b 0 0 0 [(0, .int p0)] [] M (F_Model_most p0 M)
  unfold F_Model_most
  refine zk_iload_n (pc := 0) B dX12_most_0 0 rfl rfl ?_
  refine zk_if (fun hs => zk_tin (v := 0) (tgt := 44) (pc := 1) B dX12_most_1 hs (by decide) (by decide) rfl (by decide) ?_) (fun hn1_0 => ?_)
  · refine zk_bipush (v := 60) (pc := 44) B dX12_most_44 (by decide) ?_
    exact zk_iret (pc := 46) B dX12_most_46 rfl rfl (Nat.le_of_ble_eq_true rfl) (Nat.le_of_ble_eq_true rfl) rfl
  · refine zk_if (fun hs => zk_tin (v := 1) (tgt := 47) (pc := 1) B dX12_most_1 hs (by decide) (by decide) rfl (by decide) ?_) (fun hn1_1 => ?_)
    · refine zk_bipush (v := 9) (pc := 47) B dX12_most_47 (by decide) ?_
      exact zk_iret (pc := 49) B dX12_most_49 rfl rfl (Nat.le_of_ble_eq_true rfl) (Nat.le_of_ble_eq_true rfl) rfl
    · refine zk_if (fun hs => zk_tin (v := 2) (tgt := 50) (pc := 1) B dX12_most_1 hs (by decide) (by decide) rfl (by decide) ?_) (fun hn1_2 => ?_)
      · refine zk_bipush (v := 60) (pc := 50) B dX12_most_50 (by decide) ?_
        exact zk_iret (pc := 52) B dX12_most_52 rfl rfl (Nat.le_of_ble_eq_true rfl) (Nat.le_of_ble_eq_true rfl) rfl
      · refine zk_if (fun hs => zk_tin (v := 3) (tgt := 53) (pc := 1) B dX12_most_1 hs (by decide) (by decide) rfl (by decide) ?_) (fun hn1_3 => ?_)
        · refine zk_bipush (v := 30) (pc := 53) B dX12_most_53 (by decide) ?_
          exact zk_iret (pc := 55) B dX12_most_55 rfl rfl (Nat.le_of_ble_eq_true rfl) (Nat.le_of_ble_eq_true rfl) rfl
        · refine zk_if (fun hs => zk_tin (v := 4) (tgt := 56) (pc := 1) B dX12_most_1 hs (by decide) (by decide) rfl (by decide) ?_) (fun hn1_4 => ?_)
          · refine zk_sipush (v := 9999) (pc := 56) B dX12_most_56 (by decide) ?_
            exact zk_iret (pc := 59) B dX12_most_59 rfl rfl (Nat.le_of_ble_eq_true rfl) (Nat.le_of_ble_eq_true rfl) rfl
          · refine zk_if (fun hs => zk_tin (v := 5) (tgt := 60) (pc := 1) B dX12_most_1 hs (by decide) (by decide) rfl (by decide) ?_) (fun hn1_5 => ?_)
            · refine zk_sipush (v := 999) (pc := 60) B dX12_most_60 (by decide) ?_
              exact zk_iret (pc := 63) B dX12_most_63 rfl rfl (Nat.le_of_ble_eq_true rfl) (Nat.le_of_ble_eq_true rfl) rfl
            · refine zk_if (fun hs => zk_tin (v := 6) (tgt := 64) (pc := 1) B dX12_most_1 hs (by decide) (by decide) rfl (by decide) ?_) (fun hn1_6 => ?_)
              · refine zk_bipush (v := 99) (pc := 64) B dX12_most_64 (by decide) ?_
                exact zk_iret (pc := 66) B dX12_most_66 rfl rfl (Nat.le_of_ble_eq_true rfl) (Nat.le_of_ble_eq_true rfl) rfl
              · refine zk_tout (pc := 1)  (tgt := 67) B dX12_most_1 (by have q0 := z_ne hn1_0 (z := 0) (by decide); have q1 := z_ne hn1_1 (z := 1) (by decide); have q2 := z_ne hn1_2 (z := 2) (by decide); have q3 := z_ne hn1_3 (z := 3) (by decide); have q4 := z_ne hn1_4 (z := 4) (by decide); have q5 := z_ne hn1_5 (z := 5) (by decide); have q6 := z_ne hn1_6 (z := 6) (by decide); omega) (by decide) ?_
                refine zk_bipush (v := 90) (pc := 67) B dX12_most_67 (by decide) ?_
                exact zk_iret (pc := 69) B dX12_most_69 rfl rfl (Nat.le_of_ble_eq_true rfl) (Nat.le_of_ble_eq_true rfl) rfl
set_option maxHeartbeats 4000000 in
set_option maxRecDepth 100000 in
theorem m_Model_lays {X : z_X} (hX : z_ok X) {G : z_Gr} {a : Nat} (ha : g_Model G a) (p0 : Int32) (M : z_Mem) (b : z_Mem) (h : F_Model_lays a p0 M = some b) : z_Ct X yX12_lays cX12_lays 3 none ({ frames := 0, cells := 0, slots := 0, locals := 0 } : Room) [.ref a, .int p0] G M (fun o9 G9 M9 => G9 = G ∧ (o9, M9) = z_cvm b) := by
  refine z_enter hX (by decide) (Nat.le_of_ble_eq_true rfl) h (fun F B hR => ?_)
  have L3 : ∀ (nf3 : Nat), ∀ (v1 : Int32) (v2 : Int32) (M : z_Mem), z_K X F 3 0 0 G z_cvm b 0 0 3 [(0, .ref a), (1, .int v1), (2, .int v2)] [] M (F_Model_lays_L3 a nf3 v1 v2 M) := by
    intro nf3
    induction nf3 with
    | zero => intro v1 v2 M; exact zk_none
    | succ nf3 ih3 =>
      intro v1 v2 M
      show z_K X F 3 0 0 G z_cvm b 0 0 3 [(0, .ref a), (1, .int v1), (2, .int v2)] [] M (F_Model_lays_B3 a (F_Model_lays_L3 a nf3) v1 v2 M)
      unfold F_Model_lays_B3
      refine zk_iload_n (pc := 3) B dX12_lays_3 2 rfl rfl ?_
      refine zk_if_lt (tgt := 39) (pc := 4) B dX12_lays_4 (by decide) (fun _ => ?_) (fun _ => ?_)
      · exact zk_vret (pc := 39) B dX12_lays_39 rfl (Nat.le_of_ble_eq_true rfl) (Nat.le_of_ble_eq_true rfl) rfl
      · refine zk_aload_n (pc := 7) B dX12_lays_7 0 rfl rfl ?_
        refine zk_getr (pc := 8) B kx_12 (gModel_s ha) 22 (by decide) kf_12_43 rfl (gModel_f22 ha) dX12_lays_8 ?_
        refine zk_aload_n (pc := 11) B dX12_lays_11 0 rfl rfl ?_
        refine zk_geti (pc := 12) B kx_12 (gModel_s ha) 23 (by decide) kf_12_130 rfl dX12_lays_12 ?_
        refine zk_iload_n (pc := 15) B dX12_lays_15 1 rfl rfl ?_
        refine zk_iload_n (pc := 16) B dX12_lays_16 2 rfl rfl ?_
        refine zk_ishr (pc := 17) B dX12_lays_17 ?_
        refine zk_sipush (v := 255) (pc := 18) B dX12_lays_18 (by decide) ?_
        refine zk_iand (pc := 21) B dX12_lays_21 ?_
        refine zk_iast (pc := 22) B (gModel_t22 ha) dX12_lays_22 ?_
        refine zk_lm (fun M1 => ?_)
        refine zk_aload_n (pc := 23) B dX12_lays_23 0 rfl rfl ?_
        refine zk_dup (pc := 24) B dX12_lays_24 rfl ?_
        refine zk_geti (pc := 25) B kx_12 (gModel_s ha) 23 (by decide) kf_12_130 rfl dX12_lays_25 ?_
        refine zk_iconst (v := 1) (pc := 28) B dX12_lays_28 (by decide) ?_
        refine zk_iadd (pc := 29) B dX12_lays_29 ?_
        refine zk_puti (pc := 30) B kx_12 (gModel_s ha) 23 (by decide) kf_12_130 rfl rfl rfl rfl dX12_lays_30 ?_
        refine zk_lm (fun M2 => ?_)
        refine zk_iinc (y := (-8)) (lf := fun x3 => [(2, .int x3), (0, .ref a), (1, .int v1)]) (pc := 33) B dX12_lays_33 2 rfl (by decide) (by decide) (fun _ => rfl) (fun x3 => ?_)
        refine zk_goto (tgt := 3) (pc := 36) B dX12_lays_36 (by decide) ?_
        refine zk_sub [1, 2, 0] rfl ?_
        exact ih3 v1 x3 M2
  show z_K X F 3 0 0 G z_cvm b 0 0 0 [(0, .ref a), (1, .int p0)] [] M (F_Model_lays a p0 M)
  unfold F_Model_lays
  refine zk_bipush (v := 24) (pc := 0) B dX12_lays_0 (by decide) ?_
  refine zk_istore_n (loc' := [(2, .int 24), (0, .ref a), (1, .int p0)]) (pc := 2) B dX12_lays_2 rfl (by decide) rfl ?_
  refine zk_sub [1, 2, 0] rfl ?_
  exact L3 10000 p0 24 M
set_option maxHeartbeats 4000000 in
set_option maxRecDepth 100000 in
theorem m_Model_feed {X : z_X} (hX : z_ok X) {G : z_Gr} {a : Nat} (ha : g_Model G a) (p0 : Int32) (p1 : Int32) (p2 : Int32) (p3 : Int32) (p4 : Int32) (M : z_Mem) (b : Int32 × z_Mem) (h : F_Model_feed a p0 p1 p2 p3 p4 M = some b) : z_Ct X yX12_feed cX12_feed 6 (some .int) ({ frames := 1, cells := 0, slots := 0, locals := 22 } : Room) [.ref a, .int p0, .int p1, .int p2, .int p3, .int p4] G M (fun o9 G9 M9 => G9 = G ∧ (o9, M9) = z_cim b) := by
  refine z_enter hX (by decide) (Nat.le_of_ble_eq_true rfl) h (fun F B hR => ?_)
  show z_K X F 6 0 0 G z_cim b 0 0 0 [(0, .ref a), (1, .int p0), (2, .int p1), (3, .int p2), (4, .int p3), (5, .int p4)] [] M (F_Model_feed a p0 p1 p2 p3 p4 M)
  unfold F_Model_feed
  refine zk_aload_n (pc := 0) B dX12_feed_0 0 rfl rfl ?_
  refine zk_iconst (v := 0) (pc := 1) B dX12_feed_1 (by decide) ?_
  refine zk_puti (pc := 2) B kx_12 (gModel_s ha) 0 (by decide) kf_12_93 rfl rfl rfl rfl dX12_feed_2 ?_
  refine zk_lm (fun M1 => ?_)
  refine zk_aload_n (pc := 5) B dX12_feed_5 0 rfl rfl ?_
  refine zk_geti (pc := 6) B kx_12 (gModel_s ha) 23 (by decide) kf_12_130 rfl dX12_feed_6 ?_
  refine zk_bipush (v := 20) (pc := 9) B dX12_feed_9 (by decide) ?_
  refine zk_iadd (pc := 11) B dX12_feed_11 ?_
  refine zk_sipush (v := 800) (pc := 12) B dX12_feed_12 (by decide) ?_
  refine zk_icmp_le (tgt := 20) (pc := 15) B dX12_feed_15 (by decide) (fun _ => ?_) (fun _ => ?_)
  · refine zk_aload_n (pc := 20) B dX12_feed_20 0 rfl rfl ?_
    refine zk_iload_n (pc := 21) B dX12_feed_21 1 rfl rfl ?_
    refine zk_cvm (pc := 22) (k' := 0) (n' := 0) B rfl rfl (Nat.le_of_ble_eq_true rfl) (Nat.le_of_ble_eq_true rfl) (fun b hb => zr_V B hR kV_yX12_lays km_12_133 kx_12 (gModel_s ha) [.int p0] rfl rfl (Nat.le_of_ble_eq_true rfl) dX12_feed_22 (m_Model_lays hX ha p0 M1 b hb) ⟨Nat.le_of_ble_eq_true rfl, Nat.le_of_ble_eq_true rfl⟩ ⟨Nat.le_of_ble_eq_true rfl, Nat.le_of_ble_eq_true rfl⟩) (fun M2 => ?_)
    refine zk_aload_n (pc := 25) B dX12_feed_25 0 rfl rfl ?_
    refine zk_iload_n (pc := 26) B dX12_feed_26 2 rfl rfl ?_
    refine zk_cvm (pc := 27) (k' := 0) (n' := 0) B rfl rfl (Nat.le_of_ble_eq_true rfl) (Nat.le_of_ble_eq_true rfl) (fun b hb => zr_V B hR kV_yX12_lays km_12_133 kx_12 (gModel_s ha) [.int p1] rfl rfl (Nat.le_of_ble_eq_true rfl) dX12_feed_27 (m_Model_lays hX ha p1 M2 b hb) ⟨Nat.le_of_ble_eq_true rfl, Nat.le_of_ble_eq_true rfl⟩ ⟨Nat.le_of_ble_eq_true rfl, Nat.le_of_ble_eq_true rfl⟩) (fun M3 => ?_)
    refine zk_aload_n (pc := 30) B dX12_feed_30 0 rfl rfl ?_
    refine zk_iload_n (pc := 31) B dX12_feed_31 3 rfl rfl ?_
    refine zk_cvm (pc := 32) (k' := 0) (n' := 0) B rfl rfl (Nat.le_of_ble_eq_true rfl) (Nat.le_of_ble_eq_true rfl) (fun b hb => zr_V B hR kV_yX12_lays km_12_133 kx_12 (gModel_s ha) [.int p2] rfl rfl (Nat.le_of_ble_eq_true rfl) dX12_feed_32 (m_Model_lays hX ha p2 M3 b hb) ⟨Nat.le_of_ble_eq_true rfl, Nat.le_of_ble_eq_true rfl⟩ ⟨Nat.le_of_ble_eq_true rfl, Nat.le_of_ble_eq_true rfl⟩) (fun M4 => ?_)
    refine zk_aload_n (pc := 35) B dX12_feed_35 0 rfl rfl ?_
    refine zk_iload (pc := 36) B dX12_feed_36 4 rfl ?_
    refine zk_cvm (pc := 38) (k' := 0) (n' := 0) B rfl rfl (Nat.le_of_ble_eq_true rfl) (Nat.le_of_ble_eq_true rfl) (fun b hb => zr_V B hR kV_yX12_lays km_12_133 kx_12 (gModel_s ha) [.int p3] rfl rfl (Nat.le_of_ble_eq_true rfl) dX12_feed_38 (m_Model_lays hX ha p3 M4 b hb) ⟨Nat.le_of_ble_eq_true rfl, Nat.le_of_ble_eq_true rfl⟩ ⟨Nat.le_of_ble_eq_true rfl, Nat.le_of_ble_eq_true rfl⟩) (fun M5 => ?_)
    refine zk_aload_n (pc := 41) B dX12_feed_41 0 rfl rfl ?_
    refine zk_iload (pc := 42) B dX12_feed_42 5 rfl ?_
    refine zk_cvm (pc := 44) (k' := 0) (n' := 0) B rfl rfl (Nat.le_of_ble_eq_true rfl) (Nat.le_of_ble_eq_true rfl) (fun b hb => zr_V B hR kV_yX12_lays km_12_133 kx_12 (gModel_s ha) [.int p4] rfl rfl (Nat.le_of_ble_eq_true rfl) dX12_feed_44 (m_Model_lays hX ha p4 M5 b hb) ⟨Nat.le_of_ble_eq_true rfl, Nat.le_of_ble_eq_true rfl⟩ ⟨Nat.le_of_ble_eq_true rfl, Nat.le_of_ble_eq_true rfl⟩) (fun M6 => ?_)
    refine zk_aload_n (pc := 47) B dX12_feed_47 0 rfl rfl ?_
    refine zk_geti (pc := 48) B kx_12 (gModel_s ha) 23 (by decide) kf_12_130 rfl dX12_feed_48 ?_
    exact zk_iret (pc := 51) B dX12_feed_51 rfl rfl (Nat.le_of_ble_eq_true rfl) (Nat.le_of_ble_eq_true rfl) rfl
  · refine zk_iconst (v := (-1)) (pc := 18) B dX12_feed_18 (by decide) ?_
    exact zk_iret (pc := 19) B dX12_feed_19 rfl rfl (Nat.le_of_ble_eq_true rfl) (Nat.le_of_ble_eq_true rfl) rfl
set_option maxHeartbeats 4000000 in
set_option maxRecDepth 100000 in
theorem m_Model_errorPosition {X : z_X} (hX : z_ok X) {G : z_Gr} {a : Nat} (ha : g_Model G a) (M : z_Mem) (b : Int32 × z_Mem) (h : F_Model_errorPosition a M = some b) : z_Ct X yX12_errorPosition cX12_errorPosition 1 (some .int) ({ frames := 0, cells := 0, slots := 0, locals := 0 } : Room) [.ref a] G M (fun o9 G9 M9 => G9 = G ∧ (o9, M9) = z_cim b) := by
  refine z_enter hX (by decide) (Nat.le_of_ble_eq_true rfl) h (fun F B hR => ?_)
  show z_K X F 1 0 0 G z_cim b 0 0 0 [(0, .ref a)] [] M (F_Model_errorPosition a M)
  unfold F_Model_errorPosition
  refine zk_aload_n (pc := 0) B dX12_errorPosition_0 0 rfl rfl ?_
  refine zk_iconst (v := 0) (pc := 1) B dX12_errorPosition_1 (by decide) ?_
  refine zk_puti (pc := 2) B kx_12 (gModel_s ha) 0 (by decide) kf_12_93 rfl rfl rfl rfl dX12_errorPosition_2 ?_
  refine zk_lm (fun M1 => ?_)
  refine zk_aload_n (pc := 5) B dX12_errorPosition_5 0 rfl rfl ?_
  refine zk_geti (pc := 6) B kx_12 (gModel_s ha) 31 (by decide) kf_12_46 rfl dX12_errorPosition_6 ?_
  exact zk_iret (pc := 9) B dX12_errorPosition_9 rfl rfl (Nat.le_of_ble_eq_true rfl) (Nat.le_of_ble_eq_true rfl) rfl
set_option maxHeartbeats 4000000 in
set_option maxRecDepth 100000 in
theorem m_Model_byteAt {X : z_X} (hX : z_ok X) {G : z_Gr} {a : Nat} (ha : g_Model G a) (p0 : Int32) (M : z_Mem) (b : Int32) (h : F_Model_byteAt a p0 M = some b) : z_Ct X yX12_byteAt cX12_byteAt 2 (some .int) ({ frames := 0, cells := 0, slots := 0, locals := 0 } : Room) [.ref a, .int p0] G M (fun o9 G9 M9 => G9 = G ∧ (o9, M9) = (z_ci M) b) := by
  refine z_enter hX (by decide) (Nat.le_of_ble_eq_true rfl) h (fun F B hR => ?_)
  show z_K X F 2 0 0 G (z_ci M) b 0 0 0 [(0, .ref a), (1, .int p0)] [] M (F_Model_byteAt a p0 M)
  unfold F_Model_byteAt
  refine zk_iload_n (pc := 0) B dX12_byteAt_0 1 rfl rfl ?_
  refine zk_aload_n (pc := 1) B dX12_byteAt_1 0 rfl rfl ?_
  refine zk_geti (pc := 2) B kx_12 (gModel_s ha) 24 (by decide) kf_12_136 rfl dX12_byteAt_2 ?_
  refine zk_icmp_ge (tgt := 17) (pc := 5) B dX12_byteAt_5 (by decide) (fun _ => ?_) (fun _ => ?_)
  · refine zk_iconst (v := (-1)) (pc := 17) B dX12_byteAt_17 (by decide) ?_
    exact zk_iret (pc := 18) B dX12_byteAt_18 rfl rfl (Nat.le_of_ble_eq_true rfl) (Nat.le_of_ble_eq_true rfl) rfl
  · refine zk_aload_n (pc := 8) B dX12_byteAt_8 0 rfl rfl ?_
    refine zk_getr (pc := 9) B kx_12 (gModel_s ha) 22 (by decide) kf_12_43 rfl (gModel_f22 ha) dX12_byteAt_9 ?_
    refine zk_iload_n (pc := 12) B dX12_byteAt_12 1 rfl rfl ?_
    refine zk_iald (pc := 13) B (gModel_t22 ha) dX12_byteAt_13 ?_
    refine zk_goto (tgt := 18) (pc := 14) B dX12_byteAt_14 (by decide) ?_
    exact zk_iret (pc := 18) B dX12_byteAt_18 rfl rfl (Nat.le_of_ble_eq_true rfl) (Nat.le_of_ble_eq_true rfl) rfl
set_option maxHeartbeats 4000000 in
set_option maxRecDepth 100000 in
theorem m_Model_isLetter {X : z_X} (hX : z_ok X) {G : z_Gr} (p0 : Int32) (M : z_Mem) (b : Int32) (h : F_Model_isLetter p0 M = some b) : z_Ct X yX12_isLetter cX12_isLetter 1 (some .boolean) ({ frames := 0, cells := 0, slots := 0, locals := 0 } : Room) [.int p0] G M (fun o9 G9 M9 => G9 = G ∧ (o9, M9) = (z_ci M) b) := by
  refine z_enter hX (by decide) (Nat.le_of_ble_eq_true rfl) h (fun F B hR => ?_)
  show z_K X F 1 0 0 G (z_ci M) b 0 0 0 [(0, .int p0)] [] M (F_Model_isLetter p0 M)
  unfold F_Model_isLetter
  refine zk_iload_n (pc := 0) B dX12_isLetter_0 0 rfl rfl ?_
  refine zk_bipush (v := 97) (pc := 1) B dX12_isLetter_1 (by decide) ?_
  refine zk_icmp_lt (tgt := 16) (pc := 3) B dX12_isLetter_3 (by decide) (fun _ => ?_) (fun _ => ?_)
  · refine zk_iconst (v := 0) (pc := 16) B dX12_isLetter_16 (by decide) ?_
    exact zk_iret (pc := 17) B dX12_isLetter_17 rfl rfl (Nat.le_of_ble_eq_true rfl) (Nat.le_of_ble_eq_true rfl) rfl
  · refine zk_iload_n (pc := 6) B dX12_isLetter_6 0 rfl rfl ?_
    refine zk_bipush (v := 122) (pc := 7) B dX12_isLetter_7 (by decide) ?_
    refine zk_icmp_gt (tgt := 16) (pc := 9) B dX12_isLetter_9 (by decide) (fun _ => ?_) (fun _ => ?_)
    · refine zk_iconst (v := 0) (pc := 16) B dX12_isLetter_16 (by decide) ?_
      exact zk_iret (pc := 17) B dX12_isLetter_17 rfl rfl (Nat.le_of_ble_eq_true rfl) (Nat.le_of_ble_eq_true rfl) rfl
    · refine zk_iconst (v := 1) (pc := 12) B dX12_isLetter_12 (by decide) ?_
      refine zk_goto (tgt := 17) (pc := 13) B dX12_isLetter_13 (by decide) ?_
      exact zk_iret (pc := 17) B dX12_isLetter_17 rfl rfl (Nat.le_of_ble_eq_true rfl) (Nat.le_of_ble_eq_true rfl) rfl
set_option maxHeartbeats 4000000 in
set_option maxRecDepth 100000 in
theorem m_Model_isFigure {X : z_X} (hX : z_ok X) {G : z_Gr} (p0 : Int32) (M : z_Mem) (b : Int32) (h : F_Model_isFigure p0 M = some b) : z_Ct X yX12_isFigure cX12_isFigure 1 (some .boolean) ({ frames := 0, cells := 0, slots := 0, locals := 0 } : Room) [.int p0] G M (fun o9 G9 M9 => G9 = G ∧ (o9, M9) = (z_ci M) b) := by
  refine z_enter hX (by decide) (Nat.le_of_ble_eq_true rfl) h (fun F B hR => ?_)
  show z_K X F 1 0 0 G (z_ci M) b 0 0 0 [(0, .int p0)] [] M (F_Model_isFigure p0 M)
  unfold F_Model_isFigure
  refine zk_iload_n (pc := 0) B dX12_isFigure_0 0 rfl rfl ?_
  refine zk_bipush (v := 48) (pc := 1) B dX12_isFigure_1 (by decide) ?_
  refine zk_icmp_lt (tgt := 16) (pc := 3) B dX12_isFigure_3 (by decide) (fun _ => ?_) (fun _ => ?_)
  · refine zk_iconst (v := 0) (pc := 16) B dX12_isFigure_16 (by decide) ?_
    exact zk_iret (pc := 17) B dX12_isFigure_17 rfl rfl (Nat.le_of_ble_eq_true rfl) (Nat.le_of_ble_eq_true rfl) rfl
  · refine zk_iload_n (pc := 6) B dX12_isFigure_6 0 rfl rfl ?_
    refine zk_bipush (v := 57) (pc := 7) B dX12_isFigure_7 (by decide) ?_
    refine zk_icmp_gt (tgt := 16) (pc := 9) B dX12_isFigure_9 (by decide) (fun _ => ?_) (fun _ => ?_)
    · refine zk_iconst (v := 0) (pc := 16) B dX12_isFigure_16 (by decide) ?_
      exact zk_iret (pc := 17) B dX12_isFigure_17 rfl rfl (Nat.le_of_ble_eq_true rfl) (Nat.le_of_ble_eq_true rfl) rfl
    · refine zk_iconst (v := 1) (pc := 12) B dX12_isFigure_12 (by decide) ?_
      refine zk_goto (tgt := 17) (pc := 13) B dX12_isFigure_13 (by decide) ?_
      exact zk_iret (pc := 17) B dX12_isFigure_17 rfl rfl (Nat.le_of_ble_eq_true rfl) (Nat.le_of_ble_eq_true rfl) rfl
set_option maxHeartbeats 4000000 in
set_option maxRecDepth 100000 in
theorem m_Model_readsWord {X : z_X} (hX : z_ok X) {G : z_Gr} {a : Nat} (ha : g_Model G a) (M : z_Mem) (b : z_Mem) (h : F_Model_readsWord a M = some b) : z_Ct X yX12_readsWord cX12_readsWord 1 none ({ frames := 1, cells := 0, slots := 0, locals := 21 } : Room) [.ref a] G M (fun o9 G9 M9 => G9 = G ∧ (o9, M9) = z_cvm b) := by
  refine z_enter hX (by decide) (Nat.le_of_ble_eq_true rfl) h (fun F B hR => ?_)
  have L5 : ∀ (nf5 : Nat), ∀  (M : z_Mem), z_K X F 1 0 0 G z_cvm b 0 0 5 [(0, .ref a)] [] M (F_Model_readsWord_L5 a nf5 M) := by
    intro nf5
    induction nf5 with
    | zero => intro  M; exact zk_none
    | succ nf5 ih5 =>
      have J60 : ∀  (M : z_Mem), z_K X F 1 0 0 G z_cvm b 0 0 60 [(0, .ref a)] [] M (F_Model_readsWord_J60 a (F_Model_readsWord_L5 a nf5) M) := by
        intro  M
        unfold F_Model_readsWord_J60
        refine zk_aload_n (pc := 60) B dX12_readsWord_60 0 rfl rfl ?_
        refine zk_dup (pc := 61) B dX12_readsWord_61 rfl ?_
        refine zk_geti (pc := 62) B kx_12 (gModel_s ha) 25 (by decide) kf_12_143 rfl dX12_readsWord_62 ?_
        refine zk_iconst (v := 1) (pc := 65) B dX12_readsWord_65 (by decide) ?_
        refine zk_iadd (pc := 66) B dX12_readsWord_66 ?_
        refine zk_puti (pc := 67) B kx_12 (gModel_s ha) 25 (by decide) kf_12_143 rfl rfl rfl rfl dX12_readsWord_67 ?_
        refine zk_lm (fun M6 => ?_)
        refine zk_goto (tgt := 5) (pc := 70) B dX12_readsWord_70 (by decide) ?_
        exact ih5 M6
      intro  M
      show z_K X F 1 0 0 G z_cvm b 0 0 5 [(0, .ref a)] [] M (F_Model_readsWord_B5 a (F_Model_readsWord_L5 a nf5) M)
      unfold F_Model_readsWord_B5
      refine zk_aload_n (pc := 5) B dX12_readsWord_5 0 rfl rfl ?_
      refine zk_aload_n (pc := 6) B dX12_readsWord_6 0 rfl rfl ?_
      refine zk_geti (pc := 7) B kx_12 (gModel_s ha) 25 (by decide) kf_12_143 rfl dX12_readsWord_7 ?_
      refine zk_cpi (pc := 10) (k' := 0) (n' := 0) B rfl rfl (Nat.le_of_ble_eq_true rfl) (Nat.le_of_ble_eq_true rfl) (fun b hb => zr_V B hR kV_yX12_byteAt km_12_146 kx_12 (gModel_s ha) [.int (M.1 a 25)] rfl rfl (Nat.le_of_ble_eq_true rfl) dX12_readsWord_10 (m_Model_byteAt hX ha (M.1 a 25) M b hb) ⟨Nat.le_of_ble_eq_true rfl, Nat.le_of_ble_eq_true rfl⟩ ⟨Nat.le_of_ble_eq_true rfl, Nat.le_of_ble_eq_true rfl⟩) (fun x2 _ => ?_)
      refine zk_cpi (pc := 13) (k' := 0) (n' := 0) B rfl rfl (Nat.le_of_ble_eq_true rfl) (Nat.le_of_ble_eq_true rfl) (fun b hb => zr_S B hR kS_yX12_isLetter km_12_150 [.int x2] rfl rfl (Nat.le_of_ble_eq_true rfl) dX12_readsWord_13 (m_Model_isLetter hX x2 M b hb) ⟨Nat.le_of_ble_eq_true rfl, Nat.le_of_ble_eq_true rfl⟩ ⟨Nat.le_of_ble_eq_true rfl, Nat.le_of_ble_eq_true rfl⟩) (fun x3 _ => ?_)
      refine zk_if_eq (tgt := 73) (pc := 16) B dX12_readsWord_16 (by decide) (fun _ => ?_) (fun _ => ?_)
      · refine zk_aload_n (pc := 73) B dX12_readsWord_73 0 rfl rfl ?_
        refine zk_iconst (v := 1) (pc := 74) B dX12_readsWord_74 (by decide) ?_
        refine zk_puti (pc := 75) B kx_12 (gModel_s ha) 27 (by decide) kf_12_161 rfl rfl rfl rfl dX12_readsWord_75 ?_
        refine zk_lm (fun M4 => ?_)
        exact zk_vret (pc := 78) B dX12_readsWord_78 rfl (Nat.le_of_ble_eq_true rfl) (Nat.le_of_ble_eq_true rfl) rfl
      · refine zk_aload_n (pc := 19) B dX12_readsWord_19 0 rfl rfl ?_
        refine zk_geti (pc := 20) B kx_12 (gModel_s ha) 25 (by decide) kf_12_143 rfl dX12_readsWord_20 ?_
        refine zk_aload_n (pc := 23) B dX12_readsWord_23 0 rfl rfl ?_
        refine zk_geti (pc := 24) B kx_12 (gModel_s ha) 26 (by decide) kf_12_154 rfl dX12_readsWord_24 ?_
        refine zk_isub (pc := 27) B dX12_readsWord_27 ?_
        refine zk_bipush (v := 10) (pc := 28) B dX12_readsWord_28 (by decide) ?_
        refine zk_icmp_ge (tgt := 60) (pc := 30) B dX12_readsWord_30 (by decide) (fun _ => ?_) (fun _ => ?_)
        · exact J60 M
        · refine zk_aload_n (pc := 33) B dX12_readsWord_33 0 rfl rfl ?_
          refine zk_ldc2 (pc := 34) B kl_12_157 dX12_readsWord_34 ?_
          refine zk_aload_n (pc := 37) B dX12_readsWord_37 0 rfl rfl ?_
          refine zk_getl (pc := 38) B kx_12 (gModel_s ha) 29 (by decide) kf_12_139 rfl dX12_readsWord_38 ?_
          refine zk_lmul (pc := 41) B dX12_readsWord_41 ?_
          refine zk_aload_n (pc := 42) B dX12_readsWord_42 0 rfl rfl ?_
          refine zk_getr (pc := 43) B kx_12 (gModel_s ha) 22 (by decide) kf_12_43 rfl (gModel_f22 ha) dX12_readsWord_43 ?_
          refine zk_aload_n (pc := 46) B dX12_readsWord_46 0 rfl rfl ?_
          refine zk_geti (pc := 47) B kx_12 (gModel_s ha) 25 (by decide) kf_12_143 rfl dX12_readsWord_47 ?_
          refine zk_iald (pc := 50) B (gModel_t22 ha) dX12_readsWord_50 ?_
          refine zk_i2l (pc := 51) B dX12_readsWord_51 ?_
          refine zk_ladd (pc := 52) B dX12_readsWord_52 ?_
          refine zk_ldc2 (pc := 53) B kl_12_159 dX12_readsWord_53 ?_
          refine zk_lsub (pc := 56) B dX12_readsWord_56 ?_
          refine zk_putl (pc := 57) B kx_12 (gModel_s ha) 29 (by decide) kf_12_139 rfl rfl dX12_readsWord_57 ?_
          refine zk_lm (fun M5 => ?_)
          exact J60 M5
  show z_K X F 1 0 0 G z_cvm b 0 0 0 [(0, .ref a)] [] M (F_Model_readsWord a M)
  unfold F_Model_readsWord
  refine zk_aload_n (pc := 0) B dX12_readsWord_0 0 rfl rfl ?_
  refine zk_lconst (v := 0) (pc := 1) B dX12_readsWord_1 (by decide) ?_
  refine zk_putl (pc := 2) B kx_12 (gModel_s ha) 29 (by decide) kf_12_139 rfl rfl dX12_readsWord_2 ?_
  refine zk_lm (fun M1 => ?_)
  exact L5 10000 M1
set_option maxHeartbeats 4000000 in
set_option maxRecDepth 100000 in
theorem m_Model_readsNumber {X : z_X} (hX : z_ok X) {G : z_Gr} {a : Nat} (ha : g_Model G a) (M : z_Mem) (b : z_Mem) (h : F_Model_readsNumber a M = some b) : z_Ct X yX12_readsNumber cX12_readsNumber 1 none ({ frames := 1, cells := 0, slots := 0, locals := 21 } : Room) [.ref a] G M (fun o9 G9 M9 => G9 = G ∧ (o9, M9) = z_cvm b) := by
  refine z_enter hX (by decide) (Nat.le_of_ble_eq_true rfl) h (fun F B hR => ?_)
  have L5 : ∀ (nf5 : Nat), ∀  (M : z_Mem), z_K X F 1 0 0 G z_cvm b 0 0 5 [(0, .ref a)] [] M (F_Model_readsNumber_L5 a nf5 M) := by
    intro nf5
    induction nf5 with
    | zero => intro  M; exact zk_none
    | succ nf5 ih5 =>
      have J56 : ∀ (s0 : Int32) (M : z_Mem), z_K X F 1 0 0 G z_cvm b 0 0 56 [(0, .ref a)] [.int s0, .ref a] M (F_Model_readsNumber_J56 a (F_Model_readsNumber_L5 a nf5) s0 M) := by
        intro s0 M
        unfold F_Model_readsNumber_J56
        refine zk_puti (pc := 56) B kx_12 (gModel_s ha) 28 (by decide) kf_12_164 rfl rfl rfl rfl dX12_readsNumber_56 ?_
        refine zk_lm (fun M5 => ?_)
        refine zk_aload_n (pc := 59) B dX12_readsNumber_59 0 rfl rfl ?_
        refine zk_dup (pc := 60) B dX12_readsNumber_60 rfl ?_
        refine zk_geti (pc := 61) B kx_12 (gModel_s ha) 25 (by decide) kf_12_143 rfl dX12_readsNumber_61 ?_
        refine zk_iconst (v := 1) (pc := 64) B dX12_readsNumber_64 (by decide) ?_
        refine zk_iadd (pc := 65) B dX12_readsNumber_65 ?_
        refine zk_puti (pc := 66) B kx_12 (gModel_s ha) 25 (by decide) kf_12_143 rfl rfl rfl rfl dX12_readsNumber_66 ?_
        refine zk_lm (fun M6 => ?_)
        refine zk_goto (tgt := 5) (pc := 69) B dX12_readsNumber_69 (by decide) ?_
        exact ih5 M6
      intro  M
      show z_K X F 1 0 0 G z_cvm b 0 0 5 [(0, .ref a)] [] M (F_Model_readsNumber_B5 a (F_Model_readsNumber_L5 a nf5) M)
      unfold F_Model_readsNumber_B5
      refine zk_aload_n (pc := 5) B dX12_readsNumber_5 0 rfl rfl ?_
      refine zk_aload_n (pc := 6) B dX12_readsNumber_6 0 rfl rfl ?_
      refine zk_geti (pc := 7) B kx_12 (gModel_s ha) 25 (by decide) kf_12_143 rfl dX12_readsNumber_7 ?_
      refine zk_cpi (pc := 10) (k' := 0) (n' := 0) B rfl rfl (Nat.le_of_ble_eq_true rfl) (Nat.le_of_ble_eq_true rfl) (fun b hb => zr_V B hR kV_yX12_byteAt km_12_146 kx_12 (gModel_s ha) [.int (M.1 a 25)] rfl rfl (Nat.le_of_ble_eq_true rfl) dX12_readsNumber_10 (m_Model_byteAt hX ha (M.1 a 25) M b hb) ⟨Nat.le_of_ble_eq_true rfl, Nat.le_of_ble_eq_true rfl⟩ ⟨Nat.le_of_ble_eq_true rfl, Nat.le_of_ble_eq_true rfl⟩) (fun x2 _ => ?_)
      refine zk_cpi (pc := 13) (k' := 0) (n' := 0) B rfl rfl (Nat.le_of_ble_eq_true rfl) (Nat.le_of_ble_eq_true rfl) (fun b hb => zr_S B hR kS_yX12_isFigure km_12_167 [.int x2] rfl rfl (Nat.le_of_ble_eq_true rfl) dX12_readsNumber_13 (m_Model_isFigure hX x2 M b hb) ⟨Nat.le_of_ble_eq_true rfl, Nat.le_of_ble_eq_true rfl⟩ ⟨Nat.le_of_ble_eq_true rfl, Nat.le_of_ble_eq_true rfl⟩) (fun x3 _ => ?_)
      refine zk_if_eq (tgt := 72) (pc := 16) B dX12_readsNumber_16 (by decide) (fun _ => ?_) (fun _ => ?_)
      · refine zk_aload_n (pc := 72) B dX12_readsNumber_72 0 rfl rfl ?_
        refine zk_iconst (v := 2) (pc := 73) B dX12_readsNumber_73 (by decide) ?_
        refine zk_puti (pc := 74) B kx_12 (gModel_s ha) 27 (by decide) kf_12_161 rfl rfl rfl rfl dX12_readsNumber_74 ?_
        refine zk_lm (fun M4 => ?_)
        exact zk_vret (pc := 77) B dX12_readsNumber_77 rfl (Nat.le_of_ble_eq_true rfl) (Nat.le_of_ble_eq_true rfl) rfl
      · refine zk_aload_n (pc := 19) B dX12_readsNumber_19 0 rfl rfl ?_
        refine zk_aload_n (pc := 20) B dX12_readsNumber_20 0 rfl rfl ?_
        refine zk_geti (pc := 21) B kx_12 (gModel_s ha) 28 (by decide) kf_12_164 rfl dX12_readsNumber_21 ?_
        refine zk_ldc (pc := 24) B kc_12_170 dX12_readsNumber_24 ?_
        refine zk_icmp_le (tgt := 36) (pc := 26) B dX12_readsNumber_26 (by decide) (fun _ => ?_) (fun _ => ?_)
        · refine zk_bipush (v := 10) (pc := 36) B dX12_readsNumber_36 (by decide) ?_
          refine zk_aload_n (pc := 38) B dX12_readsNumber_38 0 rfl rfl ?_
          refine zk_geti (pc := 39) B kx_12 (gModel_s ha) 28 (by decide) kf_12_164 rfl dX12_readsNumber_39 ?_
          refine zk_imul (pc := 42) B dX12_readsNumber_42 ?_
          refine zk_aload_n (pc := 43) B dX12_readsNumber_43 0 rfl rfl ?_
          refine zk_getr (pc := 44) B kx_12 (gModel_s ha) 22 (by decide) kf_12_43 rfl (gModel_f22 ha) dX12_readsNumber_44 ?_
          refine zk_aload_n (pc := 47) B dX12_readsNumber_47 0 rfl rfl ?_
          refine zk_geti (pc := 48) B kx_12 (gModel_s ha) 25 (by decide) kf_12_143 rfl dX12_readsNumber_48 ?_
          refine zk_iald (pc := 51) B (gModel_t22 ha) dX12_readsNumber_51 ?_
          refine zk_iadd (pc := 52) B dX12_readsNumber_52 ?_
          refine zk_bipush (v := 48) (pc := 53) B dX12_readsNumber_53 (by decide) ?_
          refine zk_isub (pc := 55) B dX12_readsNumber_55 ?_
          exact J56 (((10 * (M.1 a 28)) + (M.1 (a + 12) (M.1 a 25).toNatClampNeg)) - 48) M
        · refine zk_aload_n (pc := 29) B dX12_readsNumber_29 0 rfl rfl ?_
          refine zk_geti (pc := 30) B kx_12 (gModel_s ha) 28 (by decide) kf_12_164 rfl dX12_readsNumber_30 ?_
          refine zk_goto (tgt := 56) (pc := 33) B dX12_readsNumber_33 (by decide) ?_
          exact J56 (M.1 a 28) M
  show z_K X F 1 0 0 G z_cvm b 0 0 0 [(0, .ref a)] [] M (F_Model_readsNumber a M)
  unfold F_Model_readsNumber
  refine zk_aload_n (pc := 0) B dX12_readsNumber_0 0 rfl rfl ?_
  refine zk_iconst (v := 0) (pc := 1) B dX12_readsNumber_1 (by decide) ?_
  refine zk_puti (pc := 2) B kx_12 (gModel_s ha) 28 (by decide) kf_12_164 rfl rfl rfl rfl dX12_readsNumber_2 ?_
  refine zk_lm (fun M1 => ?_)
  exact L5 10000 M1
set_option maxHeartbeats 4000000 in
set_option maxRecDepth 100000 in
theorem m_Model_next {X : z_X} (hX : z_ok X) {G : z_Gr} {a : Nat} (ha : g_Model G a) (M : z_Mem) (b : z_Mem) (h : F_Model_next a M = some b) : z_Ct X yX12_next cX12_next 1 none ({ frames := 2, cells := 0, slots := 0, locals := 41 } : Room) [.ref a] G M (fun o9 G9 M9 => G9 = G ∧ (o9, M9) = z_cvm b) := by
  refine z_enter hX (by decide) (Nat.le_of_ble_eq_true rfl) h (fun F B hR => ?_)
  have L0 : ∀ (nf0 : Nat), ∀  (M : z_Mem), z_K X F 1 0 0 G z_cvm b 0 0 0 [(0, .ref a)] [] M (F_Model_next_L0 a nf0 M) := by
    intro nf0
    induction nf0 with
    | zero => intro  M; exact zk_none
    | succ nf0 ih0 =>
      have J26 : ∀  (M : z_Mem), z_K X F 1 0 0 G z_cvm b 0 0 26 [(0, .ref a)] [] M (F_Model_next_J26 a (F_Model_next_L0 a nf0) M) := by
        intro  M
        unfold F_Model_next_J26
        refine zk_aload_n (pc := 26) B dX12_next_26 0 rfl rfl ?_
        refine zk_dup (pc := 27) B dX12_next_27 rfl ?_
        refine zk_geti (pc := 28) B kx_12 (gModel_s ha) 25 (by decide) kf_12_143 rfl dX12_next_28 ?_
        refine zk_iconst (v := 1) (pc := 31) B dX12_next_31 (by decide) ?_
        refine zk_iadd (pc := 32) B dX12_next_32 ?_
        refine zk_puti (pc := 33) B kx_12 (gModel_s ha) 25 (by decide) kf_12_143 rfl rfl rfl rfl dX12_next_33 ?_
        refine zk_lm (fun M11 => ?_)
        refine zk_goto (tgt := 0) (pc := 36) B dX12_next_36 (by decide) ?_
        exact ih0 M11
      intro  M
      show z_K X F 1 0 0 G z_cvm b 0 0 0 [(0, .ref a)] [] M (F_Model_next_B0 a (F_Model_next_L0 a nf0) M)
      unfold F_Model_next_B0
      refine zk_aload_n (pc := 0) B dX12_next_0 0 rfl rfl ?_
      refine zk_aload_n (pc := 1) B dX12_next_1 0 rfl rfl ?_
      refine zk_geti (pc := 2) B kx_12 (gModel_s ha) 25 (by decide) kf_12_143 rfl dX12_next_2 ?_
      refine zk_cpi (pc := 5) (k' := 0) (n' := 0) B rfl rfl (Nat.le_of_ble_eq_true rfl) (Nat.le_of_ble_eq_true rfl) (fun b hb => zr_V B hR kV_yX12_byteAt km_12_146 kx_12 (gModel_s ha) [.int (M.1 a 25)] rfl rfl (Nat.le_of_ble_eq_true rfl) dX12_next_5 (m_Model_byteAt hX ha (M.1 a 25) M b hb) ⟨Nat.le_of_ble_eq_true rfl, Nat.le_of_ble_eq_true rfl⟩ ⟨Nat.le_of_ble_eq_true rfl, Nat.le_of_ble_eq_true rfl⟩) (fun x1 _ => ?_)
      refine zk_bipush (v := 32) (pc := 8) B dX12_next_8 (by decide) ?_
      refine zk_icmp_eq (tgt := 26) (pc := 10) B dX12_next_10 (by decide) (fun _ => ?_) (fun _ => ?_)
      · exact J26 M
      · refine zk_aload_n (pc := 13) B dX12_next_13 0 rfl rfl ?_
        refine zk_aload_n (pc := 14) B dX12_next_14 0 rfl rfl ?_
        refine zk_geti (pc := 15) B kx_12 (gModel_s ha) 25 (by decide) kf_12_143 rfl dX12_next_15 ?_
        refine zk_cpi (pc := 18) (k' := 0) (n' := 0) B rfl rfl (Nat.le_of_ble_eq_true rfl) (Nat.le_of_ble_eq_true rfl) (fun b hb => zr_V B hR kV_yX12_byteAt km_12_146 kx_12 (gModel_s ha) [.int (M.1 a 25)] rfl rfl (Nat.le_of_ble_eq_true rfl) dX12_next_18 (m_Model_byteAt hX ha (M.1 a 25) M b hb) ⟨Nat.le_of_ble_eq_true rfl, Nat.le_of_ble_eq_true rfl⟩ ⟨Nat.le_of_ble_eq_true rfl, Nat.le_of_ble_eq_true rfl⟩) (fun x2 _ => ?_)
        refine zk_bipush (v := 10) (pc := 21) B dX12_next_21 (by decide) ?_
        refine zk_icmp_ne (tgt := 39) (pc := 23) B dX12_next_23 (by decide) (fun _ => ?_) (fun _ => ?_)
        · refine zk_aload_n (pc := 39) B dX12_next_39 0 rfl rfl ?_
          refine zk_aload_n (pc := 40) B dX12_next_40 0 rfl rfl ?_
          refine zk_geti (pc := 41) B kx_12 (gModel_s ha) 25 (by decide) kf_12_143 rfl dX12_next_41 ?_
          refine zk_puti (pc := 44) B kx_12 (gModel_s ha) 26 (by decide) kf_12_154 rfl rfl rfl rfl dX12_next_44 ?_
          refine zk_lm (fun M3 => ?_)
          refine zk_aload_n (pc := 47) B dX12_next_47 0 rfl rfl ?_
          refine zk_geti (pc := 48) B kx_12 (gModel_s ha) 25 (by decide) kf_12_143 rfl dX12_next_48 ?_
          refine zk_aload_n (pc := 51) B dX12_next_51 0 rfl rfl ?_
          refine zk_geti (pc := 52) B kx_12 (gModel_s ha) 24 (by decide) kf_12_136 rfl dX12_next_52 ?_
          refine zk_icmp_lt (tgt := 66) (pc := 55) B dX12_next_55 (by decide) (fun _ => ?_) (fun _ => ?_)
          · refine zk_aload_n (pc := 66) B dX12_next_66 0 rfl rfl ?_
            refine zk_getr (pc := 67) B kx_12 (gModel_s ha) 22 (by decide) kf_12_43 rfl (gModel_f22 ha) dX12_next_67 ?_
            refine zk_aload_n (pc := 70) B dX12_next_70 0 rfl rfl ?_
            refine zk_geti (pc := 71) B kx_12 (gModel_s ha) 25 (by decide) kf_12_143 rfl dX12_next_71 ?_
            refine zk_iald (pc := 74) B (gModel_t22 ha) dX12_next_74 ?_
            refine zk_cpi (pc := 75) (k' := 0) (n' := 0) B rfl rfl (Nat.le_of_ble_eq_true rfl) (Nat.le_of_ble_eq_true rfl) (fun b hb => zr_S B hR kS_yX12_isLetter km_12_150 [.int (M3.1 (a + 12) (M3.1 a 25).toNatClampNeg)] rfl rfl (Nat.le_of_ble_eq_true rfl) dX12_next_75 (m_Model_isLetter hX (M3.1 (a + 12) (M3.1 a 25).toNatClampNeg) M3 b hb) ⟨Nat.le_of_ble_eq_true rfl, Nat.le_of_ble_eq_true rfl⟩ ⟨Nat.le_of_ble_eq_true rfl, Nat.le_of_ble_eq_true rfl⟩) (fun x4 _ => ?_)
            refine zk_if_eq (tgt := 88) (pc := 78) B dX12_next_78 (by decide) (fun _ => ?_) (fun _ => ?_)
            · refine zk_aload_n (pc := 88) B dX12_next_88 0 rfl rfl ?_
              refine zk_getr (pc := 89) B kx_12 (gModel_s ha) 22 (by decide) kf_12_43 rfl (gModel_f22 ha) dX12_next_89 ?_
              refine zk_aload_n (pc := 92) B dX12_next_92 0 rfl rfl ?_
              refine zk_geti (pc := 93) B kx_12 (gModel_s ha) 25 (by decide) kf_12_143 rfl dX12_next_93 ?_
              refine zk_iald (pc := 96) B (gModel_t22 ha) dX12_next_96 ?_
              refine zk_cpi (pc := 97) (k' := 0) (n' := 0) B rfl rfl (Nat.le_of_ble_eq_true rfl) (Nat.le_of_ble_eq_true rfl) (fun b hb => zr_S B hR kS_yX12_isFigure km_12_167 [.int (M3.1 (a + 12) (M3.1 a 25).toNatClampNeg)] rfl rfl (Nat.le_of_ble_eq_true rfl) dX12_next_97 (m_Model_isFigure hX (M3.1 (a + 12) (M3.1 a 25).toNatClampNeg) M3 b hb) ⟨Nat.le_of_ble_eq_true rfl, Nat.le_of_ble_eq_true rfl⟩ ⟨Nat.le_of_ble_eq_true rfl, Nat.le_of_ble_eq_true rfl⟩) (fun x5 _ => ?_)
              refine zk_if_eq (tgt := 110) (pc := 100) B dX12_next_100 (by decide) (fun _ => ?_) (fun _ => ?_)
              · refine zk_aload_n (pc := 110) B dX12_next_110 0 rfl rfl ?_
                refine zk_iconst (v := 3) (pc := 111) B dX12_next_111 (by decide) ?_
                refine zk_puti (pc := 112) B kx_12 (gModel_s ha) 27 (by decide) kf_12_161 rfl rfl rfl rfl dX12_next_112 ?_
                refine zk_lm (fun M6 => ?_)
                refine zk_aload_n (pc := 115) B dX12_next_115 0 rfl rfl ?_
                refine zk_dup (pc := 116) B dX12_next_116 rfl ?_
                refine zk_geti (pc := 117) B kx_12 (gModel_s ha) 25 (by decide) kf_12_143 rfl dX12_next_117 ?_
                refine zk_iconst (v := 1) (pc := 120) B dX12_next_120 (by decide) ?_
                refine zk_iadd (pc := 121) B dX12_next_121 ?_
                refine zk_puti (pc := 122) B kx_12 (gModel_s ha) 25 (by decide) kf_12_143 rfl rfl rfl rfl dX12_next_122 ?_
                refine zk_lm (fun M7 => ?_)
                exact zk_vret (pc := 125) B dX12_next_125 rfl (Nat.le_of_ble_eq_true rfl) (Nat.le_of_ble_eq_true rfl) rfl
              · refine zk_aload_n (pc := 103) B dX12_next_103 0 rfl rfl ?_
                refine zk_cvm (pc := 104) (k' := 0) (n' := 0) B rfl rfl (Nat.le_of_ble_eq_true rfl) (Nat.le_of_ble_eq_true rfl) (fun b hb => zr_V B hR kV_yX12_readsNumber km_12_174 kx_12 (gModel_s ha) [] rfl rfl (Nat.le_of_ble_eq_true rfl) dX12_next_104 (m_Model_readsNumber hX ha M3 b hb) ⟨Nat.le_of_ble_eq_true rfl, Nat.le_of_ble_eq_true rfl⟩ ⟨Nat.le_of_ble_eq_true rfl, Nat.le_of_ble_eq_true rfl⟩) (fun M8 => ?_)
                refine zk_goto (tgt := 125) (pc := 107) B dX12_next_107 (by decide) ?_
                exact zk_vret (pc := 125) B dX12_next_125 rfl (Nat.le_of_ble_eq_true rfl) (Nat.le_of_ble_eq_true rfl) rfl
            · refine zk_aload_n (pc := 81) B dX12_next_81 0 rfl rfl ?_
              refine zk_cvm (pc := 82) (k' := 0) (n' := 0) B rfl rfl (Nat.le_of_ble_eq_true rfl) (Nat.le_of_ble_eq_true rfl) (fun b hb => zr_V B hR kV_yX12_readsWord km_12_171 kx_12 (gModel_s ha) [] rfl rfl (Nat.le_of_ble_eq_true rfl) dX12_next_82 (m_Model_readsWord hX ha M3 b hb) ⟨Nat.le_of_ble_eq_true rfl, Nat.le_of_ble_eq_true rfl⟩ ⟨Nat.le_of_ble_eq_true rfl, Nat.le_of_ble_eq_true rfl⟩) (fun M9 => ?_)
              refine zk_goto (tgt := 125) (pc := 85) B dX12_next_85 (by decide) ?_
              exact zk_vret (pc := 125) B dX12_next_125 rfl (Nat.le_of_ble_eq_true rfl) (Nat.le_of_ble_eq_true rfl) rfl
          · refine zk_aload_n (pc := 58) B dX12_next_58 0 rfl rfl ?_
            refine zk_iconst (v := 0) (pc := 59) B dX12_next_59 (by decide) ?_
            refine zk_puti (pc := 60) B kx_12 (gModel_s ha) 27 (by decide) kf_12_161 rfl rfl rfl rfl dX12_next_60 ?_
            refine zk_lm (fun M10 => ?_)
            refine zk_goto (tgt := 125) (pc := 63) B dX12_next_63 (by decide) ?_
            exact zk_vret (pc := 125) B dX12_next_125 rfl (Nat.le_of_ble_eq_true rfl) (Nat.le_of_ble_eq_true rfl) rfl
        · exact J26 M
  show z_K X F 1 0 0 G z_cvm b 0 0 0 [(0, .ref a)] [] M (F_Model_next a M)
  unfold F_Model_next
  exact L0 10000 M
set_option maxHeartbeats 4000000 in
set_option maxRecDepth 100000 in
theorem m_Model_starts {X : z_X} (hX : z_ok X) {G : z_Gr} {a : Nat} (ha : g_Model G a) (p0 : Int32) (M : z_Mem) (b : z_Mem) (h : F_Model_starts a p0 M = some b) : z_Ct X yX12_starts cX12_starts 2 none ({ frames := 3, cells := 0, slots := 0, locals := 61 } : Room) [.ref a, .int p0] G M (fun o9 G9 M9 => G9 = G ∧ (o9, M9) = z_cvm b) := by
  refine z_enter hX (by decide) (Nat.le_of_ble_eq_true rfl) h (fun F B hR => ?_)
  show z_K X F 2 0 0 G z_cvm b 0 0 0 [(0, .ref a), (1, .int p0)] [] M (F_Model_starts a p0 M)
  unfold F_Model_starts
  refine zk_aload_n (pc := 0) B dX12_starts_0 0 rfl rfl ?_
  refine zk_iload_n (pc := 1) B dX12_starts_1 1 rfl rfl ?_
  refine zk_puti (pc := 2) B kx_12 (gModel_s ha) 24 (by decide) kf_12_136 rfl rfl rfl rfl dX12_starts_2 ?_
  refine zk_lm (fun M1 => ?_)
  refine zk_aload_n (pc := 5) B dX12_starts_5 0 rfl rfl ?_
  refine zk_iconst (v := 0) (pc := 6) B dX12_starts_6 (by decide) ?_
  refine zk_puti (pc := 7) B kx_12 (gModel_s ha) 23 (by decide) kf_12_130 rfl rfl rfl rfl dX12_starts_7 ?_
  refine zk_lm (fun M2 => ?_)
  refine zk_aload_n (pc := 10) B dX12_starts_10 0 rfl rfl ?_
  refine zk_iconst (v := 0) (pc := 11) B dX12_starts_11 (by decide) ?_
  refine zk_puti (pc := 12) B kx_12 (gModel_s ha) 25 (by decide) kf_12_143 rfl rfl rfl rfl dX12_starts_12 ?_
  refine zk_lm (fun M3 => ?_)
  refine zk_aload_n (pc := 15) B dX12_starts_15 0 rfl rfl ?_
  refine zk_iconst (v := 0) (pc := 16) B dX12_starts_16 (by decide) ?_
  refine zk_puti (pc := 17) B kx_12 (gModel_s ha) 30 (by decide) kf_12_177 rfl rfl rfl rfl dX12_starts_17 ?_
  refine zk_lm (fun M4 => ?_)
  refine zk_aload_n (pc := 20) B dX12_starts_20 0 rfl rfl ?_
  refine zk_iconst (v := (-1)) (pc := 21) B dX12_starts_21 (by decide) ?_
  refine zk_puti (pc := 22) B kx_12 (gModel_s ha) 31 (by decide) kf_12_46 rfl rfl rfl rfl dX12_starts_22 ?_
  refine zk_lm (fun M5 => ?_)
  refine zk_aload_n (pc := 25) B dX12_starts_25 0 rfl rfl ?_
  refine zk_cvm (pc := 26) (k' := 0) (n' := 0) B rfl rfl (Nat.le_of_ble_eq_true rfl) (Nat.le_of_ble_eq_true rfl) (fun b hb => zr_V B hR kV_yX12_next km_12_180 kx_12 (gModel_s ha) [] rfl rfl (Nat.le_of_ble_eq_true rfl) dX12_starts_26 (m_Model_next hX ha M5 b hb) ⟨Nat.le_of_ble_eq_true rfl, Nat.le_of_ble_eq_true rfl⟩ ⟨Nat.le_of_ble_eq_true rfl, Nat.le_of_ble_eq_true rfl⟩) (fun M6 => ?_)
  exact zk_vret (pc := 29) B dX12_starts_29 rfl (Nat.le_of_ble_eq_true rfl) (Nat.le_of_ble_eq_true rfl) rfl
set_option maxHeartbeats 4000000 in
set_option maxRecDepth 100000 in
theorem m_Model_wrongs {X : z_X} (hX : z_ok X) {G : z_Gr} {a : Nat} (ha : g_Model G a) (p0 : Int32) (M : z_Mem) (b : Int32 × z_Mem) (h : F_Model_wrongs a p0 M = some b) : z_Ct X yX12_wrongs cX12_wrongs 2 (some .boolean) ({ frames := 0, cells := 0, slots := 0, locals := 0 } : Room) [.ref a, .int p0] G M (fun o9 G9 M9 => G9 = G ∧ (o9, M9) = z_cim b) := by
  refine z_enter hX (by decide) (Nat.le_of_ble_eq_true rfl) h (fun F B hR => ?_)
  show z_K X F 2 0 0 G z_cim b 0 0 0 [(0, .ref a), (1, .int p0)] [] M (F_Model_wrongs a p0 M)
  unfold F_Model_wrongs
  refine zk_aload_n (pc := 0) B dX12_wrongs_0 0 rfl rfl ?_
  refine zk_geti (pc := 1) B kx_12 (gModel_s ha) 30 (by decide) kf_12_177 rfl dX12_wrongs_1 ?_
  refine zk_if_ne (tgt := 20) (pc := 4) B dX12_wrongs_4 (by decide) (fun _ => ?_) (fun _ => ?_)
  · refine zk_iconst (v := 0) (pc := 20) B dX12_wrongs_20 (by decide) ?_
    exact zk_iret (pc := 21) B dX12_wrongs_21 rfl rfl (Nat.le_of_ble_eq_true rfl) (Nat.le_of_ble_eq_true rfl) rfl
  · refine zk_aload_n (pc := 7) B dX12_wrongs_7 0 rfl rfl ?_
    refine zk_iload_n (pc := 8) B dX12_wrongs_8 1 rfl rfl ?_
    refine zk_puti (pc := 9) B kx_12 (gModel_s ha) 30 (by decide) kf_12_177 rfl rfl rfl rfl dX12_wrongs_9 ?_
    refine zk_lm (fun M1 => ?_)
    refine zk_aload_n (pc := 12) B dX12_wrongs_12 0 rfl rfl ?_
    refine zk_aload_n (pc := 13) B dX12_wrongs_13 0 rfl rfl ?_
    refine zk_geti (pc := 14) B kx_12 (gModel_s ha) 26 (by decide) kf_12_154 rfl dX12_wrongs_14 ?_
    refine zk_puti (pc := 17) B kx_12 (gModel_s ha) 31 (by decide) kf_12_46 rfl rfl rfl rfl dX12_wrongs_17 ?_
    refine zk_lm (fun M2 => ?_)
    refine zk_iconst (v := 0) (pc := 20) B dX12_wrongs_20 (by decide) ?_
    exact zk_iret (pc := 21) B dX12_wrongs_21 rfl rfl (Nat.le_of_ble_eq_true rfl) (Nat.le_of_ble_eq_true rfl) rfl
set_option maxHeartbeats 4000000 in
set_option maxRecDepth 100000 in
theorem m_Model_isGood {X : z_X} (hX : z_ok X) {G : z_Gr} {a : Nat} (ha : g_Model G a) (M : z_Mem) (b : Int32) (h : F_Model_isGood a M = some b) : z_Ct X yX12_isGood cX12_isGood 1 (some .boolean) ({ frames := 0, cells := 0, slots := 0, locals := 0 } : Room) [.ref a] G M (fun o9 G9 M9 => G9 = G ∧ (o9, M9) = (z_ci M) b) := by
  refine z_enter hX (by decide) (Nat.le_of_ble_eq_true rfl) h (fun F B hR => ?_)
  show z_K X F 1 0 0 G (z_ci M) b 0 0 0 [(0, .ref a)] [] M (F_Model_isGood a M)
  unfold F_Model_isGood
  refine zk_aload_n (pc := 0) B dX12_isGood_0 0 rfl rfl ?_
  refine zk_geti (pc := 1) B kx_12 (gModel_s ha) 30 (by decide) kf_12_177 rfl dX12_isGood_1 ?_
  refine zk_if_ne (tgt := 11) (pc := 4) B dX12_isGood_4 (by decide) (fun _ => ?_) (fun _ => ?_)
  · refine zk_iconst (v := 0) (pc := 11) B dX12_isGood_11 (by decide) ?_
    exact zk_iret (pc := 12) B dX12_isGood_12 rfl rfl (Nat.le_of_ble_eq_true rfl) (Nat.le_of_ble_eq_true rfl) rfl
  · refine zk_iconst (v := 1) (pc := 7) B dX12_isGood_7 (by decide) ?_
    refine zk_goto (tgt := 12) (pc := 8) B dX12_isGood_8 (by decide) ?_
    exact zk_iret (pc := 12) B dX12_isGood_12 rfl rfl (Nat.le_of_ble_eq_true rfl) (Nat.le_of_ble_eq_true rfl) rfl
set_option maxHeartbeats 4000000 in
set_option maxRecDepth 100000 in
theorem m_Model_isWord {X : z_X} (hX : z_ok X) {G : z_Gr} {a : Nat} (ha : g_Model G a) (p0 : Int64) (M : z_Mem) (b : Int32) (h : F_Model_isWord a p0 M = some b) : z_Ct X yX12_isWord cX12_isWord 3 (some .boolean) ({ frames := 1, cells := 0, slots := 0, locals := 20 } : Room) [.ref a, .long p0] G M (fun o9 G9 M9 => G9 = G ∧ (o9, M9) = (z_ci M) b) := by
  refine z_enter hX (by decide) (Nat.le_of_ble_eq_true rfl) h (fun F B hR => ?_)
  show z_K X F 3 0 0 G (z_ci M) b 0 0 0 [(0, .ref a), (1, .long p0)] [] M (F_Model_isWord a p0 M)
  unfold F_Model_isWord
  refine zk_aload_n (pc := 0) B dX12_isWord_0 0 rfl rfl ?_
  refine zk_cpi (pc := 1) (k' := 0) (n' := 0) B rfl rfl (Nat.le_of_ble_eq_true rfl) (Nat.le_of_ble_eq_true rfl) (fun b hb => zr_V B hR kV_yX12_isGood km_12_183 kx_12 (gModel_s ha) [] rfl rfl (Nat.le_of_ble_eq_true rfl) dX12_isWord_1 (m_Model_isGood hX ha M b hb) ⟨Nat.le_of_ble_eq_true rfl, Nat.le_of_ble_eq_true rfl⟩ ⟨Nat.le_of_ble_eq_true rfl, Nat.le_of_ble_eq_true rfl⟩) (fun x1 _ => ?_)
  refine zk_if_eq (tgt := 42) (pc := 4) B dX12_isWord_4 (by decide) (fun _ => ?_) (fun _ => ?_)
  · refine zk_iconst (v := 0) (pc := 42) B dX12_isWord_42 (by decide) ?_
    exact zk_iret (pc := 43) B dX12_isWord_43 rfl rfl (Nat.le_of_ble_eq_true rfl) (Nat.le_of_ble_eq_true rfl) rfl
  · refine zk_aload_n (pc := 7) B dX12_isWord_7 0 rfl rfl ?_
    refine zk_geti (pc := 8) B kx_12 (gModel_s ha) 27 (by decide) kf_12_161 rfl dX12_isWord_8 ?_
    refine zk_iconst (v := 1) (pc := 11) B dX12_isWord_11 (by decide) ?_
    refine zk_icmp_ne (tgt := 42) (pc := 12) B dX12_isWord_12 (by decide) (fun _ => ?_) (fun _ => ?_)
    · refine zk_iconst (v := 0) (pc := 42) B dX12_isWord_42 (by decide) ?_
      exact zk_iret (pc := 43) B dX12_isWord_43 rfl rfl (Nat.le_of_ble_eq_true rfl) (Nat.le_of_ble_eq_true rfl) rfl
    · refine zk_aload_n (pc := 15) B dX12_isWord_15 0 rfl rfl ?_
      refine zk_geti (pc := 16) B kx_12 (gModel_s ha) 25 (by decide) kf_12_143 rfl dX12_isWord_16 ?_
      refine zk_aload_n (pc := 19) B dX12_isWord_19 0 rfl rfl ?_
      refine zk_geti (pc := 20) B kx_12 (gModel_s ha) 26 (by decide) kf_12_154 rfl dX12_isWord_20 ?_
      refine zk_isub (pc := 23) B dX12_isWord_23 ?_
      refine zk_bipush (v := 10) (pc := 24) B dX12_isWord_24 (by decide) ?_
      refine zk_icmp_gt (tgt := 42) (pc := 26) B dX12_isWord_26 (by decide) (fun _ => ?_) (fun _ => ?_)
      · refine zk_iconst (v := 0) (pc := 42) B dX12_isWord_42 (by decide) ?_
        exact zk_iret (pc := 43) B dX12_isWord_43 rfl rfl (Nat.le_of_ble_eq_true rfl) (Nat.le_of_ble_eq_true rfl) rfl
      · refine zk_aload_n (pc := 29) B dX12_isWord_29 0 rfl rfl ?_
        refine zk_getl (pc := 30) B kx_12 (gModel_s ha) 29 (by decide) kf_12_139 rfl dX12_isWord_30 ?_
        refine zk_lload_n (pc := 33) B dX12_isWord_33 1 rfl rfl ?_
        refine zk_lcmp (pc := 34) B dX12_isWord_34 ?_
        refine zk_if_ne (tgt := 42) (pc := 35) B dX12_isWord_35 (by decide) (fun _ => ?_) (fun _ => ?_)
        · refine zk_iconst (v := 0) (pc := 42) B dX12_isWord_42 (by decide) ?_
          exact zk_iret (pc := 43) B dX12_isWord_43 rfl rfl (Nat.le_of_ble_eq_true rfl) (Nat.le_of_ble_eq_true rfl) rfl
        · refine zk_iconst (v := 1) (pc := 38) B dX12_isWord_38 (by decide) ?_
          refine zk_goto (tgt := 43) (pc := 39) B dX12_isWord_39 (by decide) ?_
          exact zk_iret (pc := 43) B dX12_isWord_43 rfl rfl (Nat.le_of_ble_eq_true rfl) (Nat.le_of_ble_eq_true rfl) rfl
set_option maxHeartbeats 4000000 in
set_option maxRecDepth 100000 in
theorem m_Model_passes {X : z_X} (hX : z_ok X) {G : z_Gr} {a : Nat} (ha : g_Model G a) (p0 : Int64) (M : z_Mem) (b : Int32 × z_Mem) (h : F_Model_passes a p0 M = some b) : z_Ct X yX12_passes cX12_passes 3 (some .boolean) ({ frames := 3, cells := 0, slots := 0, locals := 61 } : Room) [.ref a, .long p0] G M (fun o9 G9 M9 => G9 = G ∧ (o9, M9) = z_cim b) := by
  refine z_enter hX (by decide) (Nat.le_of_ble_eq_true rfl) h (fun F B hR => ?_)
  show z_K X F 3 0 0 G z_cim b 0 0 0 [(0, .ref a), (1, .long p0)] [] M (F_Model_passes a p0 M)
  unfold F_Model_passes
  refine zk_aload_n (pc := 0) B dX12_passes_0 0 rfl rfl ?_
  refine zk_lload_n (pc := 1) B dX12_passes_1 1 rfl rfl ?_
  refine zk_cpi (pc := 2) (k' := 0) (n' := 0) B rfl rfl (Nat.le_of_ble_eq_true rfl) (Nat.le_of_ble_eq_true rfl) (fun b hb => zr_V B hR kV_yX12_isWord km_12_187 kx_12 (gModel_s ha) [.long p0] rfl rfl (Nat.le_of_ble_eq_true rfl) dX12_passes_2 (m_Model_isWord hX ha p0 M b hb) ⟨Nat.le_of_ble_eq_true rfl, Nat.le_of_ble_eq_true rfl⟩ ⟨Nat.le_of_ble_eq_true rfl, Nat.le_of_ble_eq_true rfl⟩) (fun x1 _ => ?_)
  refine zk_if_ne (tgt := 10) (pc := 5) B dX12_passes_5 (by decide) (fun _ => ?_) (fun _ => ?_)
  · refine zk_aload_n (pc := 10) B dX12_passes_10 0 rfl rfl ?_
    refine zk_cvm (pc := 11) (k' := 0) (n' := 0) B rfl rfl (Nat.le_of_ble_eq_true rfl) (Nat.le_of_ble_eq_true rfl) (fun b hb => zr_V B hR kV_yX12_next km_12_180 kx_12 (gModel_s ha) [] rfl rfl (Nat.le_of_ble_eq_true rfl) dX12_passes_11 (m_Model_next hX ha M b hb) ⟨Nat.le_of_ble_eq_true rfl, Nat.le_of_ble_eq_true rfl⟩ ⟨Nat.le_of_ble_eq_true rfl, Nat.le_of_ble_eq_true rfl⟩) (fun M2 => ?_)
    refine zk_iconst (v := 1) (pc := 14) B dX12_passes_14 (by decide) ?_
    exact zk_iret (pc := 15) B dX12_passes_15 rfl rfl (Nat.le_of_ble_eq_true rfl) (Nat.le_of_ble_eq_true rfl) rfl
  · refine zk_iconst (v := 0) (pc := 8) B dX12_passes_8 (by decide) ?_
    exact zk_iret (pc := 9) B dX12_passes_9 rfl rfl (Nat.le_of_ble_eq_true rfl) (Nat.le_of_ble_eq_true rfl) rfl
set_option maxHeartbeats 4000000 in
set_option maxRecDepth 100000 in
theorem m_Model_isByte {X : z_X} (hX : z_ok X) {G : z_Gr} {a : Nat} (ha : g_Model G a) (p0 : Int32) (M : z_Mem) (b : Int32) (h : F_Model_isByte a p0 M = some b) : z_Ct X yX12_isByte cX12_isByte 2 (some .boolean) ({ frames := 1, cells := 0, slots := 0, locals := 20 } : Room) [.ref a, .int p0] G M (fun o9 G9 M9 => G9 = G ∧ (o9, M9) = (z_ci M) b) := by
  refine z_enter hX (by decide) (Nat.le_of_ble_eq_true rfl) h (fun F B hR => ?_)
  show z_K X F 2 0 0 G (z_ci M) b 0 0 0 [(0, .ref a), (1, .int p0)] [] M (F_Model_isByte a p0 M)
  unfold F_Model_isByte
  refine zk_aload_n (pc := 0) B dX12_isByte_0 0 rfl rfl ?_
  refine zk_cpi (pc := 1) (k' := 0) (n' := 0) B rfl rfl (Nat.le_of_ble_eq_true rfl) (Nat.le_of_ble_eq_true rfl) (fun b hb => zr_V B hR kV_yX12_isGood km_12_183 kx_12 (gModel_s ha) [] rfl rfl (Nat.le_of_ble_eq_true rfl) dX12_isByte_1 (m_Model_isGood hX ha M b hb) ⟨Nat.le_of_ble_eq_true rfl, Nat.le_of_ble_eq_true rfl⟩ ⟨Nat.le_of_ble_eq_true rfl, Nat.le_of_ble_eq_true rfl⟩) (fun x1 _ => ?_)
  refine zk_if_eq (tgt := 32) (pc := 4) B dX12_isByte_4 (by decide) (fun _ => ?_) (fun _ => ?_)
  · refine zk_iconst (v := 0) (pc := 32) B dX12_isByte_32 (by decide) ?_
    exact zk_iret (pc := 33) B dX12_isByte_33 rfl rfl (Nat.le_of_ble_eq_true rfl) (Nat.le_of_ble_eq_true rfl) rfl
  · refine zk_aload_n (pc := 7) B dX12_isByte_7 0 rfl rfl ?_
    refine zk_geti (pc := 8) B kx_12 (gModel_s ha) 27 (by decide) kf_12_161 rfl dX12_isByte_8 ?_
    refine zk_iconst (v := 3) (pc := 11) B dX12_isByte_11 (by decide) ?_
    refine zk_icmp_ne (tgt := 32) (pc := 12) B dX12_isByte_12 (by decide) (fun _ => ?_) (fun _ => ?_)
    · refine zk_iconst (v := 0) (pc := 32) B dX12_isByte_32 (by decide) ?_
      exact zk_iret (pc := 33) B dX12_isByte_33 rfl rfl (Nat.le_of_ble_eq_true rfl) (Nat.le_of_ble_eq_true rfl) rfl
    · refine zk_aload_n (pc := 15) B dX12_isByte_15 0 rfl rfl ?_
      refine zk_getr (pc := 16) B kx_12 (gModel_s ha) 22 (by decide) kf_12_43 rfl (gModel_f22 ha) dX12_isByte_16 ?_
      refine zk_aload_n (pc := 19) B dX12_isByte_19 0 rfl rfl ?_
      refine zk_geti (pc := 20) B kx_12 (gModel_s ha) 26 (by decide) kf_12_154 rfl dX12_isByte_20 ?_
      refine zk_iald (pc := 23) B (gModel_t22 ha) dX12_isByte_23 ?_
      refine zk_iload_n (pc := 24) B dX12_isByte_24 1 rfl rfl ?_
      refine zk_icmp_ne (tgt := 32) (pc := 25) B dX12_isByte_25 (by decide) (fun _ => ?_) (fun _ => ?_)
      · refine zk_iconst (v := 0) (pc := 32) B dX12_isByte_32 (by decide) ?_
        exact zk_iret (pc := 33) B dX12_isByte_33 rfl rfl (Nat.le_of_ble_eq_true rfl) (Nat.le_of_ble_eq_true rfl) rfl
      · refine zk_iconst (v := 1) (pc := 28) B dX12_isByte_28 (by decide) ?_
        refine zk_goto (tgt := 33) (pc := 29) B dX12_isByte_29 (by decide) ?_
        exact zk_iret (pc := 33) B dX12_isByte_33 rfl rfl (Nat.le_of_ble_eq_true rfl) (Nat.le_of_ble_eq_true rfl) rfl
set_option maxHeartbeats 4000000 in
set_option maxRecDepth 100000 in
theorem m_Model_must {X : z_X} (hX : z_ok X) {G : z_Gr} {a : Nat} (ha : g_Model G a) (p0 : Int32) (M : z_Mem) (b : z_Mem) (h : F_Model_must a p0 M = some b) : z_Ct X yX12_must cX12_must 2 none ({ frames := 3, cells := 0, slots := 0, locals := 61 } : Room) [.ref a, .int p0] G M (fun o9 G9 M9 => G9 = G ∧ (o9, M9) = z_cvm b) := by
  refine z_enter hX (by decide) (Nat.le_of_ble_eq_true rfl) h (fun F B hR => ?_)
  show z_K X F 2 0 0 G z_cvm b 0 0 0 [(0, .ref a), (1, .int p0)] [] M (F_Model_must a p0 M)
  unfold F_Model_must
  refine zk_aload_n (pc := 0) B dX12_must_0 0 rfl rfl ?_
  refine zk_cpi (pc := 1) (k' := 0) (n' := 0) B rfl rfl (Nat.le_of_ble_eq_true rfl) (Nat.le_of_ble_eq_true rfl) (fun b hb => zr_V B hR kV_yX12_isGood km_12_183 kx_12 (gModel_s ha) [] rfl rfl (Nat.le_of_ble_eq_true rfl) dX12_must_1 (m_Model_isGood hX ha M b hb) ⟨Nat.le_of_ble_eq_true rfl, Nat.le_of_ble_eq_true rfl⟩ ⟨Nat.le_of_ble_eq_true rfl, Nat.le_of_ble_eq_true rfl⟩) (fun x1 _ => ?_)
  refine zk_if_ne (tgt := 8) (pc := 4) B dX12_must_4 (by decide) (fun _ => ?_) (fun _ => ?_)
  · refine zk_aload_n (pc := 8) B dX12_must_8 0 rfl rfl ?_
    refine zk_iload_n (pc := 9) B dX12_must_9 1 rfl rfl ?_
    refine zk_cpi (pc := 10) (k' := 0) (n' := 0) B rfl rfl (Nat.le_of_ble_eq_true rfl) (Nat.le_of_ble_eq_true rfl) (fun b hb => zr_V B hR kV_yX12_isByte km_12_191 kx_12 (gModel_s ha) [.int p0] rfl rfl (Nat.le_of_ble_eq_true rfl) dX12_must_10 (m_Model_isByte hX ha p0 M b hb) ⟨Nat.le_of_ble_eq_true rfl, Nat.le_of_ble_eq_true rfl⟩ ⟨Nat.le_of_ble_eq_true rfl, Nat.le_of_ble_eq_true rfl⟩) (fun x2 _ => ?_)
    refine zk_if_eq (tgt := 23) (pc := 13) B dX12_must_13 (by decide) (fun _ => ?_) (fun _ => ?_)
    · refine zk_aload_n (pc := 23) B dX12_must_23 0 rfl rfl ?_
      refine zk_iconst (v := 1) (pc := 24) B dX12_must_24 (by decide) ?_
      refine zk_cim (pc := 25) (k' := 0) (n' := 0) B rfl rfl (Nat.le_of_ble_eq_true rfl) (Nat.le_of_ble_eq_true rfl) (fun b hb => zr_V B hR kV_yX12_wrongs km_12_194 kx_12 (gModel_s ha) [.int 1] rfl rfl (Nat.le_of_ble_eq_true rfl) dX12_must_25 (m_Model_wrongs hX ha 1 M b hb) ⟨Nat.le_of_ble_eq_true rfl, Nat.le_of_ble_eq_true rfl⟩ ⟨Nat.le_of_ble_eq_true rfl, Nat.le_of_ble_eq_true rfl⟩) (fun x4 M3 => ?_)
      refine zk_pop (pc := 28) B dX12_must_28 rfl ?_
      exact zk_vret (pc := 29) B dX12_must_29 rfl (Nat.le_of_ble_eq_true rfl) (Nat.le_of_ble_eq_true rfl) rfl
    · refine zk_aload_n (pc := 16) B dX12_must_16 0 rfl rfl ?_
      refine zk_cvm (pc := 17) (k' := 0) (n' := 0) B rfl rfl (Nat.le_of_ble_eq_true rfl) (Nat.le_of_ble_eq_true rfl) (fun b hb => zr_V B hR kV_yX12_next km_12_180 kx_12 (gModel_s ha) [] rfl rfl (Nat.le_of_ble_eq_true rfl) dX12_must_17 (m_Model_next hX ha M b hb) ⟨Nat.le_of_ble_eq_true rfl, Nat.le_of_ble_eq_true rfl⟩ ⟨Nat.le_of_ble_eq_true rfl, Nat.le_of_ble_eq_true rfl⟩) (fun M5 => ?_)
      refine zk_goto (tgt := 29) (pc := 20) B dX12_must_20 (by decide) ?_
      exact zk_vret (pc := 29) B dX12_must_29 rfl (Nat.le_of_ble_eq_true rfl) (Nat.le_of_ble_eq_true rfl) rfl
  · exact zk_vret (pc := 7) B dX12_must_7 rfl (Nat.le_of_ble_eq_true rfl) (Nat.le_of_ble_eq_true rfl) rfl
set_option maxHeartbeats 4000000 in
set_option maxRecDepth 100000 in
theorem m_Model_number {X : z_X} (hX : z_ok X) {G : z_Gr} {a : Nat} (ha : g_Model G a) (p0 : Int32) (p1 : Int32) (M : z_Mem) (b : Int32 × z_Mem) (h : F_Model_number a p0 p1 M = some b) : z_Ct X yX12_number cX12_number 4 (some .int) ({ frames := 3, cells := 0, slots := 0, locals := 61 } : Room) [.ref a, .int p0, .int p1] G M (fun o9 G9 M9 => G9 = G ∧ (o9, M9) = z_cim b) := by
  refine z_enter hX (by decide) (Nat.le_of_ble_eq_true rfl) h (fun F B hR => ?_)
  have J47 : ∀ (v1 : Int32) (M : z_Mem), z_K X F 4 0 0 G z_cim b 0 0 47 [(0, .ref a), (1, .int v1)] [] M (F_Model_number_J47 a v1 M) := by
    intro v1 M
    unfold F_Model_number_J47
    refine zk_aload_n (pc := 47) B dX12_number_47 0 rfl rfl ?_
    refine zk_cpi (pc := 48) (k' := 0) (n' := 0) B rfl rfl (Nat.le_of_ble_eq_true rfl) (Nat.le_of_ble_eq_true rfl) (fun b hb => zr_V B hR kV_yX12_isGood km_12_183 kx_12 (gModel_s ha) [] rfl rfl (Nat.le_of_ble_eq_true rfl) dX12_number_48 (m_Model_isGood hX ha M b hb) ⟨Nat.le_of_ble_eq_true rfl, Nat.le_of_ble_eq_true rfl⟩ ⟨Nat.le_of_ble_eq_true rfl, Nat.le_of_ble_eq_true rfl⟩) (fun x7 _ => ?_)
    refine zk_if_ne (tgt := 56) (pc := 51) B dX12_number_51 (by decide) (fun _ => ?_) (fun _ => ?_)
    · refine zk_aload_n (pc := 56) B dX12_number_56 0 rfl rfl ?_
      refine zk_geti (pc := 57) B kx_12 (gModel_s ha) 28 (by decide) kf_12_164 rfl dX12_number_57 ?_
      refine zk_li (fun x8 => ?_)
      refine zk_istore_n (loc' := [(3, .int x8), (0, .ref a), (1, .int v1)]) (pc := 60) B dX12_number_60 rfl (by decide) rfl ?_
      refine zk_aload_n (pc := 61) B dX12_number_61 1 rfl rfl ?_
      refine zk_cvm (pc := 62) (k' := 0) (n' := 0) B rfl rfl (Nat.le_of_ble_eq_true rfl) (Nat.le_of_ble_eq_true rfl) (fun b hb => zr_V B hR kV_yX12_next km_12_180 kx_12 (gModel_s ha) [] rfl rfl (Nat.le_of_ble_eq_true rfl) dX12_number_62 (m_Model_next hX ha M b hb) ⟨Nat.le_of_ble_eq_true rfl, Nat.le_of_ble_eq_true rfl⟩ ⟨Nat.le_of_ble_eq_true rfl, Nat.le_of_ble_eq_true rfl⟩) (fun M9 => ?_)
      refine zk_iload_n (pc := 65) B dX12_number_65 0 rfl rfl ?_
      exact zk_iret (pc := 66) B dX12_number_66 rfl rfl (Nat.le_of_ble_eq_true rfl) (Nat.le_of_ble_eq_true rfl) rfl
    · refine zk_iload_n (pc := 54) B dX12_number_54 1 rfl rfl ?_
      exact zk_iret (pc := 55) B dX12_number_55 rfl rfl (Nat.le_of_ble_eq_true rfl) (Nat.le_of_ble_eq_true rfl) rfl
  show z_K X F 4 0 0 G z_cim b 0 0 0 [(0, .ref a), (1, .int p0), (2, .int p1)] [] M (F_Model_number a p0 p1 M)
  unfold F_Model_number
  refine zk_aload_n (pc := 0) B dX12_number_0 0 rfl rfl ?_
  refine zk_cpi (pc := 1) (k' := 0) (n' := 0) B rfl rfl (Nat.le_of_ble_eq_true rfl) (Nat.le_of_ble_eq_true rfl) (fun b hb => zr_V B hR kV_yX12_isGood km_12_183 kx_12 (gModel_s ha) [] rfl rfl (Nat.le_of_ble_eq_true rfl) dX12_number_1 (m_Model_isGood hX ha M b hb) ⟨Nat.le_of_ble_eq_true rfl, Nat.le_of_ble_eq_true rfl⟩ ⟨Nat.le_of_ble_eq_true rfl, Nat.le_of_ble_eq_true rfl⟩) (fun x1 _ => ?_)
  refine zk_if_ne (tgt := 9) (pc := 4) B dX12_number_4 (by decide) (fun _ => ?_) (fun _ => ?_)
  · refine zk_aload_n (pc := 9) B dX12_number_9 0 rfl rfl ?_
    refine zk_geti (pc := 10) B kx_12 (gModel_s ha) 27 (by decide) kf_12_161 rfl dX12_number_10 ?_
    refine zk_iconst (v := 2) (pc := 13) B dX12_number_13 (by decide) ?_
    refine zk_icmp_eq (tgt := 26) (pc := 14) B dX12_number_14 (by decide) (fun _ => ?_) (fun _ => ?_)
    · refine zk_aload_n (pc := 26) B dX12_number_26 0 rfl rfl ?_
      refine zk_geti (pc := 27) B kx_12 (gModel_s ha) 28 (by decide) kf_12_164 rfl dX12_number_27 ?_
      refine zk_i2l (pc := 30) B dX12_number_30 ?_
      refine zk_iload_n (pc := 31) B dX12_number_31 1 rfl rfl ?_
      refine zk_i2l (pc := 32) B dX12_number_32 ?_
      refine zk_iload_n (pc := 33) B dX12_number_33 2 rfl rfl ?_
      refine zk_i2l (pc := 34) B dX12_number_34 ?_
      refine zk_cpi (pc := 35) (k' := 0) (n' := 0) B rfl rfl (Nat.le_of_ble_eq_true rfl) (Nat.le_of_ble_eq_true rfl) (fun b hb => zr_S B hR kS_yX12_in km_12_197 [.long ((M.1 a 28).toInt64), .long p0.toInt64, .long p1.toInt64] rfl rfl (Nat.le_of_ble_eq_true rfl) dX12_number_35 (m_Model_in hX ((M.1 a 28).toInt64) p0.toInt64 p1.toInt64 M b hb) ⟨Nat.le_of_ble_eq_true rfl, Nat.le_of_ble_eq_true rfl⟩ ⟨Nat.le_of_ble_eq_true rfl, Nat.le_of_ble_eq_true rfl⟩) (fun x2 _ => ?_)
      refine zk_if_ne (tgt := 47) (pc := 38) B dX12_number_38 (by decide) (fun _ => ?_) (fun _ => ?_)
      · refine zk_sub [0, 1] rfl ?_
        exact J47 p0 M
      · refine zk_aload_n (pc := 41) B dX12_number_41 0 rfl rfl ?_
        refine zk_iconst (v := 2) (pc := 42) B dX12_number_42 (by decide) ?_
        refine zk_cim (pc := 43) (k' := 0) (n' := 0) B rfl rfl (Nat.le_of_ble_eq_true rfl) (Nat.le_of_ble_eq_true rfl) (fun b hb => zr_V B hR kV_yX12_wrongs km_12_194 kx_12 (gModel_s ha) [.int 2] rfl rfl (Nat.le_of_ble_eq_true rfl) dX12_number_43 (m_Model_wrongs hX ha 2 M b hb) ⟨Nat.le_of_ble_eq_true rfl, Nat.le_of_ble_eq_true rfl⟩ ⟨Nat.le_of_ble_eq_true rfl, Nat.le_of_ble_eq_true rfl⟩) (fun x4 M3 => ?_)
        refine zk_pop (pc := 46) B dX12_number_46 rfl ?_
        refine zk_sub [0, 1] rfl ?_
        exact J47 p0 M3
    · refine zk_aload_n (pc := 17) B dX12_number_17 0 rfl rfl ?_
      refine zk_iconst (v := 1) (pc := 18) B dX12_number_18 (by decide) ?_
      refine zk_cim (pc := 19) (k' := 0) (n' := 0) B rfl rfl (Nat.le_of_ble_eq_true rfl) (Nat.le_of_ble_eq_true rfl) (fun b hb => zr_V B hR kV_yX12_wrongs km_12_194 kx_12 (gModel_s ha) [.int 1] rfl rfl (Nat.le_of_ble_eq_true rfl) dX12_number_19 (m_Model_wrongs hX ha 1 M b hb) ⟨Nat.le_of_ble_eq_true rfl, Nat.le_of_ble_eq_true rfl⟩ ⟨Nat.le_of_ble_eq_true rfl, Nat.le_of_ble_eq_true rfl⟩) (fun x6 M5 => ?_)
      refine zk_pop (pc := 22) B dX12_number_22 rfl ?_
      refine zk_goto (tgt := 47) (pc := 23) B dX12_number_23 (by decide) ?_
      refine zk_sub [0, 1] rfl ?_
      exact J47 p0 M5
  · refine zk_iload_n (pc := 7) B dX12_number_7 1 rfl rfl ?_
    exact zk_iret (pc := 8) B dX12_number_8 rfl rfl (Nat.le_of_ble_eq_true rfl) (Nat.le_of_ble_eq_true rfl) rfl
