/-! ===== walks of the reference (by program) ===== -/
set_option maxHeartbeats 4000000 in
set_option maxRecDepth 100000 in
theorem m_Model_size {X : z_X} (hX : z_ok X) {G : z_Gr} {a : Nat} (ha : g_Model G a) (p0 : Int32) (M : z_Mem) (b : Int32 × z_Mem) (h : F_Model_size a p0 M = some b) : z_Ct X yX12_size cX12_size 2 (some .int) ({ frames := 2, cells := 0, slots := 0, locals := 45 } : Room) [.ref a, .int p0] G M (fun o9 G9 M9 => G9 = G ∧ (o9, M9) = z_cim b) := by
  refine z_enter hX (by decide) (Nat.le_of_ble_eq_true rfl) h (fun F B hR => ?_)
  show z_K X F 2 0 0 G z_cim b 0 0 0 [(0, .ref a), (1, .int p0)] [] M (F_Model_size a p0 M)
  unfold F_Model_size
  refine zk_aload_n (pc := 0) B dX12_size_0 0 rfl rfl ?_
  refine zk_iconst (v := 0) (pc := 1) B dX12_size_1 (by decide) ?_
  refine zk_puti (pc := 2) B kx_12 (gModel_s ha) 0 (by decide) kf_12_93 rfl rfl rfl rfl dX12_size_2 ?_
  refine zk_lm (fun M1 => ?_)
  refine zk_aload_n (pc := 5) B dX12_size_5 0 rfl rfl ?_
  refine zk_iload_n (pc := 6) B dX12_size_6 1 rfl rfl ?_
  refine zk_i2l (pc := 7) B dX12_size_7 ?_
  refine zk_lconst (v := 0) (pc := 8) B dX12_size_8 (by decide) ?_
  refine zk_ldc2 (pc := 9) B kl_12_362 dX12_size_9 ?_
  refine zk_cpi (pc := 12) (k' := 0) (n' := 0) B rfl rfl (Nat.le_of_ble_eq_true rfl) (Nat.le_of_ble_eq_true rfl) (fun b hb => zr_S B hR kS_yX12_in km_12_197 [.long p0.toInt64, .long 0, .long 8] rfl rfl (Nat.le_of_ble_eq_true rfl) dX12_size_12 (m_Model_in hX p0.toInt64 0 8 M1 b hb) ⟨Nat.le_of_ble_eq_true rfl, Nat.le_of_ble_eq_true rfl⟩ ⟨Nat.le_of_ble_eq_true rfl, Nat.le_of_ble_eq_true rfl⟩) (fun x2 _ => ?_)
  refine zk_iconst (v := 1) (pc := 15) B dX12_size_15 (by decide) ?_
  refine zk_cim (pc := 16) (k' := 0) (n' := 0) B rfl rfl (Nat.le_of_ble_eq_true rfl) (Nat.le_of_ble_eq_true rfl) (fun b hb => zr_V B hR kV_yX12_fails km_12_256 kx_12 (gModel_s ha) [.int x2, .int 1] rfl rfl (Nat.le_of_ble_eq_true rfl) dX12_size_16 (m_Model_fails hX ha x2 1 M1 b hb) ⟨Nat.le_of_ble_eq_true rfl, Nat.le_of_ble_eq_true rfl⟩ ⟨Nat.le_of_ble_eq_true rfl, Nat.le_of_ble_eq_true rfl⟩) (fun x4 M3 => ?_)
  refine zk_if_eq (tgt := 24) (pc := 19) B dX12_size_19 (by decide) (fun _ => ?_) (fun _ => ?_)
  · refine zk_iload_n (pc := 24) B dX12_size_24 1 rfl rfl ?_
    refine zk_if (fun hs => zk_tin (v := 0) (tgt := 72) (pc := 25) B dX12_size_25 hs (by decide) (by decide) rfl (by decide) ?_) (fun hn25_0 => ?_)
    · refine zk_aload_n (pc := 72) B dX12_size_72 0 rfl rfl ?_
      refine zk_geti (pc := 73) B kx_12 (gModel_s ha) 15 (by decide) kf_12_108 rfl dX12_size_73 ?_
      exact zk_iret (pc := 76) B dX12_size_76 rfl rfl (Nat.le_of_ble_eq_true rfl) (Nat.le_of_ble_eq_true rfl) rfl
    · refine zk_if (fun hs => zk_tin (v := 1) (tgt := 77) (pc := 25) B dX12_size_25 hs (by decide) (by decide) rfl (by decide) ?_) (fun hn25_1 => ?_)
      · refine zk_aload_n (pc := 77) B dX12_size_77 0 rfl rfl ?_
        refine zk_geti (pc := 78) B kx_12 (gModel_s ha) 16 (by decide) kf_12_111 rfl dX12_size_78 ?_
        exact zk_iret (pc := 81) B dX12_size_81 rfl rfl (Nat.le_of_ble_eq_true rfl) (Nat.le_of_ble_eq_true rfl) rfl
      · refine zk_if (fun hs => zk_tin (v := 2) (tgt := 82) (pc := 25) B dX12_size_25 hs (by decide) (by decide) rfl (by decide) ?_) (fun hn25_2 => ?_)
        · refine zk_aload_n (pc := 82) B dX12_size_82 0 rfl rfl ?_
          refine zk_geti (pc := 83) B kx_12 (gModel_s ha) 17 (by decide) kf_12_114 rfl dX12_size_83 ?_
          exact zk_iret (pc := 86) B dX12_size_86 rfl rfl (Nat.le_of_ble_eq_true rfl) (Nat.le_of_ble_eq_true rfl) rfl
        · refine zk_if (fun hs => zk_tin (v := 3) (tgt := 87) (pc := 25) B dX12_size_25 hs (by decide) (by decide) rfl (by decide) ?_) (fun hn25_3 => ?_)
          · refine zk_aload_n (pc := 87) B dX12_size_87 0 rfl rfl ?_
            refine zk_getr (pc := 88) B kx_12 (gModel_s ha) 1 (by decide) kf_12_7 rfl (gModel_f1 ha) dX12_size_88 ?_
            refine zk_iconst (v := 1) (pc := 91) B dX12_size_91 (by decide) ?_
            refine zk_iald (pc := 92) B (gModel_t1 ha) dX12_size_92 ?_
            exact zk_iret (pc := 93) B dX12_size_93 rfl rfl (Nat.le_of_ble_eq_true rfl) (Nat.le_of_ble_eq_true rfl) rfl
          · refine zk_if (fun hs => zk_tin (v := 4) (tgt := 94) (pc := 25) B dX12_size_25 hs (by decide) (by decide) rfl (by decide) ?_) (fun hn25_4 => ?_)
            · refine zk_aload_n (pc := 94) B dX12_size_94 0 rfl rfl ?_
              refine zk_getr (pc := 95) B kx_12 (gModel_s ha) 1 (by decide) kf_12_7 rfl (gModel_f1 ha) dX12_size_95 ?_
              refine zk_iconst (v := 0) (pc := 98) B dX12_size_98 (by decide) ?_
              refine zk_iald (pc := 99) B (gModel_t1 ha) dX12_size_99 ?_
              exact zk_iret (pc := 100) B dX12_size_100 rfl rfl (Nat.le_of_ble_eq_true rfl) (Nat.le_of_ble_eq_true rfl) rfl
            · refine zk_if (fun hs => zk_tin (v := 5) (tgt := 101) (pc := 25) B dX12_size_25 hs (by decide) (by decide) rfl (by decide) ?_) (fun hn25_5 => ?_)
              · refine zk_aload_n (pc := 101) B dX12_size_101 0 rfl rfl ?_
                refine zk_iconst (v := 0) (pc := 102) B dX12_size_102 (by decide) ?_
                refine zk_cpi (pc := 103) (k' := 0) (n' := 0) B rfl rfl (Nat.le_of_ble_eq_true rfl) (Nat.le_of_ble_eq_true rfl) (fun b hb => zr_V B hR kV_yX12_ridesIn km_12_364 kx_12 (gModel_s ha) [.int 0] rfl rfl (Nat.le_of_ble_eq_true rfl) dX12_size_103 (m_Model_ridesIn hX ha 0 M3 b hb) ⟨Nat.le_of_ble_eq_true rfl, Nat.le_of_ble_eq_true rfl⟩ ⟨Nat.le_of_ble_eq_true rfl, Nat.le_of_ble_eq_true rfl⟩) (fun x6 _ => ?_)
                exact zk_iret (pc := 106) B dX12_size_106 rfl rfl (Nat.le_of_ble_eq_true rfl) (Nat.le_of_ble_eq_true rfl) rfl
              · refine zk_if (fun hs => zk_tin (v := 6) (tgt := 107) (pc := 25) B dX12_size_25 hs (by decide) (by decide) rfl (by decide) ?_) (fun hn25_6 => ?_)
                · refine zk_aload_n (pc := 107) B dX12_size_107 0 rfl rfl ?_
                  refine zk_bipush (v := 11) (pc := 108) B dX12_size_108 (by decide) ?_
                  refine zk_cpi (pc := 110) (k' := 0) (n' := 0) B rfl rfl (Nat.le_of_ble_eq_true rfl) (Nat.le_of_ble_eq_true rfl) (fun b hb => zr_V B hR kV_yX12_sumOf km_12_367 kx_12 (gModel_s ha) [.int 11] rfl rfl (Nat.le_of_ble_eq_true rfl) dX12_size_110 (m_Model_sumOf hX ha 11 M3 b hb) ⟨Nat.le_of_ble_eq_true rfl, Nat.le_of_ble_eq_true rfl⟩ ⟨Nat.le_of_ble_eq_true rfl, Nat.le_of_ble_eq_true rfl⟩) (fun x5 _ => ?_)
                  exact zk_iret (pc := 113) B dX12_size_113 rfl rfl (Nat.le_of_ble_eq_true rfl) (Nat.le_of_ble_eq_true rfl) rfl
                · refine zk_if (fun hs => zk_tin (v := 7) (tgt := 114) (pc := 25) B dX12_size_25 hs (by decide) (by decide) rfl (by decide) ?_) (fun hn25_7 => ?_)
                  · refine zk_aload_n (pc := 114) B dX12_size_114 0 rfl rfl ?_
                    refine zk_geti (pc := 115) B kx_12 (gModel_s ha) 18 (by decide) kf_12_117 rfl dX12_size_115 ?_
                    exact zk_iret (pc := 118) B dX12_size_118 rfl rfl (Nat.le_of_ble_eq_true rfl) (Nat.le_of_ble_eq_true rfl) rfl
                  · refine zk_tout (pc := 25)  (tgt := 119) B dX12_size_25 (by have q0 := z_ne hn25_0 (z := 0) (by decide); have q1 := z_ne hn25_1 (z := 1) (by decide); have q2 := z_ne hn25_2 (z := 2) (by decide); have q3 := z_ne hn25_3 (z := 3) (by decide); have q4 := z_ne hn25_4 (z := 4) (by decide); have q5 := z_ne hn25_5 (z := 5) (by decide); have q6 := z_ne hn25_6 (z := 6) (by decide); have q7 := z_ne hn25_7 (z := 7) (by decide); omega) (by decide) ?_
                    refine zk_aload_n (pc := 119) B dX12_size_119 0 rfl rfl ?_
                    refine zk_getr (pc := 120) B kx_12 (gModel_s ha) 1 (by decide) kf_12_7 rfl (gModel_f1 ha) dX12_size_120 ?_
                    refine zk_iconst (v := 2) (pc := 123) B dX12_size_123 (by decide) ?_
                    refine zk_iald (pc := 124) B (gModel_t1 ha) dX12_size_124 ?_
                    exact zk_iret (pc := 125) B dX12_size_125 rfl rfl (Nat.le_of_ble_eq_true rfl) (Nat.le_of_ble_eq_true rfl) rfl
  · refine zk_iconst (v := 0) (pc := 22) B dX12_size_22 (by decide) ?_
    exact zk_iret (pc := 23) B dX12_size_23 rfl rfl (Nat.le_of_ble_eq_true rfl) (Nat.le_of_ble_eq_true rfl) rfl
set_option maxHeartbeats 4000000 in
set_option maxRecDepth 100000 in
theorem m_Model_rule {X : z_X} (hX : z_ok X) {G : z_Gr} {a : Nat} (ha : g_Model G a) (p0 : Int32) (M : z_Mem) (b : Int32 × z_Mem) (h : F_Model_rule a p0 M = some b) : z_Ct X yX12_rule cX12_rule 2 (some .int) ({ frames := 1, cells := 0, slots := 0, locals := 25 } : Room) [.ref a, .int p0] G M (fun o9 G9 M9 => G9 = G ∧ (o9, M9) = z_cim b) := by
  refine z_enter hX (by decide) (Nat.le_of_ble_eq_true rfl) h (fun F B hR => ?_)
  show z_K X F 2 0 0 G z_cim b 0 0 0 [(0, .ref a), (1, .int p0)] [] M (F_Model_rule a p0 M)
  unfold F_Model_rule
  refine zk_aload_n (pc := 0) B dX12_rule_0 0 rfl rfl ?_
  refine zk_iconst (v := 0) (pc := 1) B dX12_rule_1 (by decide) ?_
  refine zk_puti (pc := 2) B kx_12 (gModel_s ha) 0 (by decide) kf_12_93 rfl rfl rfl rfl dX12_rule_2 ?_
  refine zk_lm (fun M1 => ?_)
  refine zk_aload_n (pc := 5) B dX12_rule_5 0 rfl rfl ?_
  refine zk_iload_n (pc := 6) B dX12_rule_6 1 rfl rfl ?_
  refine zk_i2l (pc := 7) B dX12_rule_7 ?_
  refine zk_lconst (v := 0) (pc := 8) B dX12_rule_8 (by decide) ?_
  refine zk_ldc2 (pc := 9) B kl_12_370 dX12_rule_9 ?_
  refine zk_cpi (pc := 12) (k' := 0) (n' := 0) B rfl rfl (Nat.le_of_ble_eq_true rfl) (Nat.le_of_ble_eq_true rfl) (fun b hb => zr_S B hR kS_yX12_in km_12_197 [.long p0.toInt64, .long 0, .long 9] rfl rfl (Nat.le_of_ble_eq_true rfl) dX12_rule_12 (m_Model_in hX p0.toInt64 0 9 M1 b hb) ⟨Nat.le_of_ble_eq_true rfl, Nat.le_of_ble_eq_true rfl⟩ ⟨Nat.le_of_ble_eq_true rfl, Nat.le_of_ble_eq_true rfl⟩) (fun x2 _ => ?_)
  refine zk_iconst (v := 1) (pc := 15) B dX12_rule_15 (by decide) ?_
  refine zk_cim (pc := 16) (k' := 0) (n' := 0) B rfl rfl (Nat.le_of_ble_eq_true rfl) (Nat.le_of_ble_eq_true rfl) (fun b hb => zr_V B hR kV_yX12_fails km_12_256 kx_12 (gModel_s ha) [.int x2, .int 1] rfl rfl (Nat.le_of_ble_eq_true rfl) dX12_rule_16 (m_Model_fails hX ha x2 1 M1 b hb) ⟨Nat.le_of_ble_eq_true rfl, Nat.le_of_ble_eq_true rfl⟩ ⟨Nat.le_of_ble_eq_true rfl, Nat.le_of_ble_eq_true rfl⟩) (fun x4 M3 => ?_)
  refine zk_if_eq (tgt := 26) (pc := 19) B dX12_rule_19 (by decide) (fun _ => ?_) (fun _ => ?_)
  · refine zk_aload_n (pc := 26) B dX12_rule_26 0 rfl rfl ?_
    refine zk_iload_n (pc := 27) B dX12_rule_27 1 rfl rfl ?_
    refine zk_cpi (pc := 28) (k' := 0) (n' := 0) B rfl rfl (Nat.le_of_ble_eq_true rfl) (Nat.le_of_ble_eq_true rfl) (fun b hb => zr_V B hR kV_yX12_ruled km_12_292 kx_12 (gModel_s ha) [.int p0] rfl rfl (Nat.le_of_ble_eq_true rfl) dX12_rule_28 (m_Model_ruled hX ha p0 M3 b hb) ⟨Nat.le_of_ble_eq_true rfl, Nat.le_of_ble_eq_true rfl⟩ ⟨Nat.le_of_ble_eq_true rfl, Nat.le_of_ble_eq_true rfl⟩) (fun x5 _ => ?_)
    exact zk_iret (pc := 31) B dX12_rule_31 rfl rfl (Nat.le_of_ble_eq_true rfl) (Nat.le_of_ble_eq_true rfl) rfl
  · refine zk_iconst (v := 0) (pc := 22) B dX12_rule_22 (by decide) ?_
    refine zk_goto (tgt := 31) (pc := 23) B dX12_rule_23 (by decide) ?_
    exact zk_iret (pc := 31) B dX12_rule_31 rfl rfl (Nat.le_of_ble_eq_true rfl) (Nat.le_of_ble_eq_true rfl) rfl
set_option maxHeartbeats 4000000 in
set_option maxRecDepth 100000 in
theorem m_Model_minutes {X : z_X} (hX : z_ok X) {G : z_Gr} {a : Nat} (ha : g_Model G a) (p0 : Int32) (p1 : Int32) (M : z_Mem) (b : Int32 × z_Mem) (h : F_Model_minutes a p0 p1 M = some b) : z_Ct X yX12_minutes cX12_minutes 3 (some .int) ({ frames := 2, cells := 0, slots := 0, locals := 46 } : Room) [.ref a, .int p0, .int p1] G M (fun o9 G9 M9 => G9 = G ∧ (o9, M9) = z_cim b) := by
  refine z_enter hX (by decide) (Nat.le_of_ble_eq_true rfl) h (fun F B hR => ?_)
  have J21 : ∀  (M : z_Mem), z_K X F 3 0 0 G z_cim b 0 0 21 [] [] M (F_Model_minutes_J21 a M) := by
    intro  M
    unfold F_Model_minutes_J21
    refine zk_iconst (v := 0) (pc := 21) B dX12_minutes_21 (by decide) ?_
    refine zk_goto (tgt := 31) (pc := 22) B dX12_minutes_22 (by decide) ?_
    exact zk_iret (pc := 31) B dX12_minutes_31 rfl rfl (Nat.le_of_ble_eq_true rfl) (Nat.le_of_ble_eq_true rfl) rfl
  show z_K X F 3 0 0 G z_cim b 0 0 0 [(0, .ref a), (1, .int p0), (2, .int p1)] [] M (F_Model_minutes a p0 p1 M)
  unfold F_Model_minutes
  refine zk_aload_n (pc := 0) B dX12_minutes_0 0 rfl rfl ?_
  refine zk_iconst (v := 0) (pc := 1) B dX12_minutes_1 (by decide) ?_
  refine zk_puti (pc := 2) B kx_12 (gModel_s ha) 0 (by decide) kf_12_93 rfl rfl rfl rfl dX12_minutes_2 ?_
  refine zk_lm (fun M1 => ?_)
  refine zk_aload_n (pc := 5) B dX12_minutes_5 0 rfl rfl ?_
  refine zk_iload_n (pc := 6) B dX12_minutes_6 1 rfl rfl ?_
  refine zk_cim (pc := 7) (k' := 0) (n' := 0) B rfl rfl (Nat.le_of_ble_eq_true rfl) (Nat.le_of_ble_eq_true rfl) (fun b hb => zr_V B hR kV_yX12_noZone km_12_372 kx_12 (gModel_s ha) [.int p0] rfl rfl (Nat.le_of_ble_eq_true rfl) dX12_minutes_7 (m_Model_noZone hX ha p0 M1 b hb) ⟨Nat.le_of_ble_eq_true rfl, Nat.le_of_ble_eq_true rfl⟩ ⟨Nat.le_of_ble_eq_true rfl, Nat.le_of_ble_eq_true rfl⟩) (fun x3 M2 => ?_)
  refine zk_if_ne (tgt := 21) (pc := 10) B dX12_minutes_10 (by decide) (fun _ => ?_) (fun _ => ?_)
  · refine zk_sub [] rfl ?_
    exact J21 M2
  · refine zk_aload_n (pc := 13) B dX12_minutes_13 0 rfl rfl ?_
    refine zk_iload_n (pc := 14) B dX12_minutes_14 2 rfl rfl ?_
    refine zk_cim (pc := 15) (k' := 0) (n' := 0) B rfl rfl (Nat.le_of_ble_eq_true rfl) (Nat.le_of_ble_eq_true rfl) (fun b hb => zr_V B hR kV_yX12_noZone km_12_372 kx_12 (gModel_s ha) [.int p1] rfl rfl (Nat.le_of_ble_eq_true rfl) dX12_minutes_15 (m_Model_noZone hX ha p1 M2 b hb) ⟨Nat.le_of_ble_eq_true rfl, Nat.le_of_ble_eq_true rfl⟩ ⟨Nat.le_of_ble_eq_true rfl, Nat.le_of_ble_eq_true rfl⟩) (fun x5 M4 => ?_)
    refine zk_if_eq (tgt := 25) (pc := 18) B dX12_minutes_18 (by decide) (fun _ => ?_) (fun _ => ?_)
    · refine zk_aload_n (pc := 25) B dX12_minutes_25 0 rfl rfl ?_
      refine zk_iload_n (pc := 26) B dX12_minutes_26 1 rfl rfl ?_
      refine zk_iload_n (pc := 27) B dX12_minutes_27 2 rfl rfl ?_
      refine zk_cpi (pc := 28) (k' := 0) (n' := 0) B rfl rfl (Nat.le_of_ble_eq_true rfl) (Nat.le_of_ble_eq_true rfl) (fun b hb => zr_V B hR kV_yX12_minutesOf km_12_277 kx_12 (gModel_s ha) [.int p0, .int p1] rfl rfl (Nat.le_of_ble_eq_true rfl) dX12_minutes_28 (m_Model_minutesOf hX ha p0 p1 M4 b hb) ⟨Nat.le_of_ble_eq_true rfl, Nat.le_of_ble_eq_true rfl⟩ ⟨Nat.le_of_ble_eq_true rfl, Nat.le_of_ble_eq_true rfl⟩) (fun x6 _ => ?_)
      exact zk_iret (pc := 31) B dX12_minutes_31 rfl rfl (Nat.le_of_ble_eq_true rfl) (Nat.le_of_ble_eq_true rfl) rfl
    · refine zk_sub [] rfl ?_
      exact J21 M4
set_option maxHeartbeats 4000000 in
set_option maxRecDepth 100000 in
theorem m_Model_taxi {X : z_X} (hX : z_ok X) {G : z_Gr} {a : Nat} (ha : g_Model G a) (p0 : Int32) (p1 : Int32) (M : z_Mem) (b : Int32 × z_Mem) (h : F_Model_taxi a p0 p1 M = some b) : z_Ct X yX12_taxi cX12_taxi 3 (some .int) ({ frames := 2, cells := 0, slots := 0, locals := 46 } : Room) [.ref a, .int p0, .int p1] G M (fun o9 G9 M9 => G9 = G ∧ (o9, M9) = z_cim b) := by
  refine z_enter hX (by decide) (Nat.le_of_ble_eq_true rfl) h (fun F B hR => ?_)
  show z_K X F 3 0 0 G z_cim b 0 0 0 [(0, .ref a), (1, .int p0), (2, .int p1)] [] M (F_Model_taxi a p0 p1 M)
  unfold F_Model_taxi
  refine zk_aload_n (pc := 0) B dX12_taxi_0 0 rfl rfl ?_
  refine zk_iconst (v := 0) (pc := 1) B dX12_taxi_1 (by decide) ?_
  refine zk_puti (pc := 2) B kx_12 (gModel_s ha) 0 (by decide) kf_12_93 rfl rfl rfl rfl dX12_taxi_2 ?_
  refine zk_lm (fun M1 => ?_)
  refine zk_aload_n (pc := 5) B dX12_taxi_5 0 rfl rfl ?_
  refine zk_iload_n (pc := 6) B dX12_taxi_6 1 rfl rfl ?_
  refine zk_cim (pc := 7) (k' := 0) (n' := 0) B rfl rfl (Nat.le_of_ble_eq_true rfl) (Nat.le_of_ble_eq_true rfl) (fun b hb => zr_V B hR kV_yX12_noTaxi km_12_375 kx_12 (gModel_s ha) [.int p0] rfl rfl (Nat.le_of_ble_eq_true rfl) dX12_taxi_7 (m_Model_noTaxi hX ha p0 M1 b hb) ⟨Nat.le_of_ble_eq_true rfl, Nat.le_of_ble_eq_true rfl⟩ ⟨Nat.le_of_ble_eq_true rfl, Nat.le_of_ble_eq_true rfl⟩) (fun x3 M2 => ?_)
  refine zk_if_ne (tgt := 30) (pc := 10) B dX12_taxi_10 (by decide) (fun _ => ?_) (fun _ => ?_)
  · refine zk_iconst (v := 0) (pc := 30) B dX12_taxi_30 (by decide) ?_
    exact zk_iret (pc := 31) B dX12_taxi_31 rfl rfl (Nat.le_of_ble_eq_true rfl) (Nat.le_of_ble_eq_true rfl) rfl
  · refine zk_aload_n (pc := 13) B dX12_taxi_13 0 rfl rfl ?_
    refine zk_iload_n (pc := 14) B dX12_taxi_14 2 rfl rfl ?_
    refine zk_i2l (pc := 15) B dX12_taxi_15 ?_
    refine zk_lconst (v := 0) (pc := 16) B dX12_taxi_16 (by decide) ?_
    refine zk_ldc2 (pc := 17) B kl_12_370 dX12_taxi_17 ?_
    refine zk_cpi (pc := 20) (k' := 0) (n' := 0) B rfl rfl (Nat.le_of_ble_eq_true rfl) (Nat.le_of_ble_eq_true rfl) (fun b hb => zr_S B hR kS_yX12_in km_12_197 [.long p1.toInt64, .long 0, .long 9] rfl rfl (Nat.le_of_ble_eq_true rfl) dX12_taxi_20 (m_Model_in hX p1.toInt64 0 9 M2 b hb) ⟨Nat.le_of_ble_eq_true rfl, Nat.le_of_ble_eq_true rfl⟩ ⟨Nat.le_of_ble_eq_true rfl, Nat.le_of_ble_eq_true rfl⟩) (fun x4 _ => ?_)
    refine zk_iconst (v := 1) (pc := 23) B dX12_taxi_23 (by decide) ?_
    refine zk_cim (pc := 24) (k' := 0) (n' := 0) B rfl rfl (Nat.le_of_ble_eq_true rfl) (Nat.le_of_ble_eq_true rfl) (fun b hb => zr_V B hR kV_yX12_fails km_12_256 kx_12 (gModel_s ha) [.int x4, .int 1] rfl rfl (Nat.le_of_ble_eq_true rfl) dX12_taxi_24 (m_Model_fails hX ha x4 1 M2 b hb) ⟨Nat.le_of_ble_eq_true rfl, Nat.le_of_ble_eq_true rfl⟩ ⟨Nat.le_of_ble_eq_true rfl, Nat.le_of_ble_eq_true rfl⟩) (fun x6 M5 => ?_)
    refine zk_if_eq (tgt := 32) (pc := 27) B dX12_taxi_27 (by decide) (fun _ => ?_) (fun _ => ?_)
    · refine zk_iload_n (pc := 32) B dX12_taxi_32 2 rfl rfl ?_
      refine zk_if (fun hs => zk_tin (v := 0) (tgt := 84) (pc := 33) B dX12_taxi_33 hs (by decide) (by decide) rfl (by decide) ?_) (fun hn33_0 => ?_)
      · refine zk_aload_n (pc := 84) B dX12_taxi_84 0 rfl rfl ?_
        refine zk_getr (pc := 85) B kx_12 (gModel_s ha) 20 (by decide) kf_12_37 rfl (gModel_f20 ha) dX12_taxi_85 ?_
        refine zk_iload_n (pc := 88) B dX12_taxi_88 1 rfl rfl ?_
        refine zk_iald (pc := 89) B (gModel_t20 ha) dX12_taxi_89 ?_
        exact zk_iret (pc := 90) B dX12_taxi_90 rfl rfl (Nat.le_of_ble_eq_true rfl) (Nat.le_of_ble_eq_true rfl) rfl
      · refine zk_if (fun hs => zk_tin (v := 1) (tgt := 91) (pc := 33) B dX12_taxi_33 hs (by decide) (by decide) rfl (by decide) ?_) (fun hn33_1 => ?_)
        · refine zk_aload_n (pc := 91) B dX12_taxi_91 0 rfl rfl ?_
          refine zk_iload_n (pc := 92) B dX12_taxi_92 1 rfl rfl ?_
          refine zk_iconst (v := 0) (pc := 93) B dX12_taxi_93 (by decide) ?_
          refine zk_cpi (pc := 94) (k' := 0) (n' := 0) B rfl rfl (Nat.le_of_ble_eq_true rfl) (Nat.le_of_ble_eq_true rfl) (fun b hb => zr_V B hR kV_yX12_in2 km_12_268 kx_12 (gModel_s ha) [.int p0, .int 0] rfl rfl (Nat.le_of_ble_eq_true rfl) dX12_taxi_94 (m_Model_in2 hX ha p0 0 M5 b hb) ⟨Nat.le_of_ble_eq_true rfl, Nat.le_of_ble_eq_true rfl⟩ ⟨Nat.le_of_ble_eq_true rfl, Nat.le_of_ble_eq_true rfl⟩) (fun x14 _ => ?_)
          exact zk_iret (pc := 97) B dX12_taxi_97 rfl rfl (Nat.le_of_ble_eq_true rfl) (Nat.le_of_ble_eq_true rfl) rfl
        · refine zk_if (fun hs => zk_tin (v := 2) (tgt := 98) (pc := 33) B dX12_taxi_33 hs (by decide) (by decide) rfl (by decide) ?_) (fun hn33_2 => ?_)
          · refine zk_aload_n (pc := 98) B dX12_taxi_98 0 rfl rfl ?_
            refine zk_iload_n (pc := 99) B dX12_taxi_99 1 rfl rfl ?_
            refine zk_iconst (v := 1) (pc := 100) B dX12_taxi_100 (by decide) ?_
            refine zk_cpi (pc := 101) (k' := 0) (n' := 0) B rfl rfl (Nat.le_of_ble_eq_true rfl) (Nat.le_of_ble_eq_true rfl) (fun b hb => zr_V B hR kV_yX12_in2 km_12_268 kx_12 (gModel_s ha) [.int p0, .int 1] rfl rfl (Nat.le_of_ble_eq_true rfl) dX12_taxi_101 (m_Model_in2 hX ha p0 1 M5 b hb) ⟨Nat.le_of_ble_eq_true rfl, Nat.le_of_ble_eq_true rfl⟩ ⟨Nat.le_of_ble_eq_true rfl, Nat.le_of_ble_eq_true rfl⟩) (fun x13 _ => ?_)
            exact zk_iret (pc := 104) B dX12_taxi_104 rfl rfl (Nat.le_of_ble_eq_true rfl) (Nat.le_of_ble_eq_true rfl) rfl
          · refine zk_if (fun hs => zk_tin (v := 3) (tgt := 105) (pc := 33) B dX12_taxi_33 hs (by decide) (by decide) rfl (by decide) ?_) (fun hn33_3 => ?_)
            · refine zk_aload_n (pc := 105) B dX12_taxi_105 0 rfl rfl ?_
              refine zk_getr (pc := 106) B kx_12 (gModel_s ha) 21 (by decide) kf_12_40 rfl (gModel_f21 ha) dX12_taxi_106 ?_
              refine zk_iload_n (pc := 109) B dX12_taxi_109 1 rfl rfl ?_
              refine zk_iald (pc := 110) B (gModel_t21 ha) dX12_taxi_110 ?_
              exact zk_iret (pc := 111) B dX12_taxi_111 rfl rfl (Nat.le_of_ble_eq_true rfl) (Nat.le_of_ble_eq_true rfl) rfl
            · refine zk_if (fun hs => zk_tin (v := 4) (tgt := 112) (pc := 33) B dX12_taxi_33 hs (by decide) (by decide) rfl (by decide) ?_) (fun hn33_4 => ?_)
              · refine zk_aload_n (pc := 112) B dX12_taxi_112 0 rfl rfl ?_
                refine zk_iload_n (pc := 113) B dX12_taxi_113 1 rfl rfl ?_
                refine zk_iconst (v := 4) (pc := 114) B dX12_taxi_114 (by decide) ?_
                refine zk_cpi (pc := 115) (k' := 0) (n' := 0) B rfl rfl (Nat.le_of_ble_eq_true rfl) (Nat.le_of_ble_eq_true rfl) (fun b hb => zr_V B hR kV_yX12_in2 km_12_268 kx_12 (gModel_s ha) [.int p0, .int 4] rfl rfl (Nat.le_of_ble_eq_true rfl) dX12_taxi_115 (m_Model_in2 hX ha p0 4 M5 b hb) ⟨Nat.le_of_ble_eq_true rfl, Nat.le_of_ble_eq_true rfl⟩ ⟨Nat.le_of_ble_eq_true rfl, Nat.le_of_ble_eq_true rfl⟩) (fun x12 _ => ?_)
                exact zk_iret (pc := 118) B dX12_taxi_118 rfl rfl (Nat.le_of_ble_eq_true rfl) (Nat.le_of_ble_eq_true rfl) rfl
              · refine zk_if (fun hs => zk_tin (v := 5) (tgt := 119) (pc := 33) B dX12_taxi_33 hs (by decide) (by decide) rfl (by decide) ?_) (fun hn33_5 => ?_)
                · refine zk_aload_n (pc := 119) B dX12_taxi_119 0 rfl rfl ?_
                  refine zk_iload_n (pc := 120) B dX12_taxi_120 1 rfl rfl ?_
                  refine zk_bipush (v := 11) (pc := 121) B dX12_taxi_121 (by decide) ?_
                  refine zk_cpi (pc := 123) (k' := 0) (n' := 0) B rfl rfl (Nat.le_of_ble_eq_true rfl) (Nat.le_of_ble_eq_true rfl) (fun b hb => zr_V B hR kV_yX12_in2 km_12_268 kx_12 (gModel_s ha) [.int p0, .int 11] rfl rfl (Nat.le_of_ble_eq_true rfl) dX12_taxi_123 (m_Model_in2 hX ha p0 11 M5 b hb) ⟨Nat.le_of_ble_eq_true rfl, Nat.le_of_ble_eq_true rfl⟩ ⟨Nat.le_of_ble_eq_true rfl, Nat.le_of_ble_eq_true rfl⟩) (fun x11 _ => ?_)
                  exact zk_iret (pc := 126) B dX12_taxi_126 rfl rfl (Nat.le_of_ble_eq_true rfl) (Nat.le_of_ble_eq_true rfl) rfl
                · refine zk_if (fun hs => zk_tin (v := 6) (tgt := 127) (pc := 33) B dX12_taxi_33 hs (by decide) (by decide) rfl (by decide) ?_) (fun hn33_6 => ?_)
                  · refine zk_aload_n (pc := 127) B dX12_taxi_127 0 rfl rfl ?_
                    refine zk_iload_n (pc := 128) B dX12_taxi_128 1 rfl rfl ?_
                    refine zk_cpi (pc := 129) (k' := 0) (n' := 0) B rfl rfl (Nat.le_of_ble_eq_true rfl) (Nat.le_of_ble_eq_true rfl) (fun b hb => zr_V B hR kV_yX12_personsAboard km_12_286 kx_12 (gModel_s ha) [.int p0] rfl rfl (Nat.le_of_ble_eq_true rfl) dX12_taxi_129 (m_Model_personsAboard hX ha p0 M5 b hb) ⟨Nat.le_of_ble_eq_true rfl, Nat.le_of_ble_eq_true rfl⟩ ⟨Nat.le_of_ble_eq_true rfl, Nat.le_of_ble_eq_true rfl⟩) (fun x10 _ => ?_)
                    exact zk_iret (pc := 132) B dX12_taxi_132 rfl rfl (Nat.le_of_ble_eq_true rfl) (Nat.le_of_ble_eq_true rfl) rfl
                  · refine zk_if (fun hs => zk_tin (v := 7) (tgt := 133) (pc := 33) B dX12_taxi_33 hs (by decide) (by decide) rfl (by decide) ?_) (fun hn33_7 => ?_)
                    · refine zk_aload_n (pc := 133) B dX12_taxi_133 0 rfl rfl ?_
                      refine zk_iload_n (pc := 134) B dX12_taxi_134 1 rfl rfl ?_
                      refine zk_bipush (v := 24) (pc := 135) B dX12_taxi_135 (by decide) ?_
                      refine zk_cpi (pc := 137) (k' := 0) (n' := 0) B rfl rfl (Nat.le_of_ble_eq_true rfl) (Nat.le_of_ble_eq_true rfl) (fun b hb => zr_V B hR kV_yX12_in2 km_12_268 kx_12 (gModel_s ha) [.int p0, .int 24] rfl rfl (Nat.le_of_ble_eq_true rfl) dX12_taxi_137 (m_Model_in2 hX ha p0 24 M5 b hb) ⟨Nat.le_of_ble_eq_true rfl, Nat.le_of_ble_eq_true rfl⟩ ⟨Nat.le_of_ble_eq_true rfl, Nat.le_of_ble_eq_true rfl⟩) (fun x9 _ => ?_)
                      exact zk_iret (pc := 140) B dX12_taxi_140 rfl rfl (Nat.le_of_ble_eq_true rfl) (Nat.le_of_ble_eq_true rfl) rfl
                    · refine zk_if (fun hs => zk_tin (v := 8) (tgt := 141) (pc := 33) B dX12_taxi_33 hs (by decide) (by decide) rfl (by decide) ?_) (fun hn33_8 => ?_)
                      · refine zk_aload_n (pc := 141) B dX12_taxi_141 0 rfl rfl ?_
                        refine zk_iload_n (pc := 142) B dX12_taxi_142 1 rfl rfl ?_
                        refine zk_iconst (v := 2) (pc := 143) B dX12_taxi_143 (by decide) ?_
                        refine zk_cpi (pc := 144) (k' := 0) (n' := 0) B rfl rfl (Nat.le_of_ble_eq_true rfl) (Nat.le_of_ble_eq_true rfl) (fun b hb => zr_V B hR kV_yX12_in2 km_12_268 kx_12 (gModel_s ha) [.int p0, .int 2] rfl rfl (Nat.le_of_ble_eq_true rfl) dX12_taxi_144 (m_Model_in2 hX ha p0 2 M5 b hb) ⟨Nat.le_of_ble_eq_true rfl, Nat.le_of_ble_eq_true rfl⟩ ⟨Nat.le_of_ble_eq_true rfl, Nat.le_of_ble_eq_true rfl⟩) (fun x8 _ => ?_)
                        exact zk_iret (pc := 147) B dX12_taxi_147 rfl rfl (Nat.le_of_ble_eq_true rfl) (Nat.le_of_ble_eq_true rfl) rfl
                      · refine zk_tout (pc := 33)  (tgt := 148) B dX12_taxi_33 (by have q0 := z_ne hn33_0 (z := 0) (by decide); have q1 := z_ne hn33_1 (z := 1) (by decide); have q2 := z_ne hn33_2 (z := 2) (by decide); have q3 := z_ne hn33_3 (z := 3) (by decide); have q4 := z_ne hn33_4 (z := 4) (by decide); have q5 := z_ne hn33_5 (z := 5) (by decide); have q6 := z_ne hn33_6 (z := 6) (by decide); have q7 := z_ne hn33_7 (z := 7) (by decide); have q8 := z_ne hn33_8 (z := 8) (by decide); omega) (by decide) ?_
                        refine zk_aload_n (pc := 148) B dX12_taxi_148 0 rfl rfl ?_
                        refine zk_iload_n (pc := 149) B dX12_taxi_149 1 rfl rfl ?_
                        refine zk_iconst (v := 3) (pc := 150) B dX12_taxi_150 (by decide) ?_
                        refine zk_cpi (pc := 151) (k' := 0) (n' := 0) B rfl rfl (Nat.le_of_ble_eq_true rfl) (Nat.le_of_ble_eq_true rfl) (fun b hb => zr_V B hR kV_yX12_in2 km_12_268 kx_12 (gModel_s ha) [.int p0, .int 3] rfl rfl (Nat.le_of_ble_eq_true rfl) dX12_taxi_151 (m_Model_in2 hX ha p0 3 M5 b hb) ⟨Nat.le_of_ble_eq_true rfl, Nat.le_of_ble_eq_true rfl⟩ ⟨Nat.le_of_ble_eq_true rfl, Nat.le_of_ble_eq_true rfl⟩) (fun x7 _ => ?_)
                        exact zk_iret (pc := 154) B dX12_taxi_154 rfl rfl (Nat.le_of_ble_eq_true rfl) (Nat.le_of_ble_eq_true rfl) rfl
    · refine zk_iconst (v := 0) (pc := 30) B dX12_taxi_30 (by decide) ?_
      exact zk_iret (pc := 31) B dX12_taxi_31 rfl rfl (Nat.le_of_ble_eq_true rfl) (Nat.le_of_ble_eq_true rfl) rfl
set_option maxHeartbeats 4000000 in
set_option maxRecDepth 100000 in
theorem m_Model_account {X : z_X} (hX : z_ok X) {G : z_Gr} {a : Nat} (ha : g_Model G a) (p0 : Int32) (p1 : Int32) (M : z_Mem) (b : Int32 × z_Mem) (h : F_Model_account a p0 p1 M = some b) : z_Ct X yX12_account cX12_account 3 (some .int) ({ frames := 2, cells := 0, slots := 0, locals := 46 } : Room) [.ref a, .int p0, .int p1] G M (fun o9 G9 M9 => G9 = G ∧ (o9, M9) = z_cim b) := by
  refine z_enter hX (by decide) (Nat.le_of_ble_eq_true rfl) h (fun F B hR => ?_)
  have J30 : ∀  (M : z_Mem), z_K X F 3 0 0 G z_cim b 0 0 30 [] [] M (F_Model_account_J30 a M) := by
    intro  M
    unfold F_Model_account_J30
    refine zk_iconst (v := 0) (pc := 30) B dX12_account_30 (by decide) ?_
    refine zk_goto (tgt := 42) (pc := 31) B dX12_account_31 (by decide) ?_
    exact zk_iret (pc := 42) B dX12_account_42 rfl rfl (Nat.le_of_ble_eq_true rfl) (Nat.le_of_ble_eq_true rfl) rfl
  show z_K X F 3 0 0 G z_cim b 0 0 0 [(0, .ref a), (1, .int p0), (2, .int p1)] [] M (F_Model_account a p0 p1 M)
  unfold F_Model_account
  refine zk_aload_n (pc := 0) B dX12_account_0 0 rfl rfl ?_
  refine zk_iconst (v := 0) (pc := 1) B dX12_account_1 (by decide) ?_
  refine zk_puti (pc := 2) B kx_12 (gModel_s ha) 0 (by decide) kf_12_93 rfl rfl rfl rfl dX12_account_2 ?_
  refine zk_lm (fun M1 => ?_)
  refine zk_aload_n (pc := 5) B dX12_account_5 0 rfl rfl ?_
  refine zk_iload_n (pc := 6) B dX12_account_6 1 rfl rfl ?_
  refine zk_cim (pc := 7) (k' := 0) (n' := 0) B rfl rfl (Nat.le_of_ble_eq_true rfl) (Nat.le_of_ble_eq_true rfl) (fun b hb => zr_V B hR kV_yX12_noTaxi km_12_375 kx_12 (gModel_s ha) [.int p0] rfl rfl (Nat.le_of_ble_eq_true rfl) dX12_account_7 (m_Model_noTaxi hX ha p0 M1 b hb) ⟨Nat.le_of_ble_eq_true rfl, Nat.le_of_ble_eq_true rfl⟩ ⟨Nat.le_of_ble_eq_true rfl, Nat.le_of_ble_eq_true rfl⟩) (fun x3 M2 => ?_)
  refine zk_if_ne (tgt := 30) (pc := 10) B dX12_account_10 (by decide) (fun _ => ?_) (fun _ => ?_)
  · refine zk_sub [] rfl ?_
    exact J30 M2
  · refine zk_aload_n (pc := 13) B dX12_account_13 0 rfl rfl ?_
    refine zk_iload_n (pc := 14) B dX12_account_14 2 rfl rfl ?_
    refine zk_i2l (pc := 15) B dX12_account_15 ?_
    refine zk_lconst (v := 0) (pc := 16) B dX12_account_16 (by decide) ?_
    refine zk_ldc2 (pc := 17) B kl_12_378 dX12_account_17 ?_
    refine zk_cpi (pc := 20) (k' := 0) (n' := 0) B rfl rfl (Nat.le_of_ble_eq_true rfl) (Nat.le_of_ble_eq_true rfl) (fun b hb => zr_S B hR kS_yX12_in km_12_197 [.long p1.toInt64, .long 0, .long 5] rfl rfl (Nat.le_of_ble_eq_true rfl) dX12_account_20 (m_Model_in hX p1.toInt64 0 5 M2 b hb) ⟨Nat.le_of_ble_eq_true rfl, Nat.le_of_ble_eq_true rfl⟩ ⟨Nat.le_of_ble_eq_true rfl, Nat.le_of_ble_eq_true rfl⟩) (fun x4 _ => ?_)
    refine zk_iconst (v := 1) (pc := 23) B dX12_account_23 (by decide) ?_
    refine zk_cim (pc := 24) (k' := 0) (n' := 0) B rfl rfl (Nat.le_of_ble_eq_true rfl) (Nat.le_of_ble_eq_true rfl) (fun b hb => zr_V B hR kV_yX12_fails km_12_256 kx_12 (gModel_s ha) [.int x4, .int 1] rfl rfl (Nat.le_of_ble_eq_true rfl) dX12_account_24 (m_Model_fails hX ha x4 1 M2 b hb) ⟨Nat.le_of_ble_eq_true rfl, Nat.le_of_ble_eq_true rfl⟩ ⟨Nat.le_of_ble_eq_true rfl, Nat.le_of_ble_eq_true rfl⟩) (fun x6 M5 => ?_)
    refine zk_if_eq (tgt := 34) (pc := 27) B dX12_account_27 (by decide) (fun _ => ?_) (fun _ => ?_)
    · refine zk_aload_n (pc := 34) B dX12_account_34 0 rfl rfl ?_
      refine zk_iload_n (pc := 35) B dX12_account_35 1 rfl rfl ?_
      refine zk_iconst (v := 5) (pc := 36) B dX12_account_36 (by decide) ?_
      refine zk_iload_n (pc := 37) B dX12_account_37 2 rfl rfl ?_
      refine zk_iadd (pc := 38) B dX12_account_38 ?_
      refine zk_cpi (pc := 39) (k' := 0) (n' := 0) B rfl rfl (Nat.le_of_ble_eq_true rfl) (Nat.le_of_ble_eq_true rfl) (fun b hb => zr_V B hR kV_yX12_in2 km_12_268 kx_12 (gModel_s ha) [.int p0, .int (5 + p1)] rfl rfl (Nat.le_of_ble_eq_true rfl) dX12_account_39 (m_Model_in2 hX ha p0 (5 + p1) M5 b hb) ⟨Nat.le_of_ble_eq_true rfl, Nat.le_of_ble_eq_true rfl⟩ ⟨Nat.le_of_ble_eq_true rfl, Nat.le_of_ble_eq_true rfl⟩) (fun x7 _ => ?_)
      exact zk_iret (pc := 42) B dX12_account_42 rfl rfl (Nat.le_of_ble_eq_true rfl) (Nat.le_of_ble_eq_true rfl) rfl
    · refine zk_sub [] rfl ?_
      exact J30 M5
set_option maxHeartbeats 4000000 in
set_option maxRecDepth 100000 in
theorem m_Model_stop {X : z_X} (hX : z_ok X) {G : z_Gr} {a : Nat} (ha : g_Model G a) (p0 : Int32) (p1 : Int32) (p2 : Int32) (M : z_Mem) (b : Int32 × z_Mem) (h : F_Model_stop a p0 p1 p2 M = some b) : z_Ct X yX12_stop cX12_stop 5 (some .int) ({ frames := 4, cells := 0, slots := 0, locals := 98 } : Room) [.ref a, .int p0, .int p1, .int p2] G M (fun o9 G9 M9 => G9 = G ∧ (o9, M9) = z_cim b) := by
  refine z_enter hX (by decide) (Nat.le_of_ble_eq_true rfl) h (fun F B hR => ?_)
  have J50 : ∀ (v1 : Int32) (v2 : Int32) (v3 : Int32) (s0 : Int32) (M : z_Mem), z_K X F 5 0 0 G z_cim b 0 0 50 [(0, .ref a), (1, .int v1), (2, .int v2), (3, .int v3)] [.int s0, .ref a] M (F_Model_stop_J50 a v1 v2 v3 s0 M) := by
    intro v1 v2 v3 s0 M
    unfold F_Model_stop_J50
    refine zk_iconst (v := 1) (pc := 50) B dX12_stop_50 (by decide) ?_
    refine zk_cim (pc := 51) (k' := 0) (n' := 0) B rfl rfl (Nat.le_of_ble_eq_true rfl) (Nat.le_of_ble_eq_true rfl) (fun b hb => zr_V B hR kV_yX12_fails km_12_256 kx_12 (gModel_s ha) [.int s0, .int 1] rfl rfl (Nat.le_of_ble_eq_true rfl) dX12_stop_51 (m_Model_fails hX ha s0 1 M b hb) ⟨Nat.le_of_ble_eq_true rfl, Nat.le_of_ble_eq_true rfl⟩ ⟨Nat.le_of_ble_eq_true rfl, Nat.le_of_ble_eq_true rfl⟩) (fun x8 M7 => ?_)
    refine zk_if_eq (tgt := 59) (pc := 54) B dX12_stop_54 (by decide) (fun _ => ?_) (fun _ => ?_)
    · refine zk_aload_n (pc := 59) B dX12_stop_59 0 rfl rfl ?_
      refine zk_iload_n (pc := 60) B dX12_stop_60 1 rfl rfl ?_
      refine zk_cvm (pc := 61) (k' := 0) (n' := 0) B rfl rfl (Nat.le_of_ble_eq_true rfl) (Nat.le_of_ble_eq_true rfl) (fun b hb => zr_V B hR kV_yX12_lists km_12_301 kx_12 (gModel_s ha) [.int v1] rfl rfl (Nat.le_of_ble_eq_true rfl) dX12_stop_61 (m_Model_lists hX ha v1 M7 b hb) ⟨Nat.le_of_ble_eq_true rfl, Nat.le_of_ble_eq_true rfl⟩ ⟨Nat.le_of_ble_eq_true rfl, Nat.le_of_ble_eq_true rfl⟩) (fun M9 => ?_)
      refine zk_aload_n (pc := 64) B dX12_stop_64 0 rfl rfl ?_
      refine zk_iload_n (pc := 65) B dX12_stop_65 1 rfl rfl ?_
      refine zk_cim (pc := 66) (k' := 0) (n' := 0) B rfl rfl (Nat.le_of_ble_eq_true rfl) (Nat.le_of_ble_eq_true rfl) (fun b hb => zr_V B hR kV_yX12_plans km_12_311 kx_12 (gModel_s ha) [.int v1] rfl rfl (Nat.le_of_ble_eq_true rfl) dX12_stop_66 (m_Model_plans hX ha v1 M9 b hb) ⟨Nat.le_of_ble_eq_true rfl, Nat.le_of_ble_eq_true rfl⟩ ⟨Nat.le_of_ble_eq_true rfl, Nat.le_of_ble_eq_true rfl⟩) (fun x11 M10 => ?_)
      refine zk_istore (loc' := [(4, .int x11), (0, .ref a), (1, .int v1), (2, .int v2), (3, .int v3)]) (pc := 69) B dX12_stop_69 (by decide) rfl ?_
      refine zk_iload_n (pc := 71) B dX12_stop_71 4 rfl rfl ?_
      refine zk_if (fun hs => zk_tin (v := 0) (tgt := 108) (pc := 72) B dX12_stop_72 hs (by decide) (by decide) rfl (by decide) ?_) (fun hn72_0 => ?_)
      · refine zk_aload_n (pc := 108) B dX12_stop_108 1 rfl rfl ?_
        refine zk_getr (pc := 109) B kx_12 (gModel_s ha) 32 (by decide) kf_12_50 rfl (gModel_f32 ha) dX12_stop_109 ?_
        refine zk_iload_n (pc := 112) B dX12_stop_112 3 rfl rfl ?_
        refine zk_iald (pc := 113) B (gModel_t32 ha) dX12_stop_113 ?_
        refine zk_iconst (v := 2) (pc := 114) B dX12_stop_114 (by decide) ?_
        refine zk_idiv (pc := 115) B dX12_stop_115 (by decide) ?_
        exact zk_iret (pc := 116) B dX12_stop_116 rfl rfl (Nat.le_of_ble_eq_true rfl) (Nat.le_of_ble_eq_true rfl) rfl
      · refine zk_if (fun hs => zk_tin (v := 1) (tgt := 117) (pc := 72) B dX12_stop_72 hs (by decide) (by decide) rfl (by decide) ?_) (fun hn72_1 => ?_)
        · refine zk_aload_n (pc := 117) B dX12_stop_117 1 rfl rfl ?_
          refine zk_getr (pc := 118) B kx_12 (gModel_s ha) 32 (by decide) kf_12_50 rfl (gModel_f32 ha) dX12_stop_118 ?_
          refine zk_iload_n (pc := 121) B dX12_stop_121 3 rfl rfl ?_
          refine zk_iald (pc := 122) B (gModel_t32 ha) dX12_stop_122 ?_
          refine zk_iconst (v := 1) (pc := 123) B dX12_stop_123 (by decide) ?_
          refine zk_iand (pc := 124) B dX12_stop_124 ?_
          exact zk_iret (pc := 125) B dX12_stop_125 rfl rfl (Nat.le_of_ble_eq_true rfl) (Nat.le_of_ble_eq_true rfl) rfl
        · refine zk_if (fun hs => zk_tin (v := 2) (tgt := 126) (pc := 72) B dX12_stop_72 hs (by decide) (by decide) rfl (by decide) ?_) (fun hn72_2 => ?_)
          · refine zk_aload_n (pc := 126) B dX12_stop_126 1 rfl rfl ?_
            refine zk_aload_n (pc := 127) B dX12_stop_127 1 rfl rfl ?_
            refine zk_getr (pc := 128) B kx_12 (gModel_s ha) 32 (by decide) kf_12_50 rfl (gModel_f32 ha) dX12_stop_128 ?_
            refine zk_iload_n (pc := 131) B dX12_stop_131 3 rfl rfl ?_
            refine zk_iald (pc := 132) B (gModel_t32 ha) dX12_stop_132 ?_
            refine zk_cpi (pc := 133) (k' := 0) (n' := 0) B rfl rfl (Nat.le_of_ble_eq_true rfl) (Nat.le_of_ble_eq_true rfl) (fun b hb => zr_V B hR kV_yX12_zoneOf km_12_283 kx_12 (gModel_s ha) [.int (M10.1 (a + 13) v2.toNatClampNeg)] rfl rfl (Nat.le_of_ble_eq_true rfl) dX12_stop_133 (m_Model_zoneOf hX ha (M10.1 (a + 13) v2.toNatClampNeg) M10 b hb) ⟨Nat.le_of_ble_eq_true rfl, Nat.le_of_ble_eq_true rfl⟩ ⟨Nat.le_of_ble_eq_true rfl, Nat.le_of_ble_eq_true rfl⟩) (fun x12 _ => ?_)
            exact zk_iret (pc := 136) B dX12_stop_136 rfl rfl (Nat.le_of_ble_eq_true rfl) (Nat.le_of_ble_eq_true rfl) rfl
          · refine zk_if (fun hs => zk_tin (v := 3) (tgt := 137) (pc := 72) B dX12_stop_72 hs (by decide) (by decide) rfl (by decide) ?_) (fun hn72_3 => ?_)
            · refine zk_aload_n (pc := 137) B dX12_stop_137 1 rfl rfl ?_
              refine zk_getr (pc := 138) B kx_12 (gModel_s ha) 33 (by decide) kf_12_53 rfl (gModel_f33 ha) dX12_stop_138 ?_
              refine zk_iload_n (pc := 141) B dX12_stop_141 3 rfl rfl ?_
              refine zk_iald (pc := 142) B (gModel_t33 ha) dX12_stop_142 ?_
              exact zk_iret (pc := 143) B dX12_stop_143 rfl rfl (Nat.le_of_ble_eq_true rfl) (Nat.le_of_ble_eq_true rfl) rfl
            · refine zk_if (fun hs => zk_tin (v := 4) (tgt := 144) (pc := 72) B dX12_stop_72 hs (by decide) (by decide) rfl (by decide) ?_) (fun hn72_4 => ?_)
              · refine zk_aload_n (pc := 144) B dX12_stop_144 1 rfl rfl ?_
                refine zk_getr (pc := 145) B kx_12 (gModel_s ha) 34 (by decide) kf_12_56 rfl (gModel_f34 ha) dX12_stop_145 ?_
                refine zk_iload_n (pc := 148) B dX12_stop_148 3 rfl rfl ?_
                refine zk_iald (pc := 149) B (gModel_t34 ha) dX12_stop_149 ?_
                exact zk_iret (pc := 150) B dX12_stop_150 rfl rfl (Nat.le_of_ble_eq_true rfl) (Nat.le_of_ble_eq_true rfl) rfl
              · refine zk_tout (pc := 72)  (tgt := 151) B dX12_stop_72 (by have q0 := z_ne hn72_0 (z := 0) (by decide); have q1 := z_ne hn72_1 (z := 1) (by decide); have q2 := z_ne hn72_2 (z := 2) (by decide); have q3 := z_ne hn72_3 (z := 3) (by decide); have q4 := z_ne hn72_4 (z := 4) (by decide); omega) (by decide) ?_
                refine zk_aload_n (pc := 151) B dX12_stop_151 1 rfl rfl ?_
                refine zk_getr (pc := 152) B kx_12 (gModel_s ha) 35 (by decide) kf_12_59 rfl (gModel_f35 ha) dX12_stop_152 ?_
                refine zk_iload_n (pc := 155) B dX12_stop_155 3 rfl rfl ?_
                refine zk_iald (pc := 156) B (gModel_t35 ha) dX12_stop_156 ?_
                exact zk_iret (pc := 157) B dX12_stop_157 rfl rfl (Nat.le_of_ble_eq_true rfl) (Nat.le_of_ble_eq_true rfl) rfl
    · refine zk_iconst (v := 0) (pc := 57) B dX12_stop_57 (by decide) ?_
      exact zk_iret (pc := 58) B dX12_stop_58 rfl rfl (Nat.le_of_ble_eq_true rfl) (Nat.le_of_ble_eq_true rfl) rfl
  have J49 : ∀ (v1 : Int32) (v2 : Int32) (v3 : Int32) (M : z_Mem), z_K X F 5 0 0 G z_cim b 0 0 49 [(0, .ref a), (1, .int v1), (2, .int v2), (3, .int v3)] [.ref a] M (F_Model_stop_J49 a v1 v2 v3 M) := by
    intro v1 v2 v3 M
    unfold F_Model_stop_J49
    refine zk_iconst (v := 0) (pc := 49) B dX12_stop_49 (by decide) ?_
    exact J50 v1 v2 v3 0 M
  show z_K X F 5 0 0 G z_cim b 0 0 0 [(0, .ref a), (1, .int p0), (2, .int p1), (3, .int p2)] [] M (F_Model_stop a p0 p1 p2 M)
  unfold F_Model_stop
  refine zk_aload_n (pc := 0) B dX12_stop_0 0 rfl rfl ?_
  refine zk_iconst (v := 0) (pc := 1) B dX12_stop_1 (by decide) ?_
  refine zk_puti (pc := 2) B kx_12 (gModel_s ha) 0 (by decide) kf_12_93 rfl rfl rfl rfl dX12_stop_2 ?_
  refine zk_lm (fun M1 => ?_)
  refine zk_aload_n (pc := 5) B dX12_stop_5 0 rfl rfl ?_
  refine zk_iload_n (pc := 6) B dX12_stop_6 1 rfl rfl ?_
  refine zk_cim (pc := 7) (k' := 0) (n' := 0) B rfl rfl (Nat.le_of_ble_eq_true rfl) (Nat.le_of_ble_eq_true rfl) (fun b hb => zr_V B hR kV_yX12_noTaxi km_12_375 kx_12 (gModel_s ha) [.int p0] rfl rfl (Nat.le_of_ble_eq_true rfl) dX12_stop_7 (m_Model_noTaxi hX ha p0 M1 b hb) ⟨Nat.le_of_ble_eq_true rfl, Nat.le_of_ble_eq_true rfl⟩ ⟨Nat.le_of_ble_eq_true rfl, Nat.le_of_ble_eq_true rfl⟩) (fun x3 M2 => ?_)
  refine zk_if_ne (tgt := 57) (pc := 10) B dX12_stop_10 (by decide) (fun _ => ?_) (fun _ => ?_)
  · refine zk_iconst (v := 0) (pc := 57) B dX12_stop_57 (by decide) ?_
    exact zk_iret (pc := 58) B dX12_stop_58 rfl rfl (Nat.le_of_ble_eq_true rfl) (Nat.le_of_ble_eq_true rfl) rfl
  · refine zk_aload_n (pc := 13) B dX12_stop_13 0 rfl rfl ?_
    refine zk_iload_n (pc := 14) B dX12_stop_14 2 rfl rfl ?_
    refine zk_i2l (pc := 15) B dX12_stop_15 ?_
    refine zk_lconst (v := 0) (pc := 16) B dX12_stop_16 (by decide) ?_
    refine zk_aload_n (pc := 17) B dX12_stop_17 0 rfl rfl ?_
    refine zk_iload_n (pc := 18) B dX12_stop_18 1 rfl rfl ?_
    refine zk_bipush (v := 11) (pc := 19) B dX12_stop_19 (by decide) ?_
    refine zk_cpi (pc := 21) (k' := 0) (n' := 0) B rfl rfl (Nat.le_of_ble_eq_true rfl) (Nat.le_of_ble_eq_true rfl) (fun b hb => zr_V B hR kV_yX12_in2 km_12_268 kx_12 (gModel_s ha) [.int p0, .int 11] rfl rfl (Nat.le_of_ble_eq_true rfl) dX12_stop_21 (m_Model_in2 hX ha p0 11 M2 b hb) ⟨Nat.le_of_ble_eq_true rfl, Nat.le_of_ble_eq_true rfl⟩ ⟨Nat.le_of_ble_eq_true rfl, Nat.le_of_ble_eq_true rfl⟩) (fun x4 _ => ?_)
    refine zk_iconst (v := 1) (pc := 24) B dX12_stop_24 (by decide) ?_
    refine zk_isub (pc := 25) B dX12_stop_25 ?_
    refine zk_i2l (pc := 26) B dX12_stop_26 ?_
    refine zk_cpi (pc := 27) (k' := 0) (n' := 0) B rfl rfl (Nat.le_of_ble_eq_true rfl) (Nat.le_of_ble_eq_true rfl) (fun b hb => zr_S B hR kS_yX12_in km_12_197 [.long p1.toInt64, .long 0, .long ((x4 - 1).toInt64)] rfl rfl (Nat.le_of_ble_eq_true rfl) dX12_stop_27 (m_Model_in hX p1.toInt64 0 ((x4 - 1).toInt64) M2 b hb) ⟨Nat.le_of_ble_eq_true rfl, Nat.le_of_ble_eq_true rfl⟩ ⟨Nat.le_of_ble_eq_true rfl, Nat.le_of_ble_eq_true rfl⟩) (fun x5 _ => ?_)
    refine zk_if_eq (tgt := 49) (pc := 30) B dX12_stop_30 (by decide) (fun _ => ?_) (fun _ => ?_)
    · exact J49 p0 p1 p2 M2
    · refine zk_iload_n (pc := 33) B dX12_stop_33 3 rfl rfl ?_
      refine zk_i2l (pc := 34) B dX12_stop_34 ?_
      refine zk_lconst (v := 0) (pc := 35) B dX12_stop_35 (by decide) ?_
      refine zk_ldc2 (pc := 36) B kl_12_378 dX12_stop_36 ?_
      refine zk_cpi (pc := 39) (k' := 0) (n' := 0) B rfl rfl (Nat.le_of_ble_eq_true rfl) (Nat.le_of_ble_eq_true rfl) (fun b hb => zr_S B hR kS_yX12_in km_12_197 [.long p2.toInt64, .long 0, .long 5] rfl rfl (Nat.le_of_ble_eq_true rfl) dX12_stop_39 (m_Model_in hX p2.toInt64 0 5 M2 b hb) ⟨Nat.le_of_ble_eq_true rfl, Nat.le_of_ble_eq_true rfl⟩ ⟨Nat.le_of_ble_eq_true rfl, Nat.le_of_ble_eq_true rfl⟩) (fun x6 _ => ?_)
      refine zk_if_eq (tgt := 49) (pc := 42) B dX12_stop_42 (by decide) (fun _ => ?_) (fun _ => ?_)
      · exact J49 p0 p1 p2 M2
      · refine zk_iconst (v := 1) (pc := 45) B dX12_stop_45 (by decide) ?_
        refine zk_goto (tgt := 50) (pc := 46) B dX12_stop_46 (by decide) ?_
        exact J50 p0 p1 p2 1 M2
set_option maxHeartbeats 4000000 in
set_option maxRecDepth 100000 in
theorem m_Model_ride {X : z_X} (hX : z_ok X) {G : z_Gr} {a : Nat} (ha : g_Model G a) (p0 : Int32) (p1 : Int32) (M : z_Mem) (b : Int32 × z_Mem) (h : F_Model_ride a p0 p1 M = some b) : z_Ct X yX12_ride cX12_ride 3 (some .int) ({ frames := 3, cells := 0, slots := 0, locals := 65 } : Room) [.ref a, .int p0, .int p1] G M (fun o9 G9 M9 => G9 = G ∧ (o9, M9) = z_cim b) := by
  refine z_enter hX (by decide) (Nat.le_of_ble_eq_true rfl) h (fun F B hR => ?_)
  show z_K X F 3 0 0 G z_cim b 0 0 0 [(0, .ref a), (1, .int p0), (2, .int p1)] [] M (F_Model_ride a p0 p1 M)
  unfold F_Model_ride
  refine zk_aload_n (pc := 0) B dX12_ride_0 0 rfl rfl ?_
  refine zk_iconst (v := 0) (pc := 1) B dX12_ride_1 (by decide) ?_
  refine zk_puti (pc := 2) B kx_12 (gModel_s ha) 0 (by decide) kf_12_93 rfl rfl rfl rfl dX12_ride_2 ?_
  refine zk_lm (fun M1 => ?_)
  refine zk_aload_n (pc := 5) B dX12_ride_5 0 rfl rfl ?_
  refine zk_iload_n (pc := 6) B dX12_ride_6 1 rfl rfl ?_
  refine zk_cim (pc := 7) (k' := 0) (n' := 0) B rfl rfl (Nat.le_of_ble_eq_true rfl) (Nat.le_of_ble_eq_true rfl) (fun b hb => zr_V B hR kV_yX12_noRide km_12_380 kx_12 (gModel_s ha) [.int p0] rfl rfl (Nat.le_of_ble_eq_true rfl) dX12_ride_7 (m_Model_noRide hX ha p0 M1 b hb) ⟨Nat.le_of_ble_eq_true rfl, Nat.le_of_ble_eq_true rfl⟩ ⟨Nat.le_of_ble_eq_true rfl, Nat.le_of_ble_eq_true rfl⟩) (fun x3 M2 => ?_)
  refine zk_if_ne (tgt := 30) (pc := 10) B dX12_ride_10 (by decide) (fun _ => ?_) (fun _ => ?_)
  · refine zk_iconst (v := 0) (pc := 30) B dX12_ride_30 (by decide) ?_
    exact zk_iret (pc := 31) B dX12_ride_31 rfl rfl (Nat.le_of_ble_eq_true rfl) (Nat.le_of_ble_eq_true rfl) rfl
  · refine zk_aload_n (pc := 13) B dX12_ride_13 0 rfl rfl ?_
    refine zk_iload_n (pc := 14) B dX12_ride_14 2 rfl rfl ?_
    refine zk_i2l (pc := 15) B dX12_ride_15 ?_
    refine zk_lconst (v := 0) (pc := 16) B dX12_ride_16 (by decide) ?_
    refine zk_ldc2 (pc := 17) B kl_12_383 dX12_ride_17 ?_
    refine zk_cpi (pc := 20) (k' := 0) (n' := 0) B rfl rfl (Nat.le_of_ble_eq_true rfl) (Nat.le_of_ble_eq_true rfl) (fun b hb => zr_S B hR kS_yX12_in km_12_197 [.long p1.toInt64, .long 0, .long 13] rfl rfl (Nat.le_of_ble_eq_true rfl) dX12_ride_20 (m_Model_in hX p1.toInt64 0 13 M2 b hb) ⟨Nat.le_of_ble_eq_true rfl, Nat.le_of_ble_eq_true rfl⟩ ⟨Nat.le_of_ble_eq_true rfl, Nat.le_of_ble_eq_true rfl⟩) (fun x4 _ => ?_)
    refine zk_iconst (v := 1) (pc := 23) B dX12_ride_23 (by decide) ?_
    refine zk_cim (pc := 24) (k' := 0) (n' := 0) B rfl rfl (Nat.le_of_ble_eq_true rfl) (Nat.le_of_ble_eq_true rfl) (fun b hb => zr_V B hR kV_yX12_fails km_12_256 kx_12 (gModel_s ha) [.int x4, .int 1] rfl rfl (Nat.le_of_ble_eq_true rfl) dX12_ride_24 (m_Model_fails hX ha x4 1 M2 b hb) ⟨Nat.le_of_ble_eq_true rfl, Nat.le_of_ble_eq_true rfl⟩ ⟨Nat.le_of_ble_eq_true rfl, Nat.le_of_ble_eq_true rfl⟩) (fun x6 M5 => ?_)
    refine zk_if_eq (tgt := 32) (pc := 27) B dX12_ride_27 (by decide) (fun _ => ?_) (fun _ => ?_)
    · refine zk_iload_n (pc := 32) B dX12_ride_32 2 rfl rfl ?_
      refine zk_bipush (v := 7) (pc := 33) B dX12_ride_33 (by decide) ?_
      refine zk_icmp_ge (tgt := 45) (pc := 35) B dX12_ride_35 (by decide) (fun _ => ?_) (fun _ => ?_)
      · refine zk_iload_n (pc := 45) B dX12_ride_45 2 rfl rfl ?_
        refine zk_if (fun hs => zk_tin (v := 7) (tgt := 84) (pc := 46) B dX12_ride_46 hs (by decide) (by decide) rfl (by decide) ?_) (fun hn46_0 => ?_)
        · refine zk_aload_n (pc := 84) B dX12_ride_84 0 rfl rfl ?_
          refine zk_iload_n (pc := 85) B dX12_ride_85 1 rfl rfl ?_
          refine zk_cpi (pc := 86) (k' := 0) (n' := 0) B rfl rfl (Nat.le_of_ble_eq_true rfl) (Nat.le_of_ble_eq_true rfl) (fun b hb => zr_V B hR kV_yX12_directOf km_12_280 kx_12 (gModel_s ha) [.int p0] rfl rfl (Nat.le_of_ble_eq_true rfl) dX12_ride_86 (m_Model_directOf hX ha p0 M5 b hb) ⟨Nat.le_of_ble_eq_true rfl, Nat.le_of_ble_eq_true rfl⟩ ⟨Nat.le_of_ble_eq_true rfl, Nat.le_of_ble_eq_true rfl⟩) (fun x13 _ => ?_)
          exact zk_iret (pc := 89) B dX12_ride_89 rfl rfl (Nat.le_of_ble_eq_true rfl) (Nat.le_of_ble_eq_true rfl) rfl
        · refine zk_if (fun hs => zk_tin (v := 8) (tgt := 90) (pc := 46) B dX12_ride_46 hs (by decide) (by decide) rfl (by decide) ?_) (fun hn46_1 => ?_)
          · refine zk_aload_n (pc := 90) B dX12_ride_90 0 rfl rfl ?_
            refine zk_iload_n (pc := 91) B dX12_ride_91 1 rfl rfl ?_
            refine zk_cpi (pc := 92) (k' := 0) (n' := 0) B rfl rfl (Nat.le_of_ble_eq_true rfl) (Nat.le_of_ble_eq_true rfl) (fun b hb => zr_V B hR kV_yX12_mostOf km_12_295 kx_12 (gModel_s ha) [.int p0] rfl rfl (Nat.le_of_ble_eq_true rfl) dX12_ride_92 (m_Model_mostOf hX ha p0 M5 b hb) ⟨Nat.le_of_ble_eq_true rfl, Nat.le_of_ble_eq_true rfl⟩ ⟨Nat.le_of_ble_eq_true rfl, Nat.le_of_ble_eq_true rfl⟩) (fun x12 _ => ?_)
            exact zk_iret (pc := 95) B dX12_ride_95 rfl rfl (Nat.le_of_ble_eq_true rfl) (Nat.le_of_ble_eq_true rfl) rfl
          · refine zk_if (fun hs => zk_tin (v := 9) (tgt := 96) (pc := 46) B dX12_ride_46 hs (by decide) (by decide) rfl (by decide) ?_) (fun hn46_2 => ?_)
            · refine zk_aload_n (pc := 96) B dX12_ride_96 0 rfl rfl ?_
              refine zk_iload_n (pc := 97) B dX12_ride_97 1 rfl rfl ?_
              refine zk_bipush (v := 7) (pc := 98) B dX12_ride_98 (by decide) ?_
              refine zk_cpi (pc := 100) (k' := 0) (n' := 0) B rfl rfl (Nat.le_of_ble_eq_true rfl) (Nat.le_of_ble_eq_true rfl) (fun b hb => zr_V B hR kV_yX12_of km_12_274 kx_12 (gModel_s ha) [.int p0, .int 7] rfl rfl (Nat.le_of_ble_eq_true rfl) dX12_ride_100 (m_Model_of hX ha p0 7 M5 b hb) ⟨Nat.le_of_ble_eq_true rfl, Nat.le_of_ble_eq_true rfl⟩ ⟨Nat.le_of_ble_eq_true rfl, Nat.le_of_ble_eq_true rfl⟩) (fun x11 _ => ?_)
              exact zk_iret (pc := 103) B dX12_ride_103 rfl rfl (Nat.le_of_ble_eq_true rfl) (Nat.le_of_ble_eq_true rfl) rfl
            · refine zk_if (fun hs => zk_tin (v := 10) (tgt := 104) (pc := 46) B dX12_ride_46 hs (by decide) (by decide) rfl (by decide) ?_) (fun hn46_3 => ?_)
              · refine zk_aload_n (pc := 104) B dX12_ride_104 0 rfl rfl ?_
                refine zk_iload_n (pc := 105) B dX12_ride_105 1 rfl rfl ?_
                refine zk_bipush (v := 8) (pc := 106) B dX12_ride_106 (by decide) ?_
                refine zk_cpi (pc := 108) (k' := 0) (n' := 0) B rfl rfl (Nat.le_of_ble_eq_true rfl) (Nat.le_of_ble_eq_true rfl) (fun b hb => zr_V B hR kV_yX12_of km_12_274 kx_12 (gModel_s ha) [.int p0, .int 8] rfl rfl (Nat.le_of_ble_eq_true rfl) dX12_ride_108 (m_Model_of hX ha p0 8 M5 b hb) ⟨Nat.le_of_ble_eq_true rfl, Nat.le_of_ble_eq_true rfl⟩ ⟨Nat.le_of_ble_eq_true rfl, Nat.le_of_ble_eq_true rfl⟩) (fun x10 _ => ?_)
                exact zk_iret (pc := 111) B dX12_ride_111 rfl rfl (Nat.le_of_ble_eq_true rfl) (Nat.le_of_ble_eq_true rfl) rfl
              · refine zk_if (fun hs => zk_tin (v := 11) (tgt := 112) (pc := 46) B dX12_ride_46 hs (by decide) (by decide) rfl (by decide) ?_) (fun hn46_4 => ?_)
                · refine zk_aload_n (pc := 112) B dX12_ride_112 0 rfl rfl ?_
                  refine zk_iload_n (pc := 113) B dX12_ride_113 1 rfl rfl ?_
                  refine zk_bipush (v := 9) (pc := 114) B dX12_ride_114 (by decide) ?_
                  refine zk_cpi (pc := 116) (k' := 0) (n' := 0) B rfl rfl (Nat.le_of_ble_eq_true rfl) (Nat.le_of_ble_eq_true rfl) (fun b hb => zr_V B hR kV_yX12_of km_12_274 kx_12 (gModel_s ha) [.int p0, .int 9] rfl rfl (Nat.le_of_ble_eq_true rfl) dX12_ride_116 (m_Model_of hX ha p0 9 M5 b hb) ⟨Nat.le_of_ble_eq_true rfl, Nat.le_of_ble_eq_true rfl⟩ ⟨Nat.le_of_ble_eq_true rfl, Nat.le_of_ble_eq_true rfl⟩) (fun x9 _ => ?_)
                  exact zk_iret (pc := 119) B dX12_ride_119 rfl rfl (Nat.le_of_ble_eq_true rfl) (Nat.le_of_ble_eq_true rfl) rfl
                · refine zk_if (fun hs => zk_tin (v := 12) (tgt := 120) (pc := 46) B dX12_ride_46 hs (by decide) (by decide) rfl (by decide) ?_) (fun hn46_5 => ?_)
                  · refine zk_aload_n (pc := 120) B dX12_ride_120 0 rfl rfl ?_
                    refine zk_iload_n (pc := 121) B dX12_ride_121 1 rfl rfl ?_
                    refine zk_bipush (v := 10) (pc := 122) B dX12_ride_122 (by decide) ?_
                    refine zk_cpi (pc := 124) (k' := 0) (n' := 0) B rfl rfl (Nat.le_of_ble_eq_true rfl) (Nat.le_of_ble_eq_true rfl) (fun b hb => zr_V B hR kV_yX12_of km_12_274 kx_12 (gModel_s ha) [.int p0, .int 10] rfl rfl (Nat.le_of_ble_eq_true rfl) dX12_ride_124 (m_Model_of hX ha p0 10 M5 b hb) ⟨Nat.le_of_ble_eq_true rfl, Nat.le_of_ble_eq_true rfl⟩ ⟨Nat.le_of_ble_eq_true rfl, Nat.le_of_ble_eq_true rfl⟩) (fun x8 _ => ?_)
                    exact zk_iret (pc := 127) B dX12_ride_127 rfl rfl (Nat.le_of_ble_eq_true rfl) (Nat.le_of_ble_eq_true rfl) rfl
                  · refine zk_tout (pc := 46)  (tgt := 128) B dX12_ride_46 (by have q0 := z_ne hn46_0 (z := 7) (by decide); have q1 := z_ne hn46_1 (z := 8) (by decide); have q2 := z_ne hn46_2 (z := 9) (by decide); have q3 := z_ne hn46_3 (z := 10) (by decide); have q4 := z_ne hn46_4 (z := 11) (by decide); have q5 := z_ne hn46_5 (z := 12) (by decide); omega) (by decide) ?_
                    refine zk_aload_n (pc := 128) B dX12_ride_128 0 rfl rfl ?_
                    refine zk_iload_n (pc := 129) B dX12_ride_129 1 rfl rfl ?_
                    refine zk_bipush (v := 11) (pc := 130) B dX12_ride_130 (by decide) ?_
                    refine zk_cpi (pc := 132) (k' := 0) (n' := 0) B rfl rfl (Nat.le_of_ble_eq_true rfl) (Nat.le_of_ble_eq_true rfl) (fun b hb => zr_V B hR kV_yX12_of km_12_274 kx_12 (gModel_s ha) [.int p0, .int 11] rfl rfl (Nat.le_of_ble_eq_true rfl) dX12_ride_132 (m_Model_of hX ha p0 11 M5 b hb) ⟨Nat.le_of_ble_eq_true rfl, Nat.le_of_ble_eq_true rfl⟩ ⟨Nat.le_of_ble_eq_true rfl, Nat.le_of_ble_eq_true rfl⟩) (fun x7 _ => ?_)
                    exact zk_iret (pc := 135) B dX12_ride_135 rfl rfl (Nat.le_of_ble_eq_true rfl) (Nat.le_of_ble_eq_true rfl) rfl
      · refine zk_aload_n (pc := 38) B dX12_ride_38 0 rfl rfl ?_
        refine zk_iload_n (pc := 39) B dX12_ride_39 1 rfl rfl ?_
        refine zk_iload_n (pc := 40) B dX12_ride_40 2 rfl rfl ?_
        refine zk_cpi (pc := 41) (k' := 0) (n' := 0) B rfl rfl (Nat.le_of_ble_eq_true rfl) (Nat.le_of_ble_eq_true rfl) (fun b hb => zr_V B hR kV_yX12_of km_12_274 kx_12 (gModel_s ha) [.int p0, .int p1] rfl rfl (Nat.le_of_ble_eq_true rfl) dX12_ride_41 (m_Model_of hX ha p0 p1 M5 b hb) ⟨Nat.le_of_ble_eq_true rfl, Nat.le_of_ble_eq_true rfl⟩ ⟨Nat.le_of_ble_eq_true rfl, Nat.le_of_ble_eq_true rfl⟩) (fun x14 _ => ?_)
        exact zk_iret (pc := 44) B dX12_ride_44 rfl rfl (Nat.le_of_ble_eq_true rfl) (Nat.le_of_ble_eq_true rfl) rfl
    · refine zk_iconst (v := 0) (pc := 30) B dX12_ride_30 (by decide) ?_
      exact zk_iret (pc := 31) B dX12_ride_31 rfl rfl (Nat.le_of_ble_eq_true rfl) (Nat.le_of_ble_eq_true rfl) rfl
set_option maxHeartbeats 4000000 in
set_option maxRecDepth 100000 in
theorem m_Model_offer {X : z_X} (hX : z_ok X) {G : z_Gr} {a : Nat} (ha : g_Model G a) (p0 : Int32) (p1 : Int32) (M : z_Mem) (b : Int32 × z_Mem) (h : F_Model_offer a p0 p1 M = some b) : z_Ct X yX12_offer cX12_offer 3 (some .int) ({ frames := 2, cells := 0, slots := 0, locals := 46 } : Room) [.ref a, .int p0, .int p1] G M (fun o9 G9 M9 => G9 = G ∧ (o9, M9) = z_cim b) := by
  refine z_enter hX (by decide) (Nat.le_of_ble_eq_true rfl) h (fun F B hR => ?_)
  show z_K X F 3 0 0 G z_cim b 0 0 0 [(0, .ref a), (1, .int p0), (2, .int p1)] [] M (F_Model_offer a p0 p1 M)
  unfold F_Model_offer
  refine zk_aload_n (pc := 0) B dX12_offer_0 0 rfl rfl ?_
  refine zk_iconst (v := 0) (pc := 1) B dX12_offer_1 (by decide) ?_
  refine zk_puti (pc := 2) B kx_12 (gModel_s ha) 0 (by decide) kf_12_93 rfl rfl rfl rfl dX12_offer_2 ?_
  refine zk_lm (fun M1 => ?_)
  refine zk_aload_n (pc := 5) B dX12_offer_5 0 rfl rfl ?_
  refine zk_iload_n (pc := 6) B dX12_offer_6 1 rfl rfl ?_
  refine zk_cim (pc := 7) (k' := 0) (n' := 0) B rfl rfl (Nat.le_of_ble_eq_true rfl) (Nat.le_of_ble_eq_true rfl) (fun b hb => zr_V B hR kV_yX12_noRide km_12_380 kx_12 (gModel_s ha) [.int p0] rfl rfl (Nat.le_of_ble_eq_true rfl) dX12_offer_7 (m_Model_noRide hX ha p0 M1 b hb) ⟨Nat.le_of_ble_eq_true rfl, Nat.le_of_ble_eq_true rfl⟩ ⟨Nat.le_of_ble_eq_true rfl, Nat.le_of_ble_eq_true rfl⟩) (fun x3 M2 => ?_)
  refine zk_if_ne (tgt := 30) (pc := 10) B dX12_offer_10 (by decide) (fun _ => ?_) (fun _ => ?_)
  · refine zk_iconst (v := 0) (pc := 30) B dX12_offer_30 (by decide) ?_
    exact zk_iret (pc := 31) B dX12_offer_31 rfl rfl (Nat.le_of_ble_eq_true rfl) (Nat.le_of_ble_eq_true rfl) rfl
  · refine zk_aload_n (pc := 13) B dX12_offer_13 0 rfl rfl ?_
    refine zk_iload_n (pc := 14) B dX12_offer_14 2 rfl rfl ?_
    refine zk_i2l (pc := 15) B dX12_offer_15 ?_
    refine zk_lconst (v := 0) (pc := 16) B dX12_offer_16 (by decide) ?_
    refine zk_ldc2 (pc := 17) B kl_12_385 dX12_offer_17 ?_
    refine zk_cpi (pc := 20) (k' := 0) (n' := 0) B rfl rfl (Nat.le_of_ble_eq_true rfl) (Nat.le_of_ble_eq_true rfl) (fun b hb => zr_S B hR kS_yX12_in km_12_197 [.long p1.toInt64, .long 0, .long 4] rfl rfl (Nat.le_of_ble_eq_true rfl) dX12_offer_20 (m_Model_in hX p1.toInt64 0 4 M2 b hb) ⟨Nat.le_of_ble_eq_true rfl, Nat.le_of_ble_eq_true rfl⟩ ⟨Nat.le_of_ble_eq_true rfl, Nat.le_of_ble_eq_true rfl⟩) (fun x4 _ => ?_)
    refine zk_iconst (v := 1) (pc := 23) B dX12_offer_23 (by decide) ?_
    refine zk_cim (pc := 24) (k' := 0) (n' := 0) B rfl rfl (Nat.le_of_ble_eq_true rfl) (Nat.le_of_ble_eq_true rfl) (fun b hb => zr_V B hR kV_yX12_fails km_12_256 kx_12 (gModel_s ha) [.int x4, .int 1] rfl rfl (Nat.le_of_ble_eq_true rfl) dX12_offer_24 (m_Model_fails hX ha x4 1 M2 b hb) ⟨Nat.le_of_ble_eq_true rfl, Nat.le_of_ble_eq_true rfl⟩ ⟨Nat.le_of_ble_eq_true rfl, Nat.le_of_ble_eq_true rfl⟩) (fun x6 M5 => ?_)
    refine zk_if_eq (tgt := 32) (pc := 27) B dX12_offer_27 (by decide) (fun _ => ?_) (fun _ => ?_)
    · refine zk_aload_n (pc := 32) B dX12_offer_32 0 rfl rfl ?_
      refine zk_iload_n (pc := 33) B dX12_offer_33 1 rfl rfl ?_
      refine zk_iconst (v := 0) (pc := 34) B dX12_offer_34 (by decide) ?_
      refine zk_cpi (pc := 35) (k' := 0) (n' := 0) B rfl rfl (Nat.le_of_ble_eq_true rfl) (Nat.le_of_ble_eq_true rfl) (fun b hb => zr_V B hR kV_yX12_of km_12_274 kx_12 (gModel_s ha) [.int p0, .int 0] rfl rfl (Nat.le_of_ble_eq_true rfl) dX12_offer_35 (m_Model_of hX ha p0 0 M5 b hb) ⟨Nat.le_of_ble_eq_true rfl, Nat.le_of_ble_eq_true rfl⟩ ⟨Nat.le_of_ble_eq_true rfl, Nat.le_of_ble_eq_true rfl⟩) (fun x7 _ => ?_)
      refine zk_if_ne (tgt := 53) (pc := 38) B dX12_offer_38 (by decide) (fun _ => ?_) (fun _ => ?_)
      · refine zk_iconst (v := (-1)) (pc := 53) B dX12_offer_53 (by decide) ?_
        exact zk_iret (pc := 54) B dX12_offer_54 rfl rfl (Nat.le_of_ble_eq_true rfl) (Nat.le_of_ble_eq_true rfl) rfl
      · refine zk_aload_n (pc := 41) B dX12_offer_41 0 rfl rfl ?_
        refine zk_iload_n (pc := 42) B dX12_offer_42 1 rfl rfl ?_
        refine zk_bipush (v := 12) (pc := 43) B dX12_offer_43 (by decide) ?_
        refine zk_iload_n (pc := 45) B dX12_offer_45 2 rfl rfl ?_
        refine zk_iadd (pc := 46) B dX12_offer_46 ?_
        refine zk_cpi (pc := 47) (k' := 0) (n' := 0) B rfl rfl (Nat.le_of_ble_eq_true rfl) (Nat.le_of_ble_eq_true rfl) (fun b hb => zr_V B hR kV_yX12_of km_12_274 kx_12 (gModel_s ha) [.int p0, .int (12 + p1)] rfl rfl (Nat.le_of_ble_eq_true rfl) dX12_offer_47 (m_Model_of hX ha p0 (12 + p1) M5 b hb) ⟨Nat.le_of_ble_eq_true rfl, Nat.le_of_ble_eq_true rfl⟩ ⟨Nat.le_of_ble_eq_true rfl, Nat.le_of_ble_eq_true rfl⟩) (fun x8 _ => ?_)
        refine zk_goto (tgt := 54) (pc := 50) B dX12_offer_50 (by decide) ?_
        exact zk_iret (pc := 54) B dX12_offer_54 rfl rfl (Nat.le_of_ble_eq_true rfl) (Nat.le_of_ble_eq_true rfl) rfl
    · refine zk_iconst (v := 0) (pc := 30) B dX12_offer_30 (by decide) ?_
      exact zk_iret (pc := 31) B dX12_offer_31 rfl rfl (Nat.le_of_ble_eq_true rfl) (Nat.le_of_ble_eq_true rfl) rfl
set_option maxHeartbeats 4000000 in
set_option maxRecDepth 100000 in
theorem m_Model_extra {X : z_X} (hX : z_ok X) {G : z_Gr} {a : Nat} (ha : g_Model G a) (p0 : Int32) (p1 : Int32) (M : z_Mem) (b : Int32 × z_Mem) (h : F_Model_extra a p0 p1 M = some b) : z_Ct X yX12_extra cX12_extra 3 (some .int) ({ frames := 5, cells := 0, slots := 0, locals := 125 } : Room) [.ref a, .int p0, .int p1] G M (fun o9 G9 M9 => G9 = G ∧ (o9, M9) = z_cim b) := by
  refine z_enter hX (by decide) (Nat.le_of_ble_eq_true rfl) h (fun F B hR => ?_)
  show z_K X F 3 0 0 G z_cim b 0 0 0 [(0, .ref a), (1, .int p0), (2, .int p1)] [] M (F_Model_extra a p0 p1 M)
  unfold F_Model_extra
  refine zk_aload_n (pc := 0) B dX12_extra_0 0 rfl rfl ?_
  refine zk_iconst (v := 0) (pc := 1) B dX12_extra_1 (by decide) ?_
  refine zk_puti (pc := 2) B kx_12 (gModel_s ha) 0 (by decide) kf_12_93 rfl rfl rfl rfl dX12_extra_2 ?_
  refine zk_lm (fun M1 => ?_)
  refine zk_aload_n (pc := 5) B dX12_extra_5 0 rfl rfl ?_
  refine zk_iload_n (pc := 6) B dX12_extra_6 1 rfl rfl ?_
  refine zk_cim (pc := 7) (k' := 0) (n' := 0) B rfl rfl (Nat.le_of_ble_eq_true rfl) (Nat.le_of_ble_eq_true rfl) (fun b hb => zr_V B hR kV_yX12_noRide km_12_380 kx_12 (gModel_s ha) [.int p0] rfl rfl (Nat.le_of_ble_eq_true rfl) dX12_extra_7 (m_Model_noRide hX ha p0 M1 b hb) ⟨Nat.le_of_ble_eq_true rfl, Nat.le_of_ble_eq_true rfl⟩ ⟨Nat.le_of_ble_eq_true rfl, Nat.le_of_ble_eq_true rfl⟩) (fun x3 M2 => ?_)
  refine zk_if_ne (tgt := 21) (pc := 10) B dX12_extra_10 (by decide) (fun _ => ?_) (fun _ => ?_)
  · refine zk_iconst (v := 0) (pc := 21) B dX12_extra_21 (by decide) ?_
    exact zk_iret (pc := 22) B dX12_extra_22 rfl rfl (Nat.le_of_ble_eq_true rfl) (Nat.le_of_ble_eq_true rfl) rfl
  · refine zk_aload_n (pc := 13) B dX12_extra_13 0 rfl rfl ?_
    refine zk_iload_n (pc := 14) B dX12_extra_14 2 rfl rfl ?_
    refine zk_cim (pc := 15) (k' := 0) (n' := 0) B rfl rfl (Nat.le_of_ble_eq_true rfl) (Nat.le_of_ble_eq_true rfl) (fun b hb => zr_V B hR kV_yX12_noTaxi km_12_375 kx_12 (gModel_s ha) [.int p1] rfl rfl (Nat.le_of_ble_eq_true rfl) dX12_extra_15 (m_Model_noTaxi hX ha p1 M2 b hb) ⟨Nat.le_of_ble_eq_true rfl, Nat.le_of_ble_eq_true rfl⟩ ⟨Nat.le_of_ble_eq_true rfl, Nat.le_of_ble_eq_true rfl⟩) (fun x5 M4 => ?_)
    refine zk_if_eq (tgt := 23) (pc := 18) B dX12_extra_18 (by decide) (fun _ => ?_) (fun _ => ?_)
    · refine zk_aload_n (pc := 23) B dX12_extra_23 0 rfl rfl ?_
      refine zk_iload_n (pc := 24) B dX12_extra_24 1 rfl rfl ?_
      refine zk_iconst (v := 0) (pc := 25) B dX12_extra_25 (by decide) ?_
      refine zk_cpi (pc := 26) (k' := 0) (n' := 0) B rfl rfl (Nat.le_of_ble_eq_true rfl) (Nat.le_of_ble_eq_true rfl) (fun b hb => zr_V B hR kV_yX12_of km_12_274 kx_12 (gModel_s ha) [.int p0, .int 0] rfl rfl (Nat.le_of_ble_eq_true rfl) dX12_extra_26 (m_Model_of hX ha p0 0 M4 b hb) ⟨Nat.le_of_ble_eq_true rfl, Nat.le_of_ble_eq_true rfl⟩ ⟨Nat.le_of_ble_eq_true rfl, Nat.le_of_ble_eq_true rfl⟩) (fun x6 _ => ?_)
      refine zk_if_ne (tgt := 48) (pc := 29) B dX12_extra_29 (by decide) (fun _ => ?_) (fun _ => ?_)
      · refine zk_iconst (v := (-1)) (pc := 48) B dX12_extra_48 (by decide) ?_
        exact zk_iret (pc := 49) B dX12_extra_49 rfl rfl (Nat.le_of_ble_eq_true rfl) (Nat.le_of_ble_eq_true rfl) rfl
      · refine zk_aload_n (pc := 32) B dX12_extra_32 0 rfl rfl ?_
        refine zk_iload_n (pc := 33) B dX12_extra_33 2 rfl rfl ?_
        refine zk_iload_n (pc := 34) B dX12_extra_34 1 rfl rfl ?_
        refine zk_cim (pc := 35) (k' := 0) (n' := 0) B rfl rfl (Nat.le_of_ble_eq_true rfl) (Nat.le_of_ble_eq_true rfl) (fun b hb => zr_V B hR kV_yX12_findsBest km_12_387 kx_12 (gModel_s ha) [.int p1, .int p0] rfl rfl (Nat.le_of_ble_eq_true rfl) dX12_extra_35 (m_Model_findsBest hX ha p1 p0 M4 b hb) ⟨Nat.le_of_ble_eq_true rfl, Nat.le_of_ble_eq_true rfl⟩ ⟨Nat.le_of_ble_eq_true rfl, Nat.le_of_ble_eq_true rfl⟩) (fun x8 M7 => ?_)
        refine zk_if_eq (tgt := 48) (pc := 38) B dX12_extra_38 (by decide) (fun _ => ?_) (fun _ => ?_)
        · refine zk_iconst (v := (-1)) (pc := 48) B dX12_extra_48 (by decide) ?_
          exact zk_iret (pc := 49) B dX12_extra_49 rfl rfl (Nat.le_of_ble_eq_true rfl) (Nat.le_of_ble_eq_true rfl) rfl
        · refine zk_aload_n (pc := 41) B dX12_extra_41 0 rfl rfl ?_
          refine zk_geti (pc := 42) B kx_12 (gModel_s ha) 40 (by decide) kf_12_298 rfl dX12_extra_42 ?_
          refine zk_goto (tgt := 49) (pc := 45) B dX12_extra_45 (by decide) ?_
          exact zk_iret (pc := 49) B dX12_extra_49 rfl rfl (Nat.le_of_ble_eq_true rfl) (Nat.le_of_ble_eq_true rfl) rfl
    · refine zk_iconst (v := 0) (pc := 21) B dX12_extra_21 (by decide) ?_
      exact zk_iret (pc := 22) B dX12_extra_22 rfl rfl (Nat.le_of_ble_eq_true rfl) (Nat.le_of_ble_eq_true rfl) rfl
set_option maxHeartbeats 4000000 in
set_option maxRecDepth 100000 in
theorem m_Model_willPay {X : z_X} (hX : z_ok X) {G : z_Gr} {a : Nat} (ha : g_Model G a) (p0 : Int32) (p1 : Int32) (M : z_Mem) (b : Int32 × z_Mem) (h : F_Model_willPay a p0 p1 M = some b) : z_Ct X yX12_willPay cX12_willPay 11 (some .int) ({ frames := 3, cells := 0, slots := 0, locals := 65 } : Room) [.ref a, .int p0, .int p1] G M (fun o9 G9 M9 => G9 = G ∧ (o9, M9) = z_cim b) := by
  refine z_enter hX (by decide) (Nat.le_of_ble_eq_true rfl) h (fun F B hR => ?_)
  have L47 : ∀ (nf47 : Nat), ∀ (v2 : Int32) (v3 : Int32) (v4 : Int32) (v5 : Int32) (M : z_Mem), z_K X F 11 0 0 G z_cim b 0 0 47 [(0, .ref a), (2, .int v2), (3, .int v3), (4, .int v4), (5, .int v5)] [] M (F_Model_willPay_L47 a nf47 v2 v3 v4 v5 M) := by
    intro nf47
    induction nf47 with
    | zero => intro v2 v3 v4 v5 M; exact zk_none
    | succ nf47 ih47 =>
      have J248 : ∀ (v2 : Int32) (v4 : Int32) (v5 : Int32) (s0 : Int32) (s1 : Int32) (M : z_Mem), z_K X F 11 0 0 G z_cim b 0 0 248 [(0, .ref a), (2, .int v2), (4, .int v4), (5, .int v5)] [.int s0, .int s1] M (F_Model_willPay_J248 a (F_Model_willPay_L47 a nf47) v2 v4 v5 s0 s1 M) := by
        intro v2 v4 v5 s0 s1 M
        unfold F_Model_willPay_J248
        refine zk_iadd (pc := 248) B dX12_willPay_248 ?_
        refine zk_li (fun x14 => ?_)
        refine zk_istore_n (loc' := [(3, .int x14), (0, .ref a), (2, .int v2), (4, .int v4), (5, .int v5)]) (pc := 249) B dX12_willPay_249 rfl (by decide) rfl ?_
        refine zk_iinc (y := 1) (lf := fun x15 => [(5, .int x15), (3, .int x14), (0, .ref a), (2, .int v2), (4, .int v4)]) (pc := 250) B dX12_willPay_250 4 rfl (by decide) (by decide) (fun _ => rfl) (fun x15 => ?_)
        refine zk_goto (tgt := 47) (pc := 253) B dX12_willPay_253 (by decide) ?_
        refine zk_sub [2, 3, 1, 4, 0] rfl ?_
        exact ih47 v2 x14 v4 x15 M
      have L88 : ∀ (nf88 : Nat), ∀ (v2 : Int32) (v3 : Int32) (v4 : Int32) (v5 : Int32) (v6 : Int32) (v7 : Int32) (v8 : Int32) (v9 : Int32) (M : z_Mem), z_K X F 11 0 0 G z_cim b 0 0 88 [(0, .ref a), (2, .int v2), (3, .int v3), (4, .int v4), (5, .int v5), (6, .int v6), (7, .int v7), (8, .int v8), (9, .int v9)] [] M (F_Model_willPay_L88 a (F_Model_willPay_L47 a nf47) nf88 v2 v3 v4 v5 v6 v7 v8 v9 M) := by
        intro nf88
        induction nf88 with
        | zero => intro v2 v3 v4 v5 v6 v7 v8 v9 M; exact zk_none
        | succ nf88 ih88 =>
          have J181 : ∀ (v2 : Int32) (v3 : Int32) (v4 : Int32) (v5 : Int32) (v6 : Int32) (v7 : Int32) (v9 : Int32) (s0 : Int32) (s1 : Int32) (M : z_Mem), z_K X F 11 0 0 G z_cim b 0 0 181 [(0, .ref a), (2, .int v2), (3, .int v3), (4, .int v4), (5, .int v5), (6, .int v6), (7, .int v7), (9, .int v9)] [.int s0, .int s1] M (F_Model_willPay_J181 a (F_Model_willPay_L47 a nf47) (F_Model_willPay_L88 a (F_Model_willPay_L47 a nf47) nf88) v2 v3 v4 v5 v6 v7 v9 s0 s1 M) := by
            intro v2 v3 v4 v5 v6 v7 v9 s0 s1 M
            unfold F_Model_willPay_J181
            refine zk_iadd (pc := 181) B dX12_willPay_181 ?_
            refine zk_li (fun x17 => ?_)
            refine zk_istore (loc' := [(8, .int x17), (0, .ref a), (2, .int v2), (3, .int v3), (4, .int v4), (5, .int v5), (6, .int v6), (7, .int v7), (9, .int v9)]) (pc := 182) B dX12_willPay_182 (by decide) rfl ?_
            refine zk_iinc (y := 1) (lf := fun x18 => [(9, .int x18), (8, .int x17), (0, .ref a), (2, .int v2), (3, .int v3), (4, .int v4), (5, .int v5), (6, .int v6), (7, .int v7)]) (pc := 184) B dX12_willPay_184 8 rfl (by decide) (by decide) (fun _ => rfl) (fun x18 => ?_)
            refine zk_goto (tgt := 88) (pc := 187) B dX12_willPay_187 (by decide) ?_
            refine zk_sub [2, 3, 4, 5, 6, 7, 8, 1, 0] rfl ?_
            exact ih88 v2 v3 v4 v5 v6 v7 x17 x18 M
          have J169 : ∀ (v2 : Int32) (v3 : Int32) (v4 : Int32) (v5 : Int32) (v6 : Int32) (v7 : Int32) (v8 : Int32) (v9 : Int32) (v10 : Int32) (M : z_Mem), z_K X F 11 0 0 G z_cim b 0 0 169 [(0, .ref a), (2, .int v2), (3, .int v3), (4, .int v4), (5, .int v5), (6, .int v6), (7, .int v7), (8, .int v8), (9, .int v9), (10, .int v10)] [] M (F_Model_willPay_J169 a (F_Model_willPay_L47 a nf47) (F_Model_willPay_L88 a (F_Model_willPay_L47 a nf47) nf88) v2 v3 v4 v5 v6 v7 v8 v9 v10 M) := by
            intro v2 v3 v4 v5 v6 v7 v8 v9 v10 M
            unfold F_Model_willPay_J169
            refine zk_iload (pc := 169) B dX12_willPay_169 7 rfl ?_
            refine zk_iload (pc := 171) B dX12_willPay_171 9 rfl ?_
            refine zk_if_eq (tgt := 180) (pc := 173) B dX12_willPay_173 (by decide) (fun _ => ?_) (fun _ => ?_)
            · refine zk_iconst (v := 0) (pc := 180) B dX12_willPay_180 (by decide) ?_
              refine zk_sub [0, 1, 2, 3, 4, 5, 6, 8] rfl ?_
              exact J181 v2 v3 v4 v5 v6 v7 v9 0 v8 M
            · refine zk_iconst (v := 1) (pc := 176) B dX12_willPay_176 (by decide) ?_
              refine zk_goto (tgt := 181) (pc := 177) B dX12_willPay_177 (by decide) ?_
              refine zk_sub [0, 1, 2, 3, 4, 5, 6, 8] rfl ?_
              exact J181 v2 v3 v4 v5 v6 v7 v9 1 v8 M
          have J148 : ∀ (v2 : Int32) (v3 : Int32) (v4 : Int32) (v5 : Int32) (v6 : Int32) (v7 : Int32) (v8 : Int32) (v9 : Int32) (s0 : Int32) (M : z_Mem), z_K X F 11 0 0 G z_cim b 0 0 148 [(0, .ref a), (2, .int v2), (3, .int v3), (4, .int v4), (5, .int v5), (6, .int v6), (7, .int v7), (8, .int v8), (9, .int v9)] [.int s0] M (F_Model_willPay_J148 a (F_Model_willPay_L47 a nf47) (F_Model_willPay_L88 a (F_Model_willPay_L47 a nf47) nf88) v2 v3 v4 v5 v6 v7 v8 v9 s0 M) := by
            intro v2 v3 v4 v5 v6 v7 v8 v9 s0 M
            unfold F_Model_willPay_J148
            refine zk_istore (loc' := [(10, .int s0), (0, .ref a), (2, .int v2), (3, .int v3), (4, .int v4), (5, .int v5), (6, .int v6), (7, .int v7), (8, .int v8), (9, .int v9)]) (pc := 148) B dX12_willPay_148 (by decide) rfl ?_
            refine zk_iload (pc := 150) B dX12_willPay_150 0 rfl ?_
            refine zk_if_eq (tgt := 169) (pc := 152) B dX12_willPay_152 (by decide) (fun _ => ?_) (fun _ => ?_)
            · refine zk_sub [1, 2, 3, 4, 5, 6, 7, 8, 9, 0] rfl ?_
              exact J169 v2 v3 v4 v5 v6 v7 v8 v9 s0 M
            · refine zk_aload_n (pc := 155) B dX12_willPay_155 1 rfl rfl ?_
              refine zk_getr (pc := 156) B kx_12 (gModel_s ha) 45 (by decide) kf_12_71 rfl (gModel_f45 ha) dX12_willPay_156 ?_
              refine zk_iload (pc := 159) B dX12_willPay_159 8 rfl ?_
              refine zk_aload_n (pc := 161) B dX12_willPay_161 1 rfl rfl ?_
              refine zk_getr (pc := 162) B kx_12 (gModel_s ha) 45 (by decide) kf_12_71 rfl (gModel_f45 ha) dX12_willPay_162 ?_
              refine zk_iload (pc := 165) B dX12_willPay_165 9 rfl ?_
              refine zk_iald (pc := 167) B (gModel_t45 ha) dX12_willPay_167 ?_
              refine zk_iast (pc := 168) B (gModel_t45 ha) dX12_willPay_168 ?_
              refine zk_lm (fun M16 => ?_)
              refine zk_sub [1, 2, 3, 4, 5, 6, 7, 8, 9, 0] rfl ?_
              exact J169 v2 v3 v4 v5 v6 v7 v8 v9 s0 M16
          have J143 : ∀ (v2 : Int32) (v3 : Int32) (v4 : Int32) (v5 : Int32) (v6 : Int32) (v7 : Int32) (v8 : Int32) (v9 : Int32) (M : z_Mem), z_K X F 11 0 0 G z_cim b 0 0 143 [(0, .ref a), (2, .int v2), (3, .int v3), (4, .int v4), (5, .int v5), (6, .int v6), (7, .int v7), (8, .int v8), (9, .int v9)] [] M (F_Model_willPay_J143 a (F_Model_willPay_L47 a nf47) (F_Model_willPay_L88 a (F_Model_willPay_L47 a nf47) nf88) v2 v3 v4 v5 v6 v7 v8 v9 M) := by
            intro v2 v3 v4 v5 v6 v7 v8 v9 M
            unfold F_Model_willPay_J143
            refine zk_iconst (v := 1) (pc := 143) B dX12_willPay_143 (by decide) ?_
            refine zk_goto (tgt := 148) (pc := 144) B dX12_willPay_144 (by decide) ?_
            exact J148 v2 v3 v4 v5 v6 v7 v8 v9 1 M
          have J118 : ∀ (v2 : Int32) (v3 : Int32) (v4 : Int32) (v5 : Int32) (v6 : Int32) (v7 : Int32) (v8 : Int32) (v9 : Int32) (M : z_Mem), z_K X F 11 0 0 G z_cim b 0 0 118 [(0, .ref a), (2, .int v2), (3, .int v3), (4, .int v4), (5, .int v5), (6, .int v6), (7, .int v7), (8, .int v8), (9, .int v9)] [] M (F_Model_willPay_J118 a (F_Model_willPay_L47 a nf47) (F_Model_willPay_L88 a (F_Model_willPay_L47 a nf47) nf88) v2 v3 v4 v5 v6 v7 v8 v9 M) := by
            intro v2 v3 v4 v5 v6 v7 v8 v9 M
            unfold F_Model_willPay_J118
            refine zk_aload_n (pc := 118) B dX12_willPay_118 0 rfl rfl ?_
            refine zk_getr (pc := 119) B kx_12 (gModel_s ha) 32 (by decide) kf_12_50 rfl (gModel_f32 ha) dX12_willPay_119 ?_
            refine zk_iload (pc := 122) B dX12_willPay_122 4 rfl ?_
            refine zk_iald (pc := 124) B (gModel_t32 ha) dX12_willPay_124 ?_
            refine zk_iconst (v := 1) (pc := 125) B dX12_willPay_125 (by decide) ?_
            refine zk_iand (pc := 126) B dX12_willPay_126 ?_
            refine zk_iconst (v := 1) (pc := 127) B dX12_willPay_127 (by decide) ?_
            refine zk_icmp_eq (tgt := 143) (pc := 128) B dX12_willPay_128 (by decide) (fun _ => ?_) (fun _ => ?_)
            · exact J143 v2 v3 v4 v5 v6 v7 v8 v9 M
            · refine zk_aload_n (pc := 131) B dX12_willPay_131 0 rfl rfl ?_
              refine zk_getr (pc := 132) B kx_12 (gModel_s ha) 45 (by decide) kf_12_71 rfl (gModel_f45 ha) dX12_willPay_132 ?_
              refine zk_iload (pc := 135) B dX12_willPay_135 8 rfl ?_
              refine zk_iald (pc := 137) B (gModel_t45 ha) dX12_willPay_137 ?_
              refine zk_iload (pc := 138) B dX12_willPay_138 6 rfl ?_
              refine zk_icmp_eq (tgt := 147) (pc := 140) B dX12_willPay_140 (by decide) (fun _ => ?_) (fun _ => ?_)
              · refine zk_iconst (v := 0) (pc := 147) B dX12_willPay_147 (by decide) ?_
                exact J148 v2 v3 v4 v5 v6 v7 v8 v9 0 M
              · exact J143 v2 v3 v4 v5 v6 v7 v8 v9 M
          intro v2 v3 v4 v5 v6 v7 v8 v9 M
          show z_K X F 11 0 0 G z_cim b 0 0 88 [(0, .ref a), (2, .int v2), (3, .int v3), (4, .int v4), (5, .int v5), (6, .int v6), (7, .int v7), (8, .int v8), (9, .int v9)] [] M (F_Model_willPay_B88 a (F_Model_willPay_L47 a nf47) (F_Model_willPay_L88 a (F_Model_willPay_L47 a nf47) nf88) v2 v3 v4 v5 v6 v7 v8 v9 M)
          unfold F_Model_willPay_B88
          refine zk_iload (pc := 88) B dX12_willPay_88 8 rfl ?_
          refine zk_iload (pc := 90) B dX12_willPay_90 3 rfl ?_
          refine zk_icmp_ge (tgt := 190) (pc := 92) B dX12_willPay_92 (by decide) (fun _ => ?_) (fun _ => ?_)
          · refine zk_iload (pc := 190) B dX12_willPay_190 7 rfl ?_
            refine zk_istore (loc' := [(4, .int v8), (0, .ref a), (2, .int v2), (3, .int v3), (5, .int v5), (6, .int v6), (7, .int v7), (8, .int v8), (9, .int v9)]) (pc := 192) B dX12_willPay_192 (by decide) rfl ?_
            refine zk_aload_n (pc := 194) B dX12_willPay_194 1 rfl rfl ?_
            refine zk_getr (pc := 195) B kx_12 (gModel_s ha) 32 (by decide) kf_12_50 rfl (gModel_f32 ha) dX12_willPay_195 ?_
            refine zk_iload (pc := 198) B dX12_willPay_198 4 rfl ?_
            refine zk_iald (pc := 200) B (gModel_t32 ha) dX12_willPay_200 ?_
            refine zk_iconst (v := 1) (pc := 201) B dX12_willPay_201 (by decide) ?_
            refine zk_iand (pc := 202) B dX12_willPay_202 ?_
            refine zk_if_eq (tgt := 250) (pc := 203) B dX12_willPay_203 (by decide) (fun _ => ?_) (fun _ => ?_)
            · refine zk_iinc (y := 1) (lf := fun x7 => [(5, .int x7), (4, .int v8), (0, .ref a), (2, .int v2), (3, .int v3), (6, .int v6), (7, .int v7), (8, .int v8), (9, .int v9)]) (pc := 250) B dX12_willPay_250 4 rfl (by decide) (by decide) (fun _ => rfl) (fun x7 => ?_)
              refine zk_goto (tgt := 47) (pc := 253) B dX12_willPay_253 (by decide) ?_
              refine zk_sub [2, 3, 4, 1, 0] rfl ?_
              exact ih47 v2 v3 v8 x7 M
            · refine zk_aload_n (pc := 206) B dX12_willPay_206 1 rfl rfl ?_
              refine zk_iload (pc := 207) B dX12_willPay_207 6 rfl ?_
              refine zk_bipush (v := 11) (pc := 209) B dX12_willPay_209 (by decide) ?_
              refine zk_cpi (pc := 211) (k' := 0) (n' := 0) B rfl rfl (Nat.le_of_ble_eq_true rfl) (Nat.le_of_ble_eq_true rfl) (fun b hb => zr_V B hR kV_yX12_of km_12_274 kx_12 (gModel_s ha) [.int v7, .int 11] rfl rfl (Nat.le_of_ble_eq_true rfl) dX12_willPay_211 (m_Model_of hX ha v7 11 M b hb) ⟨Nat.le_of_ble_eq_true rfl, Nat.le_of_ble_eq_true rfl⟩ ⟨Nat.le_of_ble_eq_true rfl, Nat.le_of_ble_eq_true rfl⟩) (fun x8 _ => ?_)
              refine zk_iconst (v := 1) (pc := 214) B dX12_willPay_214 (by decide) ?_
              refine zk_icmp_ne (tgt := 221) (pc := 215) B dX12_willPay_215 (by decide) (fun _ => ?_) (fun _ => ?_)
              · refine zk_aload_n (pc := 221) B dX12_willPay_221 1 rfl rfl ?_
                refine zk_getr (pc := 222) B kx_12 (gModel_s ha) 45 (by decide) kf_12_71 rfl (gModel_f45 ha) dX12_willPay_222 ?_
                refine zk_iload (pc := 225) B dX12_willPay_225 0 rfl ?_
                refine zk_iload (pc := 227) B dX12_willPay_227 6 rfl ?_
                refine zk_iast (pc := 229) B (gModel_t45 ha) dX12_willPay_229 ?_
                refine zk_lm (fun M9 => ?_)
                refine zk_iinc (y := 1) (lf := fun x10 => [(4, .int x10), (0, .ref a), (2, .int v2), (3, .int v3), (5, .int v5), (6, .int v6), (7, .int v7), (8, .int v8), (9, .int v9)]) (pc := 230) B dX12_willPay_230 0 rfl (by decide) (by decide) (fun _ => rfl) (fun x10 => ?_)
                refine zk_iload_n (pc := 233) B dX12_willPay_233 3 rfl rfl ?_
                refine zk_iload (pc := 234) B dX12_willPay_234 6 rfl ?_
                refine zk_iload_n (pc := 236) B dX12_willPay_236 2 rfl rfl ?_
                refine zk_icmp_ne (tgt := 247) (pc := 237) B dX12_willPay_237 (by decide) (fun _ => ?_) (fun _ => ?_)
                · refine zk_iconst (v := 0) (pc := 247) B dX12_willPay_247 (by decide) ?_
                  refine zk_sub [1, 2, 0, 4] rfl ?_
                  exact J248 v2 x10 v5 0 v3 M9
                · refine zk_aload_n (pc := 240) B dX12_willPay_240 1 rfl rfl ?_
                  refine zk_geti (pc := 241) B kx_12 (gModel_s ha) 18 (by decide) kf_12_117 rfl dX12_willPay_241 ?_
                  refine zk_goto (tgt := 248) (pc := 244) B dX12_willPay_244 (by decide) ?_
                  refine zk_sub [1, 2, 0, 4] rfl ?_
                  exact J248 v2 x10 v5 (M9.1 a 18) v3 M9
              · refine zk_goto (tgt := 250) (pc := 218) B dX12_willPay_218 (by decide) ?_
                refine zk_iinc (y := 1) (lf := fun x11 => [(5, .int x11), (4, .int v8), (0, .ref a), (2, .int v2), (3, .int v3), (6, .int v6), (7, .int v7), (8, .int v8), (9, .int v9)]) (pc := 250) B dX12_willPay_250 4 rfl (by decide) (by decide) (fun _ => rfl) (fun x11 => ?_)
                refine zk_goto (tgt := 47) (pc := 253) B dX12_willPay_253 (by decide) ?_
                refine zk_sub [2, 3, 4, 1, 0] rfl ?_
                exact ih47 v2 v3 v8 x11 M
          · refine zk_aload_n (pc := 95) B dX12_willPay_95 0 rfl rfl ?_
            refine zk_getr (pc := 96) B kx_12 (gModel_s ha) 45 (by decide) kf_12_71 rfl (gModel_f45 ha) dX12_willPay_96 ?_
            refine zk_iload (pc := 99) B dX12_willPay_99 8 rfl ?_
            refine zk_iald (pc := 101) B (gModel_t45 ha) dX12_willPay_101 ?_
            refine zk_iload_n (pc := 102) B dX12_willPay_102 1 rfl rfl ?_
            refine zk_icmp_ne (tgt := 118) (pc := 103) B dX12_willPay_103 (by decide) (fun _ => ?_) (fun _ => ?_)
            · exact J118 v2 v3 v4 v5 v6 v7 v8 v9 M
            · refine zk_iload_n (pc := 106) B dX12_willPay_106 2 rfl rfl ?_
              refine zk_iload (pc := 107) B dX12_willPay_107 5 rfl ?_
              refine zk_iload (pc := 109) B dX12_willPay_109 3 rfl ?_
              refine zk_iload (pc := 111) B dX12_willPay_111 8 rfl ?_
              refine zk_cpi (pc := 113) (k' := 0) (n' := 0) B rfl rfl (Nat.le_of_ble_eq_true rfl) (Nat.le_of_ble_eq_true rfl) (fun b hb => zr_S B hR kS_yX12_partOf km_12_342 [.int v6, .int v4, .int v9] rfl rfl (Nat.le_of_ble_eq_true rfl) dX12_willPay_113 (m_Model_partOf hX v6 v4 v9 M b hb) ⟨Nat.le_of_ble_eq_true rfl, Nat.le_of_ble_eq_true rfl⟩ ⟨Nat.le_of_ble_eq_true rfl, Nat.le_of_ble_eq_true rfl⟩) (fun x12 _ => ?_)
              refine zk_iadd (pc := 116) B dX12_willPay_116 ?_
              refine zk_li (fun x13 => ?_)
              refine zk_istore_n (loc' := [(3, .int x13), (0, .ref a), (2, .int v2), (4, .int v4), (5, .int v5), (6, .int v6), (7, .int v7), (8, .int v8), (9, .int v9)]) (pc := 117) B dX12_willPay_117 rfl (by decide) rfl ?_
              refine zk_sub [1, 2, 0, 3, 4, 5, 6, 7, 8] rfl ?_
              exact J118 v2 x13 v4 v5 v6 v7 v8 v9 M
      intro v2 v3 v4 v5 M
      show z_K X F 11 0 0 G z_cim b 0 0 47 [(0, .ref a), (2, .int v2), (3, .int v3), (4, .int v4), (5, .int v5)] [] M (F_Model_willPay_B47 a (F_Model_willPay_L47 a nf47) v2 v3 v4 v5 M)
      unfold F_Model_willPay_B47
      refine zk_iload (pc := 47) B dX12_willPay_47 4 rfl ?_
      refine zk_aload_n (pc := 49) B dX12_willPay_49 0 rfl rfl ?_
      refine zk_geti (pc := 50) B kx_12 (gModel_s ha) 39 (by decide) kf_12_271 rfl dX12_willPay_50 ?_
      refine zk_icmp_ge (tgt := 256) (pc := 53) B dX12_willPay_53 (by decide) (fun _ => ?_) (fun _ => ?_)
      · refine zk_iload_n (pc := 256) B dX12_willPay_256 2 rfl rfl ?_
        exact zk_iret (pc := 257) B dX12_willPay_257 rfl rfl (Nat.le_of_ble_eq_true rfl) (Nat.le_of_ble_eq_true rfl) rfl
      · refine zk_aload_n (pc := 56) B dX12_willPay_56 0 rfl rfl ?_
        refine zk_aload_n (pc := 57) B dX12_willPay_57 0 rfl rfl ?_
        refine zk_getr (pc := 58) B kx_12 (gModel_s ha) 37 (by decide) kf_12_65 rfl (gModel_f37 ha) dX12_willPay_58 ?_
        refine zk_iload (pc := 61) B dX12_willPay_61 4 rfl ?_
        refine zk_iald (pc := 63) B (gModel_t37 ha) dX12_willPay_63 ?_
        refine zk_iload (pc := 64) B dX12_willPay_64 3 rfl ?_
        refine zk_cpi (pc := 66) (k' := 0) (n' := 0) B rfl rfl (Nat.le_of_ble_eq_true rfl) (Nat.le_of_ble_eq_true rfl) (fun b hb => zr_V B hR kV_yX12_amountFor km_12_339 kx_12 (gModel_s ha) [.int (M.1 (a + 18) v5.toNatClampNeg), .int v4] rfl rfl (Nat.le_of_ble_eq_true rfl) dX12_willPay_66 (m_Model_amountFor hX ha (M.1 (a + 18) v5.toNatClampNeg) v4 M b hb) ⟨Nat.le_of_ble_eq_true rfl, Nat.le_of_ble_eq_true rfl⟩ ⟨Nat.le_of_ble_eq_true rfl, Nat.le_of_ble_eq_true rfl⟩) (fun x5 _ => ?_)
        refine zk_istore (loc' := [(6, .int x5), (0, .ref a), (2, .int v2), (3, .int v3), (4, .int v4), (5, .int v5)]) (pc := 69) B dX12_willPay_69 (by decide) rfl ?_
        refine zk_aload_n (pc := 71) B dX12_willPay_71 1 rfl rfl ?_
        refine zk_getr (pc := 72) B kx_12 (gModel_s ha) 32 (by decide) kf_12_50 rfl (gModel_f32 ha) dX12_willPay_72 ?_
        refine zk_iload (pc := 75) B dX12_willPay_75 5 rfl ?_
        refine zk_iald (pc := 77) B (gModel_t32 ha) dX12_willPay_77 ?_
        refine zk_iconst (v := 2) (pc := 78) B dX12_willPay_78 (by decide) ?_
        refine zk_idiv (pc := 79) B dX12_willPay_79 (by decide) ?_
        refine zk_li (fun x6 => ?_)
        refine zk_istore (loc' := [(7, .int x6), (6, .int x5), (0, .ref a), (2, .int v2), (3, .int v3), (4, .int v4), (5, .int v5)]) (pc := 80) B dX12_willPay_80 (by decide) rfl ?_
        refine zk_iconst (v := 0) (pc := 82) B dX12_willPay_82 (by decide) ?_
        refine zk_istore (loc' := [(8, .int 0), (7, .int x6), (6, .int x5), (0, .ref a), (2, .int v2), (3, .int v3), (4, .int v4), (5, .int v5)]) (pc := 83) B dX12_willPay_83 (by decide) rfl ?_
        refine zk_iconst (v := 0) (pc := 85) B dX12_willPay_85 (by decide) ?_
        refine zk_istore (loc' := [(9, .int 0), (8, .int 0), (7, .int x6), (6, .int x5), (0, .ref a), (2, .int v2), (3, .int v3), (4, .int v4), (5, .int v5)]) (pc := 86) B dX12_willPay_86 (by decide) rfl ?_
        refine zk_sub [4, 5, 6, 7, 8, 3, 2, 1, 0] rfl ?_
        exact L88 10000 v2 v3 v4 v5 x5 x6 0 0 M
  have L14 : ∀ (nf14 : Nat), ∀ (v1 : Int32) (v2 : Int32) (v3 : Int32) (v4 : Int32) (v5 : Int32) (M : z_Mem), z_K X F 11 0 0 G z_cim b 0 0 14 [(0, .ref a), (1, .int v1), (2, .int v2), (3, .int v3), (4, .int v4), (5, .int v5)] [] M (F_Model_willPay_L14 a nf14 v1 v2 v3 v4 v5 M) := by
    intro nf14
    induction nf14 with
    | zero => intro v1 v2 v3 v4 v5 M; exact zk_none
    | succ nf14 ih14 =>
      intro v1 v2 v3 v4 v5 M
      show z_K X F 11 0 0 G z_cim b 0 0 14 [(0, .ref a), (1, .int v1), (2, .int v2), (3, .int v3), (4, .int v4), (5, .int v5)] [] M (F_Model_willPay_B14 a (F_Model_willPay_L14 a nf14) v1 v2 v3 v4 v5 M)
      unfold F_Model_willPay_B14
      refine zk_iload (pc := 14) B dX12_willPay_14 5 rfl ?_
      refine zk_iload (pc := 16) B dX12_willPay_16 4 rfl ?_
      refine zk_icmp_ge (tgt := 44) (pc := 18) B dX12_willPay_18 (by decide) (fun _ => ?_) (fun _ => ?_)
      · refine zk_iconst (v := 0) (pc := 44) B dX12_willPay_44 (by decide) ?_
        refine zk_istore (loc' := [(5, .int 0), (0, .ref a), (1, .int v1), (2, .int v2), (3, .int v3), (4, .int v4)]) (pc := 45) B dX12_willPay_45 (by decide) rfl ?_
        refine zk_sub [1, 3, 4, 5, 0] rfl ?_
        exact L47 10000 v2 v3 v4 0 M
      · refine zk_aload_n (pc := 21) B dX12_willPay_21 0 rfl rfl ?_
        refine zk_getr (pc := 22) B kx_12 (gModel_s ha) 45 (by decide) kf_12_71 rfl (gModel_f45 ha) dX12_willPay_22 ?_
        refine zk_iload (pc := 25) B dX12_willPay_25 5 rfl ?_
        refine zk_aload_n (pc := 27) B dX12_willPay_27 0 rfl rfl ?_
        refine zk_iload_n (pc := 28) B dX12_willPay_28 1 rfl rfl ?_
        refine zk_bipush (v := 25) (pc := 29) B dX12_willPay_29 (by decide) ?_
        refine zk_iload (pc := 31) B dX12_willPay_31 5 rfl ?_
        refine zk_iadd (pc := 33) B dX12_willPay_33 ?_
        refine zk_cpi (pc := 34) (k' := 0) (n' := 0) B rfl rfl (Nat.le_of_ble_eq_true rfl) (Nat.le_of_ble_eq_true rfl) (fun b hb => zr_V B hR kV_yX12_in2 km_12_268 kx_12 (gModel_s ha) [.int v1, .int (25 + v5)] rfl rfl (Nat.le_of_ble_eq_true rfl) dX12_willPay_34 (m_Model_in2 hX ha v1 (25 + v5) M b hb) ⟨Nat.le_of_ble_eq_true rfl, Nat.le_of_ble_eq_true rfl⟩ ⟨Nat.le_of_ble_eq_true rfl, Nat.le_of_ble_eq_true rfl⟩) (fun x2 _ => ?_)
        refine zk_iast (pc := 37) B (gModel_t45 ha) dX12_willPay_37 ?_
        refine zk_lm (fun M3 => ?_)
        refine zk_iinc (y := 1) (lf := fun x4 => [(5, .int x4), (0, .ref a), (1, .int v1), (2, .int v2), (3, .int v3), (4, .int v4)]) (pc := 38) B dX12_willPay_38 5 rfl (by decide) (by decide) (fun _ => rfl) (fun x4 => ?_)
        refine zk_goto (tgt := 14) (pc := 41) B dX12_willPay_41 (by decide) ?_
        refine zk_sub [1, 2, 3, 4, 5, 0] rfl ?_
        exact ih14 v1 v2 v3 v4 x4 M3
  show z_K X F 11 0 0 G z_cim b 0 0 0 [(0, .ref a), (1, .int p0), (2, .int p1)] [] M (F_Model_willPay a p0 p1 M)
  unfold F_Model_willPay
  refine zk_iconst (v := 0) (pc := 0) B dX12_willPay_0 (by decide) ?_
  refine zk_istore_n (loc' := [(3, .int 0), (0, .ref a), (1, .int p0), (2, .int p1)]) (pc := 1) B dX12_willPay_1 rfl (by decide) rfl ?_
  refine zk_aload_n (pc := 2) B dX12_willPay_2 1 rfl rfl ?_
  refine zk_iload_n (pc := 3) B dX12_willPay_3 2 rfl rfl ?_
  refine zk_bipush (v := 24) (pc := 4) B dX12_willPay_4 (by decide) ?_
  refine zk_cpi (pc := 6) (k' := 0) (n' := 0) B rfl rfl (Nat.le_of_ble_eq_true rfl) (Nat.le_of_ble_eq_true rfl) (fun b hb => zr_V B hR kV_yX12_in2 km_12_268 kx_12 (gModel_s ha) [.int p0, .int 24] rfl rfl (Nat.le_of_ble_eq_true rfl) dX12_willPay_6 (m_Model_in2 hX ha p0 24 M b hb) ⟨Nat.le_of_ble_eq_true rfl, Nat.le_of_ble_eq_true rfl⟩ ⟨Nat.le_of_ble_eq_true rfl, Nat.le_of_ble_eq_true rfl⟩) (fun x1 _ => ?_)
  refine zk_istore (loc' := [(4, .int x1), (3, .int 0), (0, .ref a), (1, .int p0), (2, .int p1)]) (pc := 9) B dX12_willPay_9 (by decide) rfl ?_
  refine zk_iconst (v := 0) (pc := 11) B dX12_willPay_11 (by decide) ?_
  refine zk_istore (loc' := [(5, .int 0), (4, .int x1), (3, .int 0), (0, .ref a), (1, .int p0), (2, .int p1)]) (pc := 12) B dX12_willPay_12 (by decide) rfl ?_
  refine zk_sub [3, 4, 5, 2, 1, 0] rfl ?_
  exact L14 10000 p0 p1 0 x1 0 M
set_option maxHeartbeats 4000000 in
set_option maxRecDepth 100000 in
theorem m_Model_fare {X : z_X} (hX : z_ok X) {G : z_Gr} {a : Nat} (ha : g_Model G a) (p0 : Int32) (M : z_Mem) (b : Int32 × z_Mem) (h : F_Model_fare a p0 M = some b) : z_Ct X yX12_fare cX12_fare 3 (some .int) ({ frames := 4, cells := 0, slots := 0, locals := 98 } : Room) [.ref a, .int p0] G M (fun o9 G9 M9 => G9 = G ∧ (o9, M9) = z_cim b) := by
  refine z_enter hX (by decide) (Nat.le_of_ble_eq_true rfl) h (fun F B hR => ?_)
  show z_K X F 3 0 0 G z_cim b 0 0 0 [(0, .ref a), (1, .int p0)] [] M (F_Model_fare a p0 M)
  unfold F_Model_fare
  refine zk_aload_n (pc := 0) B dX12_fare_0 0 rfl rfl ?_
  refine zk_iconst (v := 0) (pc := 1) B dX12_fare_1 (by decide) ?_
  refine zk_puti (pc := 2) B kx_12 (gModel_s ha) 0 (by decide) kf_12_93 rfl rfl rfl rfl dX12_fare_2 ?_
  refine zk_lm (fun M1 => ?_)
  refine zk_aload_n (pc := 5) B dX12_fare_5 0 rfl rfl ?_
  refine zk_iload_n (pc := 6) B dX12_fare_6 1 rfl rfl ?_
  refine zk_cim (pc := 7) (k' := 0) (n' := 0) B rfl rfl (Nat.le_of_ble_eq_true rfl) (Nat.le_of_ble_eq_true rfl) (fun b hb => zr_V B hR kV_yX12_noRide km_12_380 kx_12 (gModel_s ha) [.int p0] rfl rfl (Nat.le_of_ble_eq_true rfl) dX12_fare_7 (m_Model_noRide hX ha p0 M1 b hb) ⟨Nat.le_of_ble_eq_true rfl, Nat.le_of_ble_eq_true rfl⟩ ⟨Nat.le_of_ble_eq_true rfl, Nat.le_of_ble_eq_true rfl⟩) (fun x3 M2 => ?_)
  refine zk_if_eq (tgt := 15) (pc := 10) B dX12_fare_10 (by decide) (fun _ => ?_) (fun _ => ?_)
  · refine zk_aload_n (pc := 15) B dX12_fare_15 0 rfl rfl ?_
    refine zk_iload_n (pc := 16) B dX12_fare_16 1 rfl rfl ?_
    refine zk_iconst (v := 0) (pc := 17) B dX12_fare_17 (by decide) ?_
    refine zk_cpi (pc := 18) (k' := 0) (n' := 0) B rfl rfl (Nat.le_of_ble_eq_true rfl) (Nat.le_of_ble_eq_true rfl) (fun b hb => zr_V B hR kV_yX12_of km_12_274 kx_12 (gModel_s ha) [.int p0, .int 0] rfl rfl (Nat.le_of_ble_eq_true rfl) dX12_fare_18 (m_Model_of hX ha p0 0 M2 b hb) ⟨Nat.le_of_ble_eq_true rfl, Nat.le_of_ble_eq_true rfl⟩ ⟨Nat.le_of_ble_eq_true rfl, Nat.le_of_ble_eq_true rfl⟩) (fun x4 _ => ?_)
    refine zk_i2l (pc := 21) B dX12_fare_21 ?_
    refine zk_lconst (v := 1) (pc := 22) B dX12_fare_22 (by decide) ?_
    refine zk_ldc2 (pc := 23) B kl_12_391 dX12_fare_23 ?_
    refine zk_cpi (pc := 26) (k' := 0) (n' := 0) B rfl rfl (Nat.le_of_ble_eq_true rfl) (Nat.le_of_ble_eq_true rfl) (fun b hb => zr_S B hR kS_yX12_in km_12_197 [.long x4.toInt64, .long 1, .long 2] rfl rfl (Nat.le_of_ble_eq_true rfl) dX12_fare_26 (m_Model_in hX x4.toInt64 1 2 M2 b hb) ⟨Nat.le_of_ble_eq_true rfl, Nat.le_of_ble_eq_true rfl⟩ ⟨Nat.le_of_ble_eq_true rfl, Nat.le_of_ble_eq_true rfl⟩) (fun x5 _ => ?_)
    refine zk_if_eq (tgt := 43) (pc := 29) B dX12_fare_29 (by decide) (fun _ => ?_) (fun _ => ?_)
    · refine zk_iconst (v := (-1)) (pc := 43) B dX12_fare_43 (by decide) ?_
      exact zk_iret (pc := 44) B dX12_fare_44 rfl rfl (Nat.le_of_ble_eq_true rfl) (Nat.le_of_ble_eq_true rfl) rfl
    · refine zk_aload_n (pc := 32) B dX12_fare_32 0 rfl rfl ?_
      refine zk_iload_n (pc := 33) B dX12_fare_33 1 rfl rfl ?_
      refine zk_bipush (v := 11) (pc := 34) B dX12_fare_34 (by decide) ?_
      refine zk_cpi (pc := 36) (k' := 0) (n' := 0) B rfl rfl (Nat.le_of_ble_eq_true rfl) (Nat.le_of_ble_eq_true rfl) (fun b hb => zr_V B hR kV_yX12_of km_12_274 kx_12 (gModel_s ha) [.int p0, .int 11] rfl rfl (Nat.le_of_ble_eq_true rfl) dX12_fare_36 (m_Model_of hX ha p0 11 M2 b hb) ⟨Nat.le_of_ble_eq_true rfl, Nat.le_of_ble_eq_true rfl⟩ ⟨Nat.le_of_ble_eq_true rfl, Nat.le_of_ble_eq_true rfl⟩) (fun x6 _ => ?_)
      refine zk_iconst (v := 1) (pc := 39) B dX12_fare_39 (by decide) ?_
      refine zk_icmp_ne (tgt := 45) (pc := 40) B dX12_fare_40 (by decide) (fun _ => ?_) (fun _ => ?_)
      · refine zk_aload_n (pc := 45) B dX12_fare_45 0 rfl rfl ?_
        refine zk_aload_n (pc := 46) B dX12_fare_46 0 rfl rfl ?_
        refine zk_iload_n (pc := 47) B dX12_fare_47 1 rfl rfl ?_
        refine zk_bipush (v := 7) (pc := 48) B dX12_fare_48 (by decide) ?_
        refine zk_cpi (pc := 50) (k' := 0) (n' := 0) B rfl rfl (Nat.le_of_ble_eq_true rfl) (Nat.le_of_ble_eq_true rfl) (fun b hb => zr_V B hR kV_yX12_of km_12_274 kx_12 (gModel_s ha) [.int p0, .int 7] rfl rfl (Nat.le_of_ble_eq_true rfl) dX12_fare_50 (m_Model_of hX ha p0 7 M2 b hb) ⟨Nat.le_of_ble_eq_true rfl, Nat.le_of_ble_eq_true rfl⟩ ⟨Nat.le_of_ble_eq_true rfl, Nat.le_of_ble_eq_true rfl⟩) (fun x7 _ => ?_)
        refine zk_cvm (pc := 53) (k' := 0) (n' := 0) B rfl rfl (Nat.le_of_ble_eq_true rfl) (Nat.le_of_ble_eq_true rfl) (fun b hb => zr_V B hR kV_yX12_lists km_12_301 kx_12 (gModel_s ha) [.int x7] rfl rfl (Nat.le_of_ble_eq_true rfl) dX12_fare_53 (m_Model_lists hX ha x7 M2 b hb) ⟨Nat.le_of_ble_eq_true rfl, Nat.le_of_ble_eq_true rfl⟩ ⟨Nat.le_of_ble_eq_true rfl, Nat.le_of_ble_eq_true rfl⟩) (fun M8 => ?_)
        refine zk_aload_n (pc := 56) B dX12_fare_56 0 rfl rfl ?_
        refine zk_aload_n (pc := 57) B dX12_fare_57 0 rfl rfl ?_
        refine zk_iload_n (pc := 58) B dX12_fare_58 1 rfl rfl ?_
        refine zk_bipush (v := 7) (pc := 59) B dX12_fare_59 (by decide) ?_
        refine zk_cpi (pc := 61) (k' := 0) (n' := 0) B rfl rfl (Nat.le_of_ble_eq_true rfl) (Nat.le_of_ble_eq_true rfl) (fun b hb => zr_V B hR kV_yX12_of km_12_274 kx_12 (gModel_s ha) [.int p0, .int 7] rfl rfl (Nat.le_of_ble_eq_true rfl) dX12_fare_61 (m_Model_of hX ha p0 7 M8 b hb) ⟨Nat.le_of_ble_eq_true rfl, Nat.le_of_ble_eq_true rfl⟩ ⟨Nat.le_of_ble_eq_true rfl, Nat.le_of_ble_eq_true rfl⟩) (fun x9 _ => ?_)
        refine zk_cim (pc := 64) (k' := 0) (n' := 0) B rfl rfl (Nat.le_of_ble_eq_true rfl) (Nat.le_of_ble_eq_true rfl) (fun b hb => zr_V B hR kV_yX12_plans km_12_311 kx_12 (gModel_s ha) [.int x9] rfl rfl (Nat.le_of_ble_eq_true rfl) dX12_fare_64 (m_Model_plans hX ha x9 M8 b hb) ⟨Nat.le_of_ble_eq_true rfl, Nat.le_of_ble_eq_true rfl⟩ ⟨Nat.le_of_ble_eq_true rfl, Nat.le_of_ble_eq_true rfl⟩) (fun x11 M10 => ?_)
        refine zk_istore_n (loc' := [(2, .int x11), (0, .ref a), (1, .int p0)]) (pc := 67) B dX12_fare_67 rfl (by decide) rfl ?_
        refine zk_aload_n (pc := 68) B dX12_fare_68 1 rfl rfl ?_
        refine zk_iload_n (pc := 69) B dX12_fare_69 2 rfl rfl ?_
        refine zk_bipush (v := 10) (pc := 70) B dX12_fare_70 (by decide) ?_
        refine zk_cpi (pc := 72) (k' := 0) (n' := 0) B rfl rfl (Nat.le_of_ble_eq_true rfl) (Nat.le_of_ble_eq_true rfl) (fun b hb => zr_V B hR kV_yX12_of km_12_274 kx_12 (gModel_s ha) [.int p0, .int 10] rfl rfl (Nat.le_of_ble_eq_true rfl) dX12_fare_72 (m_Model_of hX ha p0 10 M10 b hb) ⟨Nat.le_of_ble_eq_true rfl, Nat.le_of_ble_eq_true rfl⟩ ⟨Nat.le_of_ble_eq_true rfl, Nat.le_of_ble_eq_true rfl⟩) (fun x12 _ => ?_)
        refine zk_aload_n (pc := 75) B dX12_fare_75 1 rfl rfl ?_
        refine zk_aload_n (pc := 76) B dX12_fare_76 1 rfl rfl ?_
        refine zk_iload_n (pc := 77) B dX12_fare_77 2 rfl rfl ?_
        refine zk_bipush (v := 7) (pc := 78) B dX12_fare_78 (by decide) ?_
        refine zk_cpi (pc := 80) (k' := 0) (n' := 0) B rfl rfl (Nat.le_of_ble_eq_true rfl) (Nat.le_of_ble_eq_true rfl) (fun b hb => zr_V B hR kV_yX12_of km_12_274 kx_12 (gModel_s ha) [.int p0, .int 7] rfl rfl (Nat.le_of_ble_eq_true rfl) dX12_fare_80 (m_Model_of hX ha p0 7 M10 b hb) ⟨Nat.le_of_ble_eq_true rfl, Nat.le_of_ble_eq_true rfl⟩ ⟨Nat.le_of_ble_eq_true rfl, Nat.le_of_ble_eq_true rfl⟩) (fun x13 _ => ?_)
        refine zk_iload_n (pc := 83) B dX12_fare_83 2 rfl rfl ?_
        refine zk_cim (pc := 84) (k' := 0) (n' := 0) B rfl rfl (Nat.le_of_ble_eq_true rfl) (Nat.le_of_ble_eq_true rfl) (fun b hb => zr_V B hR kV_yX12_willPay km_12_393 kx_12 (gModel_s ha) [.int x13, .int p0] rfl rfl (Nat.le_of_ble_eq_true rfl) dX12_fare_84 (m_Model_willPay hX ha x13 p0 M10 b hb) ⟨Nat.le_of_ble_eq_true rfl, Nat.le_of_ble_eq_true rfl⟩ ⟨Nat.le_of_ble_eq_true rfl, Nat.le_of_ble_eq_true rfl⟩) (fun x15 M14 => ?_)
        refine zk_iadd (pc := 87) B dX12_fare_87 ?_
        exact zk_iret (pc := 88) B dX12_fare_88 rfl rfl (Nat.le_of_ble_eq_true rfl) (Nat.le_of_ble_eq_true rfl) rfl
      · refine zk_iconst (v := (-1)) (pc := 43) B dX12_fare_43 (by decide) ?_
        exact zk_iret (pc := 44) B dX12_fare_44 rfl rfl (Nat.le_of_ble_eq_true rfl) (Nat.le_of_ble_eq_true rfl) rfl
  · refine zk_iconst (v := 0) (pc := 13) B dX12_fare_13 (by decide) ?_
    exact zk_iret (pc := 14) B dX12_fare_14 rfl rfl (Nat.le_of_ble_eq_true rfl) (Nat.le_of_ble_eq_true rfl) rfl
set_option maxHeartbeats 4000000 in
set_option maxRecDepth 100000 in
theorem m_Model_aloneFare {X : z_X} (hX : z_ok X) {G : z_Gr} {a : Nat} (ha : g_Model G a) (p0 : Int32) (p1 : Int32) (M : z_Mem) (b : Int32 × z_Mem) (h : F_Model_aloneFare a p0 p1 M = some b) : z_Ct X yX12_aloneFare cX12_aloneFare 3 (some .int) ({ frames := 2, cells := 0, slots := 0, locals := 46 } : Room) [.ref a, .int p0, .int p1] G M (fun o9 G9 M9 => G9 = G ∧ (o9, M9) = z_cim b) := by
  refine z_enter hX (by decide) (Nat.le_of_ble_eq_true rfl) h (fun F B hR => ?_)
  show z_K X F 3 0 0 G z_cim b 0 0 0 [(0, .ref a), (1, .int p0), (2, .int p1)] [] M (F_Model_aloneFare a p0 p1 M)
  unfold F_Model_aloneFare
  refine zk_aload_n (pc := 0) B dX12_aloneFare_0 0 rfl rfl ?_
  refine zk_iconst (v := 0) (pc := 1) B dX12_aloneFare_1 (by decide) ?_
  refine zk_puti (pc := 2) B kx_12 (gModel_s ha) 0 (by decide) kf_12_93 rfl rfl rfl rfl dX12_aloneFare_2 ?_
  refine zk_lm (fun M1 => ?_)
  refine zk_aload_n (pc := 5) B dX12_aloneFare_5 0 rfl rfl ?_
  refine zk_iload_n (pc := 6) B dX12_aloneFare_6 1 rfl rfl ?_
  refine zk_cim (pc := 7) (k' := 0) (n' := 0) B rfl rfl (Nat.le_of_ble_eq_true rfl) (Nat.le_of_ble_eq_true rfl) (fun b hb => zr_V B hR kV_yX12_noZone km_12_372 kx_12 (gModel_s ha) [.int p0] rfl rfl (Nat.le_of_ble_eq_true rfl) dX12_aloneFare_7 (m_Model_noZone hX ha p0 M1 b hb) ⟨Nat.le_of_ble_eq_true rfl, Nat.le_of_ble_eq_true rfl⟩ ⟨Nat.le_of_ble_eq_true rfl, Nat.le_of_ble_eq_true rfl⟩) (fun x3 M2 => ?_)
  refine zk_if_ne (tgt := 21) (pc := 10) B dX12_aloneFare_10 (by decide) (fun _ => ?_) (fun _ => ?_)
  · refine zk_iconst (v := 0) (pc := 21) B dX12_aloneFare_21 (by decide) ?_
    exact zk_iret (pc := 22) B dX12_aloneFare_22 rfl rfl (Nat.le_of_ble_eq_true rfl) (Nat.le_of_ble_eq_true rfl) rfl
  · refine zk_aload_n (pc := 13) B dX12_aloneFare_13 0 rfl rfl ?_
    refine zk_iload_n (pc := 14) B dX12_aloneFare_14 2 rfl rfl ?_
    refine zk_cim (pc := 15) (k' := 0) (n' := 0) B rfl rfl (Nat.le_of_ble_eq_true rfl) (Nat.le_of_ble_eq_true rfl) (fun b hb => zr_V B hR kV_yX12_noZone km_12_372 kx_12 (gModel_s ha) [.int p1] rfl rfl (Nat.le_of_ble_eq_true rfl) dX12_aloneFare_15 (m_Model_noZone hX ha p1 M2 b hb) ⟨Nat.le_of_ble_eq_true rfl, Nat.le_of_ble_eq_true rfl⟩ ⟨Nat.le_of_ble_eq_true rfl, Nat.le_of_ble_eq_true rfl⟩) (fun x5 M4 => ?_)
    refine zk_if_eq (tgt := 23) (pc := 18) B dX12_aloneFare_18 (by decide) (fun _ => ?_) (fun _ => ?_)
    · refine zk_aload_n (pc := 23) B dX12_aloneFare_23 0 rfl rfl ?_
      refine zk_iload_n (pc := 24) B dX12_aloneFare_24 1 rfl rfl ?_
      refine zk_iload_n (pc := 25) B dX12_aloneFare_25 2 rfl rfl ?_
      refine zk_cpi (pc := 26) (k' := 0) (n' := 0) B rfl rfl (Nat.le_of_ble_eq_true rfl) (Nat.le_of_ble_eq_true rfl) (fun b hb => zr_V B hR kV_yX12_minutesOf km_12_277 kx_12 (gModel_s ha) [.int p0, .int p1] rfl rfl (Nat.le_of_ble_eq_true rfl) dX12_aloneFare_26 (m_Model_minutesOf hX ha p0 p1 M4 b hb) ⟨Nat.le_of_ble_eq_true rfl, Nat.le_of_ble_eq_true rfl⟩ ⟨Nat.le_of_ble_eq_true rfl, Nat.le_of_ble_eq_true rfl⟩) (fun x6 _ => ?_)
      refine zk_iconst (v := (-1)) (pc := 29) B dX12_aloneFare_29 (by decide) ?_
      refine zk_icmp_ne (tgt := 37) (pc := 30) B dX12_aloneFare_30 (by decide) (fun _ => ?_) (fun _ => ?_)
      · refine zk_aload_n (pc := 37) B dX12_aloneFare_37 0 rfl rfl ?_
        refine zk_geti (pc := 38) B kx_12 (gModel_s ha) 18 (by decide) kf_12_117 rfl dX12_aloneFare_38 ?_
        refine zk_aload_n (pc := 41) B dX12_aloneFare_41 0 rfl rfl ?_
        refine zk_iload_n (pc := 42) B dX12_aloneFare_42 1 rfl rfl ?_
        refine zk_iload_n (pc := 43) B dX12_aloneFare_43 2 rfl rfl ?_
        refine zk_cpi (pc := 44) (k' := 0) (n' := 0) B rfl rfl (Nat.le_of_ble_eq_true rfl) (Nat.le_of_ble_eq_true rfl) (fun b hb => zr_V B hR kV_yX12_minutesOf km_12_277 kx_12 (gModel_s ha) [.int p0, .int p1] rfl rfl (Nat.le_of_ble_eq_true rfl) dX12_aloneFare_44 (m_Model_minutesOf hX ha p0 p1 M4 b hb) ⟨Nat.le_of_ble_eq_true rfl, Nat.le_of_ble_eq_true rfl⟩ ⟨Nat.le_of_ble_eq_true rfl, Nat.le_of_ble_eq_true rfl⟩) (fun x7 _ => ?_)
        refine zk_aload_n (pc := 47) B dX12_aloneFare_47 0 rfl rfl ?_
        refine zk_getr (pc := 48) B kx_12 (gModel_s ha) 1 (by decide) kf_12_7 rfl (gModel_f1 ha) dX12_aloneFare_48 ?_
        refine zk_iconst (v := 2) (pc := 51) B dX12_aloneFare_51 (by decide) ?_
        refine zk_iald (pc := 52) B (gModel_t1 ha) dX12_aloneFare_52 ?_
        refine zk_imul (pc := 53) B dX12_aloneFare_53 ?_
        refine zk_iadd (pc := 54) B dX12_aloneFare_54 ?_
        exact zk_iret (pc := 55) B dX12_aloneFare_55 rfl rfl (Nat.le_of_ble_eq_true rfl) (Nat.le_of_ble_eq_true rfl) rfl
      · refine zk_iconst (v := (-1)) (pc := 33) B dX12_aloneFare_33 (by decide) ?_
        refine zk_goto (tgt := 55) (pc := 34) B dX12_aloneFare_34 (by decide) ?_
        exact zk_iret (pc := 55) B dX12_aloneFare_55 rfl rfl (Nat.le_of_ble_eq_true rfl) (Nat.le_of_ble_eq_true rfl) rfl
    · refine zk_iconst (v := 0) (pc := 21) B dX12_aloneFare_21 (by decide) ?_
      exact zk_iret (pc := 22) B dX12_aloneFare_22 rfl rfl (Nat.le_of_ble_eq_true rfl) (Nat.le_of_ble_eq_true rfl) rfl
set_option maxHeartbeats 4000000 in
set_option maxRecDepth 100000 in
theorem m_Model_keeps {X : z_X} (hX : z_ok X) {G : z_Gr} {a : Nat} (ha : g_Model G a) (p0 : Int32) (M : z_Mem) (b : Int32 × z_Mem) (h : F_Model_keeps a p0 M = some b) : z_Ct X yX12_keeps cX12_keeps 2 (some .boolean) ({ frames := 4, cells := 0, slots := 0, locals := 98 } : Room) [.ref a, .int p0] G M (fun o9 G9 M9 => G9 = G ∧ (o9, M9) = z_cim b) := by
  refine z_enter hX (by decide) (Nat.le_of_ble_eq_true rfl) h (fun F B hR => ?_)
  show z_K X F 2 0 0 G z_cim b 0 0 0 [(0, .ref a), (1, .int p0)] [] M (F_Model_keeps a p0 M)
  unfold F_Model_keeps
  refine zk_aload_n (pc := 0) B dX12_keeps_0 0 rfl rfl ?_
  refine zk_iconst (v := 0) (pc := 1) B dX12_keeps_1 (by decide) ?_
  refine zk_puti (pc := 2) B kx_12 (gModel_s ha) 0 (by decide) kf_12_93 rfl rfl rfl rfl dX12_keeps_2 ?_
  refine zk_lm (fun M1 => ?_)
  refine zk_aload_n (pc := 5) B dX12_keeps_5 0 rfl rfl ?_
  refine zk_iload_n (pc := 6) B dX12_keeps_6 1 rfl rfl ?_
  refine zk_cim (pc := 7) (k' := 0) (n' := 0) B rfl rfl (Nat.le_of_ble_eq_true rfl) (Nat.le_of_ble_eq_true rfl) (fun b hb => zr_V B hR kV_yX12_noTaxi km_12_375 kx_12 (gModel_s ha) [.int p0] rfl rfl (Nat.le_of_ble_eq_true rfl) dX12_keeps_7 (m_Model_noTaxi hX ha p0 M1 b hb) ⟨Nat.le_of_ble_eq_true rfl, Nat.le_of_ble_eq_true rfl⟩ ⟨Nat.le_of_ble_eq_true rfl, Nat.le_of_ble_eq_true rfl⟩) (fun x3 M2 => ?_)
  refine zk_if_eq (tgt := 15) (pc := 10) B dX12_keeps_10 (by decide) (fun _ => ?_) (fun _ => ?_)
  · refine zk_aload_n (pc := 15) B dX12_keeps_15 0 rfl rfl ?_
    refine zk_iload_n (pc := 16) B dX12_keeps_16 1 rfl rfl ?_
    refine zk_cvm (pc := 17) (k' := 0) (n' := 0) B rfl rfl (Nat.le_of_ble_eq_true rfl) (Nat.le_of_ble_eq_true rfl) (fun b hb => zr_V B hR kV_yX12_lists km_12_301 kx_12 (gModel_s ha) [.int p0] rfl rfl (Nat.le_of_ble_eq_true rfl) dX12_keeps_17 (m_Model_lists hX ha p0 M2 b hb) ⟨Nat.le_of_ble_eq_true rfl, Nat.le_of_ble_eq_true rfl⟩ ⟨Nat.le_of_ble_eq_true rfl, Nat.le_of_ble_eq_true rfl⟩) (fun M4 => ?_)
    refine zk_aload_n (pc := 20) B dX12_keeps_20 0 rfl rfl ?_
    refine zk_iload_n (pc := 21) B dX12_keeps_21 1 rfl rfl ?_
    refine zk_cim (pc := 22) (k' := 0) (n' := 0) B rfl rfl (Nat.le_of_ble_eq_true rfl) (Nat.le_of_ble_eq_true rfl) (fun b hb => zr_V B hR kV_yX12_plans km_12_311 kx_12 (gModel_s ha) [.int p0] rfl rfl (Nat.le_of_ble_eq_true rfl) dX12_keeps_22 (m_Model_plans hX ha p0 M4 b hb) ⟨Nat.le_of_ble_eq_true rfl, Nat.le_of_ble_eq_true rfl⟩ ⟨Nat.le_of_ble_eq_true rfl, Nat.le_of_ble_eq_true rfl⟩) (fun x6 M5 => ?_)
    exact zk_chk (fun h7 => zk_iret (pc := 25) B dX12_keeps_25 rfl (z_n01 h7) (Nat.le_of_ble_eq_true rfl) (Nat.le_of_ble_eq_true rfl) rfl)
  · refine zk_iconst (v := 0) (pc := 13) B dX12_keeps_13 (by decide) ?_
    exact zk_iret (pc := 14) B dX12_keeps_14 rfl rfl (Nat.le_of_ble_eq_true rfl) (Nat.le_of_ble_eq_true rfl) rfl
set_option maxHeartbeats 4000000 in
set_option maxRecDepth 100000 in
theorem m_Model_routeMinutes {X : z_X} (hX : z_ok X) {G : z_Gr} {a : Nat} (ha : g_Model G a) (p0 : Int32) (M : z_Mem) (b : Int32 × z_Mem) (h : F_Model_routeMinutes a p0 M = some b) : z_Ct X yX12_routeMinutes cX12_routeMinutes 2 (some .int) ({ frames := 3, cells := 0, slots := 0, locals := 68 } : Room) [.ref a, .int p0] G M (fun o9 G9 M9 => G9 = G ∧ (o9, M9) = z_cim b) := by
  refine z_enter hX (by decide) (Nat.le_of_ble_eq_true rfl) h (fun F B hR => ?_)
  show z_K X F 2 0 0 G z_cim b 0 0 0 [(0, .ref a), (1, .int p0)] [] M (F_Model_routeMinutes a p0 M)
  unfold F_Model_routeMinutes
  refine zk_aload_n (pc := 0) B dX12_routeMinutes_0 0 rfl rfl ?_
  refine zk_iconst (v := 0) (pc := 1) B dX12_routeMinutes_1 (by decide) ?_
  refine zk_puti (pc := 2) B kx_12 (gModel_s ha) 0 (by decide) kf_12_93 rfl rfl rfl rfl dX12_routeMinutes_2 ?_
  refine zk_lm (fun M1 => ?_)
  refine zk_aload_n (pc := 5) B dX12_routeMinutes_5 0 rfl rfl ?_
  refine zk_iload_n (pc := 6) B dX12_routeMinutes_6 1 rfl rfl ?_
  refine zk_cim (pc := 7) (k' := 0) (n' := 0) B rfl rfl (Nat.le_of_ble_eq_true rfl) (Nat.le_of_ble_eq_true rfl) (fun b hb => zr_V B hR kV_yX12_noTaxi km_12_375 kx_12 (gModel_s ha) [.int p0] rfl rfl (Nat.le_of_ble_eq_true rfl) dX12_routeMinutes_7 (m_Model_noTaxi hX ha p0 M1 b hb) ⟨Nat.le_of_ble_eq_true rfl, Nat.le_of_ble_eq_true rfl⟩ ⟨Nat.le_of_ble_eq_true rfl, Nat.le_of_ble_eq_true rfl⟩) (fun x3 M2 => ?_)
  refine zk_if_eq (tgt := 15) (pc := 10) B dX12_routeMinutes_10 (by decide) (fun _ => ?_) (fun _ => ?_)
  · refine zk_aload_n (pc := 15) B dX12_routeMinutes_15 0 rfl rfl ?_
    refine zk_iload_n (pc := 16) B dX12_routeMinutes_16 1 rfl rfl ?_
    refine zk_cvm (pc := 17) (k' := 0) (n' := 0) B rfl rfl (Nat.le_of_ble_eq_true rfl) (Nat.le_of_ble_eq_true rfl) (fun b hb => zr_V B hR kV_yX12_lists km_12_301 kx_12 (gModel_s ha) [.int p0] rfl rfl (Nat.le_of_ble_eq_true rfl) dX12_routeMinutes_17 (m_Model_lists hX ha p0 M2 b hb) ⟨Nat.le_of_ble_eq_true rfl, Nat.le_of_ble_eq_true rfl⟩ ⟨Nat.le_of_ble_eq_true rfl, Nat.le_of_ble_eq_true rfl⟩) (fun M4 => ?_)
    refine zk_aload_n (pc := 20) B dX12_routeMinutes_20 0 rfl rfl ?_
    refine zk_iload_n (pc := 21) B dX12_routeMinutes_21 1 rfl rfl ?_
    refine zk_cpi (pc := 22) (k' := 0) (n' := 0) B rfl rfl (Nat.le_of_ble_eq_true rfl) (Nat.le_of_ble_eq_true rfl) (fun b hb => zr_V B hR kV_yX12_sumOfWays km_12_304 kx_12 (gModel_s ha) [.int p0] rfl rfl (Nat.le_of_ble_eq_true rfl) dX12_routeMinutes_22 (m_Model_sumOfWays hX ha p0 M4 b hb) ⟨Nat.le_of_ble_eq_true rfl, Nat.le_of_ble_eq_true rfl⟩ ⟨Nat.le_of_ble_eq_true rfl, Nat.le_of_ble_eq_true rfl⟩) (fun x5 _ => ?_)
    exact zk_iret (pc := 25) B dX12_routeMinutes_25 rfl rfl (Nat.le_of_ble_eq_true rfl) (Nat.le_of_ble_eq_true rfl) rfl
  · refine zk_iconst (v := 0) (pc := 13) B dX12_routeMinutes_13 (by decide) ?_
    exact zk_iret (pc := 14) B dX12_routeMinutes_14 rfl rfl (Nat.le_of_ble_eq_true rfl) (Nat.le_of_ble_eq_true rfl) rfl
set_option maxHeartbeats 4000000 in
set_option maxRecDepth 100000 in
theorem m_Model_rides {X : z_X} (hX : z_ok X) {G : z_Gr} {a : Nat} (ha : g_Model G a) (p0 : Int32) (M : z_Mem) (b : Int32 × z_Mem) (h : F_Model_rides a p0 M = some b) : z_Ct X yX12_rides cX12_rides 2 (some .int) ({ frames := 2, cells := 0, slots := 0, locals := 45 } : Room) [.ref a, .int p0] G M (fun o9 G9 M9 => G9 = G ∧ (o9, M9) = z_cim b) := by
  refine z_enter hX (by decide) (Nat.le_of_ble_eq_true rfl) h (fun F B hR => ?_)
  show z_K X F 2 0 0 G z_cim b 0 0 0 [(0, .ref a), (1, .int p0)] [] M (F_Model_rides a p0 M)
  unfold F_Model_rides
  refine zk_aload_n (pc := 0) B dX12_rides_0 0 rfl rfl ?_
  refine zk_iconst (v := 0) (pc := 1) B dX12_rides_1 (by decide) ?_
  refine zk_puti (pc := 2) B kx_12 (gModel_s ha) 0 (by decide) kf_12_93 rfl rfl rfl rfl dX12_rides_2 ?_
  refine zk_lm (fun M1 => ?_)
  refine zk_aload_n (pc := 5) B dX12_rides_5 0 rfl rfl ?_
  refine zk_iload_n (pc := 6) B dX12_rides_6 1 rfl rfl ?_
  refine zk_i2l (pc := 7) B dX12_rides_7 ?_
  refine zk_lconst (v := 0) (pc := 8) B dX12_rides_8 (by decide) ?_
  refine zk_ldc2 (pc := 9) B kl_12_396 dX12_rides_9 ?_
  refine zk_cpi (pc := 12) (k' := 0) (n' := 0) B rfl rfl (Nat.le_of_ble_eq_true rfl) (Nat.le_of_ble_eq_true rfl) (fun b hb => zr_S B hR kS_yX12_in km_12_197 [.long p0.toInt64, .long 0, .long 6] rfl rfl (Nat.le_of_ble_eq_true rfl) dX12_rides_12 (m_Model_in hX p0.toInt64 0 6 M1 b hb) ⟨Nat.le_of_ble_eq_true rfl, Nat.le_of_ble_eq_true rfl⟩ ⟨Nat.le_of_ble_eq_true rfl, Nat.le_of_ble_eq_true rfl⟩) (fun x2 _ => ?_)
  refine zk_iconst (v := 1) (pc := 15) B dX12_rides_15 (by decide) ?_
  refine zk_cim (pc := 16) (k' := 0) (n' := 0) B rfl rfl (Nat.le_of_ble_eq_true rfl) (Nat.le_of_ble_eq_true rfl) (fun b hb => zr_V B hR kV_yX12_fails km_12_256 kx_12 (gModel_s ha) [.int x2, .int 1] rfl rfl (Nat.le_of_ble_eq_true rfl) dX12_rides_16 (m_Model_fails hX ha x2 1 M1 b hb) ⟨Nat.le_of_ble_eq_true rfl, Nat.le_of_ble_eq_true rfl⟩ ⟨Nat.le_of_ble_eq_true rfl, Nat.le_of_ble_eq_true rfl⟩) (fun x4 M3 => ?_)
  refine zk_if_eq (tgt := 26) (pc := 19) B dX12_rides_19 (by decide) (fun _ => ?_) (fun _ => ?_)
  · refine zk_aload_n (pc := 26) B dX12_rides_26 0 rfl rfl ?_
    refine zk_iload_n (pc := 27) B dX12_rides_27 1 rfl rfl ?_
    refine zk_cpi (pc := 28) (k' := 0) (n' := 0) B rfl rfl (Nat.le_of_ble_eq_true rfl) (Nat.le_of_ble_eq_true rfl) (fun b hb => zr_V B hR kV_yX12_ridesIn km_12_364 kx_12 (gModel_s ha) [.int p0] rfl rfl (Nat.le_of_ble_eq_true rfl) dX12_rides_28 (m_Model_ridesIn hX ha p0 M3 b hb) ⟨Nat.le_of_ble_eq_true rfl, Nat.le_of_ble_eq_true rfl⟩ ⟨Nat.le_of_ble_eq_true rfl, Nat.le_of_ble_eq_true rfl⟩) (fun x5 _ => ?_)
    exact zk_iret (pc := 31) B dX12_rides_31 rfl rfl (Nat.le_of_ble_eq_true rfl) (Nat.le_of_ble_eq_true rfl) rfl
  · refine zk_iconst (v := 0) (pc := 22) B dX12_rides_22 (by decide) ?_
    refine zk_goto (tgt := 31) (pc := 23) B dX12_rides_23 (by decide) ?_
    exact zk_iret (pc := 31) B dX12_rides_31 rfl rfl (Nat.le_of_ble_eq_true rfl) (Nat.le_of_ble_eq_true rfl) rfl
set_option maxHeartbeats 4000000 in
set_option maxRecDepth 100000 in
theorem m_Model_records {X : z_X} (hX : z_ok X) {G : z_Gr} {a : Nat} (ha : g_Model G a) (M : z_Mem) (b : z_Mem) (h : F_Model_records a M = some b) : z_Ct X yX12_records cX12_records 2 none ({ frames := 0, cells := 0, slots := 0, locals := 0 } : Room) [.ref a] G M (fun o9 G9 M9 => G9 = G ∧ (o9, M9) = z_cvm b) := by
  refine z_enter hX (by decide) (Nat.le_of_ble_eq_true rfl) h (fun F B hR => ?_)
  have L54 : ∀ (nf54 : Nat), ∀ (v1 : Int32) (M : z_Mem), z_K X F 2 0 0 G z_cvm b 0 0 54 [(0, .ref a), (1, .int v1)] [] M (F_Model_records_L54 a nf54 v1 M) := by
    intro nf54
    induction nf54 with
    | zero => intro v1 M; exact zk_none
    | succ nf54 ih54 =>
      intro v1 M
      show z_K X F 2 0 0 G z_cvm b 0 0 54 [(0, .ref a), (1, .int v1)] [] M (F_Model_records_B54 a (F_Model_records_L54 a nf54) v1 M)
      unfold F_Model_records_B54
      refine zk_iload_n (pc := 54) B dX12_records_54 1 rfl rfl ?_
      refine zk_sipush (v := 581) (pc := 55) B dX12_records_55 (by decide) ?_
      refine zk_icmp_ge (tgt := 88) (pc := 58) B dX12_records_58 (by decide) (fun _ => ?_) (fun _ => ?_)
      · refine zk_aload_n (pc := 88) B dX12_records_88 0 rfl rfl ?_
        refine zk_dup (pc := 89) B dX12_records_89 rfl ?_
        refine zk_geti (pc := 90) B kx_12 (gModel_s ha) 6 (by decide) kf_12_123 rfl dX12_records_90 ?_
        refine zk_iconst (v := 1) (pc := 93) B dX12_records_93 (by decide) ?_
        refine zk_iadd (pc := 94) B dX12_records_94 ?_
        refine zk_puti (pc := 95) B kx_12 (gModel_s ha) 6 (by decide) kf_12_123 rfl rfl rfl rfl dX12_records_95 ?_
        refine zk_lm (fun M1 => ?_)
        exact zk_vret (pc := 98) B dX12_records_98 rfl (Nat.le_of_ble_eq_true rfl) (Nat.le_of_ble_eq_true rfl) rfl
      · refine zk_aload_n (pc := 61) B dX12_records_61 0 rfl rfl ?_
        refine zk_getr (pc := 62) B kx_12 (gModel_s ha) 4 (by decide) kf_12_19 rfl (gModel_f4 ha) dX12_records_62 ?_
        refine zk_sipush (v := 581) (pc := 65) B dX12_records_65 (by decide) ?_
        refine zk_aload_n (pc := 68) B dX12_records_68 0 rfl rfl ?_
        refine zk_geti (pc := 69) B kx_12 (gModel_s ha) 6 (by decide) kf_12_123 rfl dX12_records_69 ?_
        refine zk_imul (pc := 72) B dX12_records_72 ?_
        refine zk_iload_n (pc := 73) B dX12_records_73 1 rfl rfl ?_
        refine zk_iadd (pc := 74) B dX12_records_74 ?_
        refine zk_aload_n (pc := 75) B dX12_records_75 0 rfl rfl ?_
        refine zk_getr (pc := 76) B kx_12 (gModel_s ha) 1 (by decide) kf_12_7 rfl (gModel_f1 ha) dX12_records_76 ?_
        refine zk_iload_n (pc := 79) B dX12_records_79 1 rfl rfl ?_
        refine zk_iald (pc := 80) B (gModel_t1 ha) dX12_records_80 ?_
        refine zk_iast (pc := 81) B (gModel_t4 ha) dX12_records_81 ?_
        refine zk_lm (fun M2 => ?_)
        refine zk_iinc (y := 1) (lf := fun x3 => [(1, .int x3), (0, .ref a)]) (pc := 82) B dX12_records_82 1 rfl (by decide) (by decide) (fun _ => rfl) (fun x3 => ?_)
        refine zk_goto (tgt := 54) (pc := 85) B dX12_records_85 (by decide) ?_
        refine zk_sub [1, 0] rfl ?_
        exact ih54 x3 M2
  have J52 : ∀  (M : z_Mem), z_K X F 2 0 0 G z_cvm b 0 0 52 [(0, .ref a)] [] M (F_Model_records_J52 a M) := by
    intro  M
    unfold F_Model_records_J52
    refine zk_iconst (v := 0) (pc := 52) B dX12_records_52 (by decide) ?_
    refine zk_istore_n (loc' := [(1, .int 0), (0, .ref a)]) (pc := 53) B dX12_records_53 rfl (by decide) rfl ?_
    refine zk_sub [1, 0] rfl ?_
    exact L54 10000 0 M
  have L13 : ∀ (nf13 : Nat), ∀ (v1 : Int32) (M : z_Mem), z_K X F 2 0 0 G z_cvm b 0 0 13 [(0, .ref a), (1, .int v1)] [] M (F_Model_records_L13 a nf13 v1 M) := by
    intro nf13
    induction nf13 with
    | zero => intro v1 M; exact zk_none
    | succ nf13 ih13 =>
      intro v1 M
      show z_K X F 2 0 0 G z_cvm b 0 0 13 [(0, .ref a), (1, .int v1)] [] M (F_Model_records_B13 a (F_Model_records_L13 a nf13) v1 M)
      unfold F_Model_records_B13
      refine zk_iload_n (pc := 13) B dX12_records_13 1 rfl rfl ?_
      refine zk_sipush (v := 5810) (pc := 14) B dX12_records_14 (by decide) ?_
      refine zk_icmp_ge (tgt := 42) (pc := 17) B dX12_records_17 (by decide) (fun _ => ?_) (fun _ => ?_)
      · refine zk_aload_n (pc := 42) B dX12_records_42 0 rfl rfl ?_
        refine zk_dup (pc := 43) B dX12_records_43 rfl ?_
        refine zk_geti (pc := 44) B kx_12 (gModel_s ha) 6 (by decide) kf_12_123 rfl dX12_records_44 ?_
        refine zk_iconst (v := 1) (pc := 47) B dX12_records_47 (by decide) ?_
        refine zk_isub (pc := 48) B dX12_records_48 ?_
        refine zk_puti (pc := 49) B kx_12 (gModel_s ha) 6 (by decide) kf_12_123 rfl rfl rfl rfl dX12_records_49 ?_
        refine zk_lm (fun M4 => ?_)
        refine zk_sub [0] rfl ?_
        exact J52 M4
      · refine zk_aload_n (pc := 20) B dX12_records_20 0 rfl rfl ?_
        refine zk_getr (pc := 21) B kx_12 (gModel_s ha) 4 (by decide) kf_12_19 rfl (gModel_f4 ha) dX12_records_21 ?_
        refine zk_iload_n (pc := 24) B dX12_records_24 1 rfl rfl ?_
        refine zk_sipush (v := 581) (pc := 25) B dX12_records_25 (by decide) ?_
        refine zk_isub (pc := 28) B dX12_records_28 ?_
        refine zk_aload_n (pc := 29) B dX12_records_29 0 rfl rfl ?_
        refine zk_getr (pc := 30) B kx_12 (gModel_s ha) 4 (by decide) kf_12_19 rfl (gModel_f4 ha) dX12_records_30 ?_
        refine zk_iload_n (pc := 33) B dX12_records_33 1 rfl rfl ?_
        refine zk_iald (pc := 34) B (gModel_t4 ha) dX12_records_34 ?_
        refine zk_iast (pc := 35) B (gModel_t4 ha) dX12_records_35 ?_
        refine zk_lm (fun M5 => ?_)
        refine zk_iinc (y := 1) (lf := fun x6 => [(1, .int x6), (0, .ref a)]) (pc := 36) B dX12_records_36 1 rfl (by decide) (by decide) (fun _ => rfl) (fun x6 => ?_)
        refine zk_goto (tgt := 13) (pc := 39) B dX12_records_39 (by decide) ?_
        refine zk_sub [1, 0] rfl ?_
        exact ih13 x6 M5
  show z_K X F 2 0 0 G z_cvm b 0 0 0 [(0, .ref a)] [] M (F_Model_records a M)
  unfold F_Model_records
  refine zk_aload_n (pc := 0) B dX12_records_0 0 rfl rfl ?_
  refine zk_geti (pc := 1) B kx_12 (gModel_s ha) 6 (by decide) kf_12_123 rfl dX12_records_1 ?_
  refine zk_bipush (v := 10) (pc := 4) B dX12_records_4 (by decide) ?_
  refine zk_icmp_ne (tgt := 52) (pc := 6) B dX12_records_6 (by decide) (fun _ => ?_) (fun _ => ?_)
  · exact J52 M
  · refine zk_sipush (v := 581) (pc := 9) B dX12_records_9 (by decide) ?_
    refine zk_istore_n (loc' := [(1, .int 581), (0, .ref a)]) (pc := 12) B dX12_records_12 rfl (by decide) rfl ?_
    refine zk_sub [1, 0] rfl ?_
    exact L13 10000 581 M
