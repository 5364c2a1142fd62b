/-! ===== walks of the reference (by program) ===== -/
set_option maxHeartbeats 4000000 in
set_option maxRecDepth 100000 in
theorem m_Model_ruleHere {X : z_X} (hX : z_ok X) {G : z_Gr} {a : Nat} (ha : g_Model G a) (M : z_Mem) (b : Int32) (h : F_Model_ruleHere a M = some b) : z_Ct X yX12_ruleHere cX12_ruleHere 1 (some .int) ({ frames := 2, cells := 0, slots := 0, locals := 42 } : Room) [.ref a] G M (fun o9 G9 M9 => G9 = G ∧ (o9, M9) = (z_ci M) b) := by
  refine z_enter hX (by decide) (Nat.le_of_ble_eq_true rfl) h (fun F B hR => ?_)
  show z_K X F 1 0 0 G (z_ci M) b 0 0 0 [(0, .ref a)] [] M (F_Model_ruleHere a M)
  unfold F_Model_ruleHere
  refine zk_aload_n (pc := 0) B dX12_ruleHere_0 0 rfl rfl ?_
  refine zk_ldc2 (pc := 1) B kl_12_201 dX12_ruleHere_1 ?_
  refine zk_cpi (pc := 4) (k' := 0) (n' := 0) B rfl rfl (Nat.le_of_ble_eq_true rfl) (Nat.le_of_ble_eq_true rfl) (fun b hb => zr_V B hR kV_yX12_isWord km_12_187 kx_12 (gModel_s ha) [.long 453701] rfl rfl (Nat.le_of_ble_eq_true rfl) dX12_ruleHere_4 (m_Model_isWord hX ha 453701 M b hb) ⟨Nat.le_of_ble_eq_true rfl, Nat.le_of_ble_eq_true rfl⟩ ⟨Nat.le_of_ble_eq_true rfl, Nat.le_of_ble_eq_true rfl⟩) (fun x1 _ => ?_)
  refine zk_if_eq (tgt := 12) (pc := 7) B dX12_ruleHere_7 (by decide) (fun _ => ?_) (fun _ => ?_)
  · refine zk_aload_n (pc := 12) B dX12_ruleHere_12 0 rfl rfl ?_
    refine zk_ldc2 (pc := 13) B kl_12_203 dX12_ruleHere_13 ?_
    refine zk_cpi (pc := 16) (k' := 0) (n' := 0) B rfl rfl (Nat.le_of_ble_eq_true rfl) (Nat.le_of_ble_eq_true rfl) (fun b hb => zr_V B hR kV_yX12_isWord km_12_187 kx_12 (gModel_s ha) [.long 2582454] rfl rfl (Nat.le_of_ble_eq_true rfl) dX12_ruleHere_16 (m_Model_isWord hX ha 2582454 M b hb) ⟨Nat.le_of_ble_eq_true rfl, Nat.le_of_ble_eq_true rfl⟩ ⟨Nat.le_of_ble_eq_true rfl, Nat.le_of_ble_eq_true rfl⟩) (fun x2 _ => ?_)
    refine zk_if_eq (tgt := 24) (pc := 19) B dX12_ruleHere_19 (by decide) (fun _ => ?_) (fun _ => ?_)
    · refine zk_aload_n (pc := 24) B dX12_ruleHere_24 0 rfl rfl ?_
      refine zk_ldc2 (pc := 25) B kl_12_205 dX12_ruleHere_25 ?_
      refine zk_cpi (pc := 28) (k' := 0) (n' := 0) B rfl rfl (Nat.le_of_ble_eq_true rfl) (Nat.le_of_ble_eq_true rfl) (fun b hb => zr_V B hR kV_yX12_isWord km_12_187 kx_12 (gModel_s ha) [.long 8094240] rfl rfl (Nat.le_of_ble_eq_true rfl) dX12_ruleHere_28 (m_Model_isWord hX ha 8094240 M b hb) ⟨Nat.le_of_ble_eq_true rfl, Nat.le_of_ble_eq_true rfl⟩ ⟨Nat.le_of_ble_eq_true rfl, Nat.le_of_ble_eq_true rfl⟩) (fun x3 _ => ?_)
      refine zk_if_eq (tgt := 36) (pc := 31) B dX12_ruleHere_31 (by decide) (fun _ => ?_) (fun _ => ?_)
      · refine zk_aload_n (pc := 36) B dX12_ruleHere_36 0 rfl rfl ?_
        refine zk_ldc2 (pc := 37) B kl_12_207 dX12_ruleHere_37 ?_
        refine zk_cpi (pc := 40) (k' := 0) (n' := 0) B rfl rfl (Nat.le_of_ble_eq_true rfl) (Nat.le_of_ble_eq_true rfl) (fun b hb => zr_V B hR kV_yX12_isWord km_12_187 kx_12 (gModel_s ha) [.long 168044941553] rfl rfl (Nat.le_of_ble_eq_true rfl) dX12_ruleHere_40 (m_Model_isWord hX ha 168044941553 M b hb) ⟨Nat.le_of_ble_eq_true rfl, Nat.le_of_ble_eq_true rfl⟩ ⟨Nat.le_of_ble_eq_true rfl, Nat.le_of_ble_eq_true rfl⟩) (fun x4 _ => ?_)
        refine zk_if_eq (tgt := 48) (pc := 43) B dX12_ruleHere_43 (by decide) (fun _ => ?_) (fun _ => ?_)
        · refine zk_aload_n (pc := 48) B dX12_ruleHere_48 0 rfl rfl ?_
          refine zk_ldc2 (pc := 49) B kl_12_209 dX12_ruleHere_49 ?_
          refine zk_cpi (pc := 52) (k' := 0) (n' := 0) B rfl rfl (Nat.le_of_ble_eq_true rfl) (Nat.le_of_ble_eq_true rfl) (fun b hb => zr_V B hR kV_yX12_isWord km_12_187 kx_12 (gModel_s ha) [.long 4514] rfl rfl (Nat.le_of_ble_eq_true rfl) dX12_ruleHere_52 (m_Model_isWord hX ha 4514 M b hb) ⟨Nat.le_of_ble_eq_true rfl, Nat.le_of_ble_eq_true rfl⟩ ⟨Nat.le_of_ble_eq_true rfl, Nat.le_of_ble_eq_true rfl⟩) (fun x5 _ => ?_)
          refine zk_if_eq (tgt := 60) (pc := 55) B dX12_ruleHere_55 (by decide) (fun _ => ?_) (fun _ => ?_)
          · refine zk_aload_n (pc := 60) B dX12_ruleHere_60 0 rfl rfl ?_
            refine zk_ldc2 (pc := 61) B kl_12_211 dX12_ruleHere_61 ?_
            refine zk_cpi (pc := 64) (k' := 0) (n' := 0) B rfl rfl (Nat.le_of_ble_eq_true rfl) (Nat.le_of_ble_eq_true rfl) (fun b hb => zr_V B hR kV_yX12_isWord km_12_187 kx_12 (gModel_s ha) [.long 10497998] rfl rfl (Nat.le_of_ble_eq_true rfl) dX12_ruleHere_64 (m_Model_isWord hX ha 10497998 M b hb) ⟨Nat.le_of_ble_eq_true rfl, Nat.le_of_ble_eq_true rfl⟩ ⟨Nat.le_of_ble_eq_true rfl, Nat.le_of_ble_eq_true rfl⟩) (fun x6 _ => ?_)
            refine zk_if_eq (tgt := 72) (pc := 67) B dX12_ruleHere_67 (by decide) (fun _ => ?_) (fun _ => ?_)
            · refine zk_aload_n (pc := 72) B dX12_ruleHere_72 0 rfl rfl ?_
              refine zk_ldc2 (pc := 73) B kl_12_213 dX12_ruleHere_73 ?_
              refine zk_cpi (pc := 76) (k' := 0) (n' := 0) B rfl rfl (Nat.le_of_ble_eq_true rfl) (Nat.le_of_ble_eq_true rfl) (fun b hb => zr_V B hR kV_yX12_isWord km_12_187 kx_12 (gModel_s ha) [.long 358472] rfl rfl (Nat.le_of_ble_eq_true rfl) dX12_ruleHere_76 (m_Model_isWord hX ha 358472 M b hb) ⟨Nat.le_of_ble_eq_true rfl, Nat.le_of_ble_eq_true rfl⟩ ⟨Nat.le_of_ble_eq_true rfl, Nat.le_of_ble_eq_true rfl⟩) (fun x7 _ => ?_)
              refine zk_if_eq (tgt := 87) (pc := 79) B dX12_ruleHere_79 (by decide) (fun _ => ?_) (fun _ => ?_)
              · refine zk_iconst (v := (-1)) (pc := 87) B dX12_ruleHere_87 (by decide) ?_
                exact zk_iret (pc := 88) B dX12_ruleHere_88 rfl rfl (Nat.le_of_ble_eq_true rfl) (Nat.le_of_ble_eq_true rfl) rfl
              · refine zk_bipush (v := 6) (pc := 82) B dX12_ruleHere_82 (by decide) ?_
                refine zk_goto (tgt := 88) (pc := 84) B dX12_ruleHere_84 (by decide) ?_
                exact zk_iret (pc := 88) B dX12_ruleHere_88 rfl rfl (Nat.le_of_ble_eq_true rfl) (Nat.le_of_ble_eq_true rfl) rfl
            · refine zk_iconst (v := 5) (pc := 70) B dX12_ruleHere_70 (by decide) ?_
              exact zk_iret (pc := 71) B dX12_ruleHere_71 rfl rfl (Nat.le_of_ble_eq_true rfl) (Nat.le_of_ble_eq_true rfl) rfl
          · refine zk_iconst (v := 4) (pc := 58) B dX12_ruleHere_58 (by decide) ?_
            exact zk_iret (pc := 59) B dX12_ruleHere_59 rfl rfl (Nat.le_of_ble_eq_true rfl) (Nat.le_of_ble_eq_true rfl) rfl
        · refine zk_iconst (v := 3) (pc := 46) B dX12_ruleHere_46 (by decide) ?_
          exact zk_iret (pc := 47) B dX12_ruleHere_47 rfl rfl (Nat.le_of_ble_eq_true rfl) (Nat.le_of_ble_eq_true rfl) rfl
      · refine zk_iconst (v := 2) (pc := 34) B dX12_ruleHere_34 (by decide) ?_
        exact zk_iret (pc := 35) B dX12_ruleHere_35 rfl rfl (Nat.le_of_ble_eq_true rfl) (Nat.le_of_ble_eq_true rfl) rfl
    · refine zk_iconst (v := 1) (pc := 22) B dX12_ruleHere_22 (by decide) ?_
      exact zk_iret (pc := 23) B dX12_ruleHere_23 rfl rfl (Nat.le_of_ble_eq_true rfl) (Nat.le_of_ble_eq_true rfl) rfl
  · refine zk_iconst (v := 0) (pc := 10) B dX12_ruleHere_10 (by decide) ?_
    exact zk_iret (pc := 11) B dX12_ruleHere_11 rfl rfl (Nat.le_of_ble_eq_true rfl) (Nat.le_of_ble_eq_true rfl) rfl
set_option maxHeartbeats 4000000 in
set_option maxRecDepth 100000 in
theorem m_Model_roadRead {X : z_X} (hX : z_ok X) {G : z_Gr} {a : Nat} (ha : g_Model G a) (M : z_Mem) (b : z_Mem) (h : F_Model_roadRead a M = some b) : z_Ct X yX12_roadRead cX12_roadRead 4 none ({ frames := 4, cells := 0, slots := 0, locals := 84 } : Room) [.ref a] G M (fun o9 G9 M9 => G9 = G ∧ (o9, M9) = z_cvm b) := by
  refine z_enter hX (by decide) (Nat.le_of_ble_eq_true rfl) h (fun F B hR => ?_)
  have J77 : ∀ (v1 : Int32) (M : z_Mem), z_K X F 4 0 0 G z_cvm b 0 0 77 [(0, .ref a), (1, .int v1)] [] M (F_Model_roadRead_J77 a v1 M) := by
    intro v1 M
    unfold F_Model_roadRead_J77
    refine zk_aload_n (pc := 77) B dX12_roadRead_77 0 rfl rfl ?_
    refine zk_iconst (v := 0) (pc := 78) B dX12_roadRead_78 (by decide) ?_
    refine zk_aload_n (pc := 79) B dX12_roadRead_79 0 rfl rfl ?_
    refine zk_geti (pc := 80) B kx_12 (gModel_s ha) 7 (by decide) kf_12_96 rfl dX12_roadRead_80 ?_
    refine zk_iconst (v := 1) (pc := 83) B dX12_roadRead_83 (by decide) ?_
    refine zk_isub (pc := 84) B dX12_roadRead_84 ?_
    refine zk_cim (pc := 85) (k' := 0) (n' := 0) B rfl rfl (Nat.le_of_ble_eq_true rfl) (Nat.le_of_ble_eq_true rfl) (fun b hb => zr_V B hR kV_yX12_number km_12_215 kx_12 (gModel_s ha) [.int 0, .int ((M.1 a 7) - 1)] rfl rfl (Nat.le_of_ble_eq_true rfl) dX12_roadRead_85 (m_Model_number hX ha 0 ((M.1 a 7) - 1) M b hb) ⟨Nat.le_of_ble_eq_true rfl, Nat.le_of_ble_eq_true rfl⟩ ⟨Nat.le_of_ble_eq_true rfl, Nat.le_of_ble_eq_true rfl⟩) (fun x6 M5 => ?_)
    refine zk_istore_n (loc' := [(2, .int x6), (0, .ref a), (1, .int v1)]) (pc := 88) B dX12_roadRead_88 rfl (by decide) rfl ?_
    refine zk_aload_n (pc := 89) B dX12_roadRead_89 1 rfl rfl ?_
    refine zk_iconst (v := 1) (pc := 90) B dX12_roadRead_90 (by decide) ?_
    refine zk_bipush (v := 99) (pc := 91) B dX12_roadRead_91 (by decide) ?_
    refine zk_cim (pc := 93) (k' := 0) (n' := 0) B rfl rfl (Nat.le_of_ble_eq_true rfl) (Nat.le_of_ble_eq_true rfl) (fun b hb => zr_V B hR kV_yX12_number km_12_215 kx_12 (gModel_s ha) [.int 1, .int 99] rfl rfl (Nat.le_of_ble_eq_true rfl) dX12_roadRead_93 (m_Model_number hX ha 1 99 M5 b hb) ⟨Nat.le_of_ble_eq_true rfl, Nat.le_of_ble_eq_true rfl⟩ ⟨Nat.le_of_ble_eq_true rfl, Nat.le_of_ble_eq_true rfl⟩) (fun x8 M7 => ?_)
    refine zk_istore_n (loc' := [(3, .int x8), (2, .int x6), (0, .ref a), (1, .int v1)]) (pc := 96) B dX12_roadRead_96 rfl (by decide) rfl ?_
    refine zk_aload_n (pc := 97) B dX12_roadRead_97 2 rfl rfl ?_
    refine zk_cpi (pc := 98) (k' := 0) (n' := 0) B rfl rfl (Nat.le_of_ble_eq_true rfl) (Nat.le_of_ble_eq_true rfl) (fun b hb => zr_V B hR kV_yX12_isGood km_12_183 kx_12 (gModel_s ha) [] rfl rfl (Nat.le_of_ble_eq_true rfl) dX12_roadRead_98 (m_Model_isGood hX ha M7 b hb) ⟨Nat.le_of_ble_eq_true rfl, Nat.le_of_ble_eq_true rfl⟩ ⟨Nat.le_of_ble_eq_true rfl, Nat.le_of_ble_eq_true rfl⟩) (fun x9 _ => ?_)
    refine zk_if_ne (tgt := 105) (pc := 101) B dX12_roadRead_101 (by decide) (fun _ => ?_) (fun _ => ?_)
    · refine zk_aload_n (pc := 105) B dX12_roadRead_105 2 rfl rfl ?_
      refine zk_getr (pc := 106) B kx_12 (gModel_s ha) 11 (by decide) kf_12_22 rfl (gModel_f11 ha) dX12_roadRead_106 ?_
      refine zk_bipush (v := 8) (pc := 109) B dX12_roadRead_109 (by decide) ?_
      refine zk_iload_n (pc := 111) B dX12_roadRead_111 3 rfl rfl ?_
      refine zk_imul (pc := 112) B dX12_roadRead_112 ?_
      refine zk_iload_n (pc := 113) B dX12_roadRead_113 1 rfl rfl ?_
      refine zk_iadd (pc := 114) B dX12_roadRead_114 ?_
      refine zk_iload_n (pc := 115) B dX12_roadRead_115 0 rfl rfl ?_
      refine zk_iast (pc := 116) B (gModel_t11 ha) dX12_roadRead_116 ?_
      refine zk_lm (fun M10 => ?_)
      refine zk_aload_n (pc := 117) B dX12_roadRead_117 2 rfl rfl ?_
      refine zk_getr (pc := 118) B kx_12 (gModel_s ha) 11 (by decide) kf_12_22 rfl (gModel_f11 ha) dX12_roadRead_118 ?_
      refine zk_bipush (v := 8) (pc := 121) B dX12_roadRead_121 (by decide) ?_
      refine zk_iload_n (pc := 123) B dX12_roadRead_123 1 rfl rfl ?_
      refine zk_imul (pc := 124) B dX12_roadRead_124 ?_
      refine zk_iload_n (pc := 125) B dX12_roadRead_125 3 rfl rfl ?_
      refine zk_iadd (pc := 126) B dX12_roadRead_126 ?_
      refine zk_iload_n (pc := 127) B dX12_roadRead_127 0 rfl rfl ?_
      refine zk_iast (pc := 128) B (gModel_t11 ha) dX12_roadRead_128 ?_
      refine zk_lm (fun M11 => ?_)
      refine zk_aload_n (pc := 129) B dX12_roadRead_129 2 rfl rfl ?_
      refine zk_dup (pc := 130) B dX12_roadRead_130 rfl ?_
      refine zk_geti (pc := 131) B kx_12 (gModel_s ha) 8 (by decide) kf_12_99 rfl dX12_roadRead_131 ?_
      refine zk_iconst (v := 1) (pc := 134) B dX12_roadRead_134 (by decide) ?_
      refine zk_iadd (pc := 135) B dX12_roadRead_135 ?_
      refine zk_puti (pc := 136) B kx_12 (gModel_s ha) 8 (by decide) kf_12_99 rfl rfl rfl rfl dX12_roadRead_136 ?_
      refine zk_lm (fun M12 => ?_)
      exact zk_vret (pc := 139) B dX12_roadRead_139 rfl (Nat.le_of_ble_eq_true rfl) (Nat.le_of_ble_eq_true rfl) rfl
    · exact zk_vret (pc := 104) B dX12_roadRead_104 rfl (Nat.le_of_ble_eq_true rfl) (Nat.le_of_ble_eq_true rfl) rfl
  have J71 : ∀ (v1 : Int32) (M : z_Mem), z_K X F 4 0 0 G z_cvm b 0 0 71 [(0, .ref a), (1, .int v1)] [] M (F_Model_roadRead_J71 a v1 M) := by
    intro v1 M
    unfold F_Model_roadRead_J71
    refine zk_aload_n (pc := 71) B dX12_roadRead_71 0 rfl rfl ?_
    refine zk_iconst (v := 4) (pc := 72) B dX12_roadRead_72 (by decide) ?_
    refine zk_cim (pc := 73) (k' := 0) (n' := 0) B rfl rfl (Nat.le_of_ble_eq_true rfl) (Nat.le_of_ble_eq_true rfl) (fun b hb => zr_V B hR kV_yX12_wrongs km_12_194 kx_12 (gModel_s ha) [.int 4] rfl rfl (Nat.le_of_ble_eq_true rfl) dX12_roadRead_73 (m_Model_wrongs hX ha 4 M b hb) ⟨Nat.le_of_ble_eq_true rfl, Nat.le_of_ble_eq_true rfl⟩ ⟨Nat.le_of_ble_eq_true rfl, Nat.le_of_ble_eq_true rfl⟩) (fun x14 M13 => ?_)
    refine zk_pop (pc := 76) B dX12_roadRead_76 rfl ?_
    exact J77 v1 M13
  show z_K X F 4 0 0 G z_cvm b 0 0 0 [(0, .ref a)] [] M (F_Model_roadRead a M)
  unfold F_Model_roadRead
  refine zk_aload_n (pc := 0) B dX12_roadRead_0 0 rfl rfl ?_
  refine zk_iconst (v := 0) (pc := 1) B dX12_roadRead_1 (by decide) ?_
  refine zk_aload_n (pc := 2) B dX12_roadRead_2 0 rfl rfl ?_
  refine zk_geti (pc := 3) B kx_12 (gModel_s ha) 7 (by decide) kf_12_96 rfl dX12_roadRead_3 ?_
  refine zk_iconst (v := 1) (pc := 6) B dX12_roadRead_6 (by decide) ?_
  refine zk_isub (pc := 7) B dX12_roadRead_7 ?_
  refine zk_cim (pc := 8) (k' := 0) (n' := 0) B rfl rfl (Nat.le_of_ble_eq_true rfl) (Nat.le_of_ble_eq_true rfl) (fun b hb => zr_V B hR kV_yX12_number km_12_215 kx_12 (gModel_s ha) [.int 0, .int ((M.1 a 7) - 1)] rfl rfl (Nat.le_of_ble_eq_true rfl) dX12_roadRead_8 (m_Model_number hX ha 0 ((M.1 a 7) - 1) M b hb) ⟨Nat.le_of_ble_eq_true rfl, Nat.le_of_ble_eq_true rfl⟩ ⟨Nat.le_of_ble_eq_true rfl, Nat.le_of_ble_eq_true rfl⟩) (fun x2 M1 => ?_)
  refine zk_istore_n (loc' := [(1, .int x2), (0, .ref a)]) (pc := 11) B dX12_roadRead_11 rfl (by decide) rfl ?_
  refine zk_aload_n (pc := 12) B dX12_roadRead_12 1 rfl rfl ?_
  refine zk_cpi (pc := 13) (k' := 0) (n' := 0) B rfl rfl (Nat.le_of_ble_eq_true rfl) (Nat.le_of_ble_eq_true rfl) (fun b hb => zr_V B hR kV_yX12_isGood km_12_183 kx_12 (gModel_s ha) [] rfl rfl (Nat.le_of_ble_eq_true rfl) dX12_roadRead_13 (m_Model_isGood hX ha M1 b hb) ⟨Nat.le_of_ble_eq_true rfl, Nat.le_of_ble_eq_true rfl⟩ ⟨Nat.le_of_ble_eq_true rfl, Nat.le_of_ble_eq_true rfl⟩) (fun x3 _ => ?_)
  refine zk_if_eq (tgt := 77) (pc := 16) B dX12_roadRead_16 (by decide) (fun _ => ?_) (fun _ => ?_)
  · refine zk_sub [1, 0] rfl ?_
    exact J77 x2 M1
  · refine zk_aload_n (pc := 19) B dX12_roadRead_19 1 rfl rfl ?_
    refine zk_geti (pc := 20) B kx_12 (gModel_s ha) 27 (by decide) kf_12_161 rfl dX12_roadRead_20 ?_
    refine zk_iconst (v := 2) (pc := 23) B dX12_roadRead_23 (by decide) ?_
    refine zk_icmp_ne (tgt := 77) (pc := 24) B dX12_roadRead_24 (by decide) (fun _ => ?_) (fun _ => ?_)
    · refine zk_sub [1, 0] rfl ?_
      exact J77 x2 M1
    · refine zk_aload_n (pc := 27) B dX12_roadRead_27 1 rfl rfl ?_
      refine zk_geti (pc := 28) B kx_12 (gModel_s ha) 28 (by decide) kf_12_164 rfl dX12_roadRead_28 ?_
      refine zk_i2l (pc := 31) B dX12_roadRead_31 ?_
      refine zk_lconst (v := 0) (pc := 32) B dX12_roadRead_32 (by decide) ?_
      refine zk_aload_n (pc := 33) B dX12_roadRead_33 1 rfl rfl ?_
      refine zk_geti (pc := 34) B kx_12 (gModel_s ha) 7 (by decide) kf_12_96 rfl dX12_roadRead_34 ?_
      refine zk_iconst (v := 1) (pc := 37) B dX12_roadRead_37 (by decide) ?_
      refine zk_isub (pc := 38) B dX12_roadRead_38 ?_
      refine zk_i2l (pc := 39) B dX12_roadRead_39 ?_
      refine zk_cpi (pc := 40) (k' := 0) (n' := 0) B rfl rfl (Nat.le_of_ble_eq_true rfl) (Nat.le_of_ble_eq_true rfl) (fun b hb => zr_S B hR kS_yX12_in km_12_197 [.long ((M1.1 a 28).toInt64), .long 0, .long (((M1.1 a 7) - 1).toInt64)] rfl rfl (Nat.le_of_ble_eq_true rfl) dX12_roadRead_40 (m_Model_in hX ((M1.1 a 28).toInt64) 0 (((M1.1 a 7) - 1).toInt64) M1 b hb) ⟨Nat.le_of_ble_eq_true rfl, Nat.le_of_ble_eq_true rfl⟩ ⟨Nat.le_of_ble_eq_true rfl, Nat.le_of_ble_eq_true rfl⟩) (fun x4 _ => ?_)
      refine zk_if_eq (tgt := 77) (pc := 43) B dX12_roadRead_43 (by decide) (fun _ => ?_) (fun _ => ?_)
      · refine zk_sub [1, 0] rfl ?_
        exact J77 x2 M1
      · refine zk_aload_n (pc := 46) B dX12_roadRead_46 1 rfl rfl ?_
        refine zk_geti (pc := 47) B kx_12 (gModel_s ha) 28 (by decide) kf_12_164 rfl dX12_roadRead_47 ?_
        refine zk_iload_n (pc := 50) B dX12_roadRead_50 0 rfl rfl ?_
        refine zk_icmp_eq (tgt := 71) (pc := 51) B dX12_roadRead_51 (by decide) (fun _ => ?_) (fun _ => ?_)
        · refine zk_sub [1, 0] rfl ?_
          exact J71 x2 M1
        · refine zk_aload_n (pc := 54) B dX12_roadRead_54 1 rfl rfl ?_
          refine zk_getr (pc := 55) B kx_12 (gModel_s ha) 11 (by decide) kf_12_22 rfl (gModel_f11 ha) dX12_roadRead_55 ?_
          refine zk_bipush (v := 8) (pc := 58) B dX12_roadRead_58 (by decide) ?_
          refine zk_iload_n (pc := 60) B dX12_roadRead_60 0 rfl rfl ?_
          refine zk_imul (pc := 61) B dX12_roadRead_61 ?_
          refine zk_aload_n (pc := 62) B dX12_roadRead_62 1 rfl rfl ?_
          refine zk_geti (pc := 63) B kx_12 (gModel_s ha) 28 (by decide) kf_12_164 rfl dX12_roadRead_63 ?_
          refine zk_iadd (pc := 66) B dX12_roadRead_66 ?_
          refine zk_iald (pc := 67) B (gModel_t11 ha) dX12_roadRead_67 ?_
          refine zk_if_lt (tgt := 77) (pc := 68) B dX12_roadRead_68 (by decide) (fun _ => ?_) (fun _ => ?_)
          · refine zk_sub [1, 0] rfl ?_
            exact J77 x2 M1
          · refine zk_sub [1, 0] rfl ?_
            exact J71 x2 M1
set_option maxHeartbeats 4000000 in
set_option maxRecDepth 100000 in
theorem m_Model_taxiRead {X : z_X} (hX : z_ok X) {G : z_Gr} {a : Nat} (ha : g_Model G a) (M : z_Mem) (b : z_Mem) (h : F_Model_taxiRead a M = some b) : z_Ct X yX12_taxiRead cX12_taxiRead 6 none ({ frames := 4, cells := 0, slots := 0, locals := 84 } : Room) [.ref a] G M (fun o9 G9 M9 => G9 = G ∧ (o9, M9) = z_cvm b) := by
  refine z_enter hX (by decide) (Nat.le_of_ble_eq_true rfl) h (fun F B hR => ?_)
  have J73 : ∀ (v1 : Int32) (v2 : Int32) (v3 : Int32) (M : z_Mem), z_K X F 6 0 0 G z_cvm b 0 0 73 [(0, .ref a), (1, .int v1), (2, .int v2), (3, .int v3)] [] M (F_Model_taxiRead_J73 a v1 v2 v3 M) := by
    intro v1 v2 v3 M
    unfold F_Model_taxiRead_J73
    refine zk_aload_n (pc := 73) B dX12_taxiRead_73 0 rfl rfl ?_
    refine zk_iconst (v := 0) (pc := 74) B dX12_taxiRead_74 (by decide) ?_
    refine zk_sipush (v := 2879) (pc := 75) B dX12_taxiRead_75 (by decide) ?_
    refine zk_cim (pc := 78) (k' := 0) (n' := 0) B rfl rfl (Nat.le_of_ble_eq_true rfl) (Nat.le_of_ble_eq_true rfl) (fun b hb => zr_V B hR kV_yX12_number km_12_215 kx_12 (gModel_s ha) [.int 0, .int 2879] rfl rfl (Nat.le_of_ble_eq_true rfl) dX12_taxiRead_78 (m_Model_number hX ha 0 2879 M b hb) ⟨Nat.le_of_ble_eq_true rfl, Nat.le_of_ble_eq_true rfl⟩ ⟨Nat.le_of_ble_eq_true rfl, Nat.le_of_ble_eq_true rfl⟩) (fun x12 M11 => ?_)
    refine zk_istore (loc' := [(4, .int x12), (0, .ref a), (1, .int v1), (2, .int v2), (3, .int v3)]) (pc := 81) B dX12_taxiRead_81 (by decide) rfl ?_
    refine zk_aload_n (pc := 83) B dX12_taxiRead_83 1 rfl rfl ?_
    refine zk_cpi (pc := 84) (k' := 0) (n' := 0) B rfl rfl (Nat.le_of_ble_eq_true rfl) (Nat.le_of_ble_eq_true rfl) (fun b hb => zr_V B hR kV_yX12_isGood km_12_183 kx_12 (gModel_s ha) [] rfl rfl (Nat.le_of_ble_eq_true rfl) dX12_taxiRead_84 (m_Model_isGood hX ha M11 b hb) ⟨Nat.le_of_ble_eq_true rfl, Nat.le_of_ble_eq_true rfl⟩ ⟨Nat.le_of_ble_eq_true rfl, Nat.le_of_ble_eq_true rfl⟩) (fun x13 _ => ?_)
    refine zk_if_ne (tgt := 91) (pc := 87) B dX12_taxiRead_87 (by decide) (fun _ => ?_) (fun _ => ?_)
    · refine zk_bipush (v := 13) (pc := 91) B dX12_taxiRead_91 (by decide) ?_
      refine zk_bipush (v := 40) (pc := 93) B dX12_taxiRead_93 (by decide) ?_
      refine zk_aload_n (pc := 95) B dX12_taxiRead_95 1 rfl rfl ?_
      refine zk_geti (pc := 96) B kx_12 (gModel_s ha) 9 (by decide) kf_12_102 rfl dX12_taxiRead_96 ?_
      refine zk_imul (pc := 99) B dX12_taxiRead_99 ?_
      refine zk_iadd (pc := 100) B dX12_taxiRead_100 ?_
      refine zk_li (fun x14 => ?_)
      refine zk_istore (loc' := [(5, .int x14), (4, .int x12), (0, .ref a), (1, .int v1), (2, .int v2), (3, .int v3)]) (pc := 101) B dX12_taxiRead_101 (by decide) rfl ?_
      refine zk_aload_n (pc := 103) B dX12_taxiRead_103 2 rfl rfl ?_
      refine zk_getr (pc := 104) B kx_12 (gModel_s ha) 12 (by decide) kf_12_25 rfl (gModel_f12 ha) dX12_taxiRead_104 ?_
      refine zk_aload_n (pc := 107) B dX12_taxiRead_107 2 rfl rfl ?_
      refine zk_geti (pc := 108) B kx_12 (gModel_s ha) 9 (by decide) kf_12_102 rfl dX12_taxiRead_108 ?_
      refine zk_iload_n (pc := 111) B dX12_taxiRead_111 3 rfl rfl ?_
      refine zk_iast (pc := 112) B (gModel_t12 ha) dX12_taxiRead_112 ?_
      refine zk_lm (fun M15 => ?_)
      refine zk_aload_n (pc := 113) B dX12_taxiRead_113 2 rfl rfl ?_
      refine zk_getr (pc := 114) B kx_12 (gModel_s ha) 13 (by decide) kf_12_28 rfl (gModel_f13 ha) dX12_taxiRead_114 ?_
      refine zk_aload_n (pc := 117) B dX12_taxiRead_117 2 rfl rfl ?_
      refine zk_geti (pc := 118) B kx_12 (gModel_s ha) 9 (by decide) kf_12_102 rfl dX12_taxiRead_118 ?_
      refine zk_iload_n (pc := 121) B dX12_taxiRead_121 5 rfl rfl ?_
      refine zk_iast (pc := 122) B (gModel_t13 ha) dX12_taxiRead_122 ?_
      refine zk_lm (fun M16 => ?_)
      refine zk_aload_n (pc := 123) B dX12_taxiRead_123 2 rfl rfl ?_
      refine zk_getr (pc := 124) B kx_12 (gModel_s ha) 2 (by decide) kf_12_13 rfl (gModel_f2 ha) dX12_taxiRead_124 ?_
      refine zk_iload (pc := 127) B dX12_taxiRead_127 0 rfl ?_
      refine zk_iconst (v := 0) (pc := 129) B dX12_taxiRead_129 (by decide) ?_
      refine zk_iadd (pc := 130) B dX12_taxiRead_130 ?_
      refine zk_iload_n (pc := 131) B dX12_taxiRead_131 4 rfl rfl ?_
      refine zk_iast (pc := 132) B (gModel_t2 ha) dX12_taxiRead_132 ?_
      refine zk_lm (fun M17 => ?_)
      refine zk_aload_n (pc := 133) B dX12_taxiRead_133 2 rfl rfl ?_
      refine zk_getr (pc := 134) B kx_12 (gModel_s ha) 2 (by decide) kf_12_13 rfl (gModel_f2 ha) dX12_taxiRead_134 ?_
      refine zk_iload (pc := 137) B dX12_taxiRead_137 0 rfl ?_
      refine zk_iconst (v := 1) (pc := 139) B dX12_taxiRead_139 (by decide) ?_
      refine zk_iadd (pc := 140) B dX12_taxiRead_140 ?_
      refine zk_iload_n (pc := 141) B dX12_taxiRead_141 5 rfl rfl ?_
      refine zk_iast (pc := 142) B (gModel_t2 ha) dX12_taxiRead_142 ?_
      refine zk_lm (fun M18 => ?_)
      refine zk_aload_n (pc := 143) B dX12_taxiRead_143 2 rfl rfl ?_
      refine zk_getr (pc := 144) B kx_12 (gModel_s ha) 2 (by decide) kf_12_13 rfl (gModel_f2 ha) dX12_taxiRead_144 ?_
      refine zk_iload (pc := 147) B dX12_taxiRead_147 0 rfl ?_
      refine zk_iconst (v := 3) (pc := 149) B dX12_taxiRead_149 (by decide) ?_
      refine zk_iadd (pc := 150) B dX12_taxiRead_150 ?_
      refine zk_iconst (v := (-1)) (pc := 151) B dX12_taxiRead_151 (by decide) ?_
      refine zk_iast (pc := 152) B (gModel_t2 ha) dX12_taxiRead_152 ?_
      refine zk_lm (fun M19 => ?_)
      refine zk_aload_n (pc := 153) B dX12_taxiRead_153 2 rfl rfl ?_
      refine zk_getr (pc := 154) B kx_12 (gModel_s ha) 2 (by decide) kf_12_13 rfl (gModel_f2 ha) dX12_taxiRead_154 ?_
      refine zk_iload (pc := 157) B dX12_taxiRead_157 0 rfl ?_
      refine zk_iconst (v := 4) (pc := 159) B dX12_taxiRead_159 (by decide) ?_
      refine zk_iadd (pc := 160) B dX12_taxiRead_160 ?_
      refine zk_iload (pc := 161) B dX12_taxiRead_161 1 rfl ?_
      refine zk_iast (pc := 163) B (gModel_t2 ha) dX12_taxiRead_163 ?_
      refine zk_lm (fun M20 => ?_)
      refine zk_aload_n (pc := 164) B dX12_taxiRead_164 2 rfl rfl ?_
      refine zk_dup (pc := 165) B dX12_taxiRead_165 rfl ?_
      refine zk_geti (pc := 166) B kx_12 (gModel_s ha) 9 (by decide) kf_12_102 rfl dX12_taxiRead_166 ?_
      refine zk_iconst (v := 1) (pc := 169) B dX12_taxiRead_169 (by decide) ?_
      refine zk_iadd (pc := 170) B dX12_taxiRead_170 ?_
      refine zk_puti (pc := 171) B kx_12 (gModel_s ha) 9 (by decide) kf_12_102 rfl rfl rfl rfl dX12_taxiRead_171 ?_
      refine zk_lm (fun M21 => ?_)
      exact zk_vret (pc := 174) B dX12_taxiRead_174 rfl (Nat.le_of_ble_eq_true rfl) (Nat.le_of_ble_eq_true rfl) rfl
    · exact zk_vret (pc := 90) B dX12_taxiRead_90 rfl (Nat.le_of_ble_eq_true rfl) (Nat.le_of_ble_eq_true rfl) rfl
  show z_K X F 6 0 0 G z_cvm b 0 0 0 [(0, .ref a)] [] M (F_Model_taxiRead a M)
  unfold F_Model_taxiRead
  refine zk_aload_n (pc := 0) B dX12_taxiRead_0 0 rfl rfl ?_
  refine zk_iconst (v := 1) (pc := 1) B dX12_taxiRead_1 (by decide) ?_
  refine zk_bipush (v := 6) (pc := 2) B dX12_taxiRead_2 (by decide) ?_
  refine zk_cim (pc := 4) (k' := 0) (n' := 0) B rfl rfl (Nat.le_of_ble_eq_true rfl) (Nat.le_of_ble_eq_true rfl) (fun b hb => zr_V B hR kV_yX12_number km_12_215 kx_12 (gModel_s ha) [.int 1, .int 6] rfl rfl (Nat.le_of_ble_eq_true rfl) dX12_taxiRead_4 (m_Model_number hX ha 1 6 M b hb) ⟨Nat.le_of_ble_eq_true rfl, Nat.le_of_ble_eq_true rfl⟩ ⟨Nat.le_of_ble_eq_true rfl, Nat.le_of_ble_eq_true rfl⟩) (fun x2 M1 => ?_)
  refine zk_istore_n (loc' := [(1, .int x2), (0, .ref a)]) (pc := 7) B dX12_taxiRead_7 rfl (by decide) rfl ?_
  refine zk_aload_n (pc := 8) B dX12_taxiRead_8 1 rfl rfl ?_
  refine zk_iconst (v := 0) (pc := 9) B dX12_taxiRead_9 (by decide) ?_
  refine zk_aload_n (pc := 10) B dX12_taxiRead_10 1 rfl rfl ?_
  refine zk_geti (pc := 11) B kx_12 (gModel_s ha) 7 (by decide) kf_12_96 rfl dX12_taxiRead_11 ?_
  refine zk_iconst (v := 1) (pc := 14) B dX12_taxiRead_14 (by decide) ?_
  refine zk_isub (pc := 15) B dX12_taxiRead_15 ?_
  refine zk_cim (pc := 16) (k' := 0) (n' := 0) B rfl rfl (Nat.le_of_ble_eq_true rfl) (Nat.le_of_ble_eq_true rfl) (fun b hb => zr_V B hR kV_yX12_number km_12_215 kx_12 (gModel_s ha) [.int 0, .int ((M1.1 a 7) - 1)] rfl rfl (Nat.le_of_ble_eq_true rfl) dX12_taxiRead_16 (m_Model_number hX ha 0 ((M1.1 a 7) - 1) M1 b hb) ⟨Nat.le_of_ble_eq_true rfl, Nat.le_of_ble_eq_true rfl⟩ ⟨Nat.le_of_ble_eq_true rfl, Nat.le_of_ble_eq_true rfl⟩) (fun x4 M3 => ?_)
  refine zk_istore_n (loc' := [(2, .int x4), (1, .int x2), (0, .ref a)]) (pc := 19) B dX12_taxiRead_19 rfl (by decide) rfl ?_
  refine zk_aload_n (pc := 20) B dX12_taxiRead_20 2 rfl rfl ?_
  refine zk_iconst (v := 0) (pc := 21) B dX12_taxiRead_21 (by decide) ?_
  refine zk_sipush (v := 2879) (pc := 22) B dX12_taxiRead_22 (by decide) ?_
  refine zk_cim (pc := 25) (k' := 0) (n' := 0) B rfl rfl (Nat.le_of_ble_eq_true rfl) (Nat.le_of_ble_eq_true rfl) (fun b hb => zr_V B hR kV_yX12_number km_12_215 kx_12 (gModel_s ha) [.int 0, .int 2879] rfl rfl (Nat.le_of_ble_eq_true rfl) dX12_taxiRead_25 (m_Model_number hX ha 0 2879 M3 b hb) ⟨Nat.le_of_ble_eq_true rfl, Nat.le_of_ble_eq_true rfl⟩ ⟨Nat.le_of_ble_eq_true rfl, Nat.le_of_ble_eq_true rfl⟩) (fun x6 M5 => ?_)
  refine zk_istore_n (loc' := [(3, .int x6), (2, .int x4), (1, .int x2), (0, .ref a)]) (pc := 28) B dX12_taxiRead_28 rfl (by decide) rfl ?_
  refine zk_aload_n (pc := 29) B dX12_taxiRead_29 3 rfl rfl ?_
  refine zk_cpi (pc := 30) (k' := 0) (n' := 0) B rfl rfl (Nat.le_of_ble_eq_true rfl) (Nat.le_of_ble_eq_true rfl) (fun b hb => zr_V B hR kV_yX12_isGood km_12_183 kx_12 (gModel_s ha) [] rfl rfl (Nat.le_of_ble_eq_true rfl) dX12_taxiRead_30 (m_Model_isGood hX ha M5 b hb) ⟨Nat.le_of_ble_eq_true rfl, Nat.le_of_ble_eq_true rfl⟩ ⟨Nat.le_of_ble_eq_true rfl, Nat.le_of_ble_eq_true rfl⟩) (fun x7 _ => ?_)
  refine zk_if_eq (tgt := 73) (pc := 33) B dX12_taxiRead_33 (by decide) (fun _ => ?_) (fun _ => ?_)
  · refine zk_sub [3, 2, 1, 0] rfl ?_
    exact J73 x2 x4 x6 M5
  · refine zk_aload_n (pc := 36) B dX12_taxiRead_36 3 rfl rfl ?_
    refine zk_geti (pc := 37) B kx_12 (gModel_s ha) 27 (by decide) kf_12_161 rfl dX12_taxiRead_37 ?_
    refine zk_iconst (v := 2) (pc := 40) B dX12_taxiRead_40 (by decide) ?_
    refine zk_icmp_ne (tgt := 73) (pc := 41) B dX12_taxiRead_41 (by decide) (fun _ => ?_) (fun _ => ?_)
    · refine zk_sub [3, 2, 1, 0] rfl ?_
      exact J73 x2 x4 x6 M5
    · refine zk_aload_n (pc := 44) B dX12_taxiRead_44 3 rfl rfl ?_
      refine zk_geti (pc := 45) B kx_12 (gModel_s ha) 28 (by decide) kf_12_164 rfl dX12_taxiRead_45 ?_
      refine zk_i2l (pc := 48) B dX12_taxiRead_48 ?_
      refine zk_lconst (v := 0) (pc := 49) B dX12_taxiRead_49 (by decide) ?_
      refine zk_ldc2 (pc := 50) B kl_12_219 dX12_taxiRead_50 ?_
      refine zk_cpi (pc := 53) (k' := 0) (n' := 0) B rfl rfl (Nat.le_of_ble_eq_true rfl) (Nat.le_of_ble_eq_true rfl) (fun b hb => zr_S B hR kS_yX12_in km_12_197 [.long ((M5.1 a 28).toInt64), .long 0, .long 2879] rfl rfl (Nat.le_of_ble_eq_true rfl) dX12_taxiRead_53 (m_Model_in hX ((M5.1 a 28).toInt64) 0 2879 M5 b hb) ⟨Nat.le_of_ble_eq_true rfl, Nat.le_of_ble_eq_true rfl⟩ ⟨Nat.le_of_ble_eq_true rfl, Nat.le_of_ble_eq_true rfl⟩) (fun x8 _ => ?_)
      refine zk_if_eq (tgt := 73) (pc := 56) B dX12_taxiRead_56 (by decide) (fun _ => ?_) (fun _ => ?_)
      · refine zk_sub [3, 2, 1, 0] rfl ?_
        exact J73 x2 x4 x6 M5
      · refine zk_aload_n (pc := 59) B dX12_taxiRead_59 3 rfl rfl ?_
        refine zk_geti (pc := 60) B kx_12 (gModel_s ha) 28 (by decide) kf_12_164 rfl dX12_taxiRead_60 ?_
        refine zk_iload_n (pc := 63) B dX12_taxiRead_63 0 rfl rfl ?_
        refine zk_icmp_gt (tgt := 73) (pc := 64) B dX12_taxiRead_64 (by decide) (fun _ => ?_) (fun _ => ?_)
        · refine zk_sub [3, 2, 1, 0] rfl ?_
          exact J73 x2 x4 x6 M5
        · refine zk_aload_n (pc := 67) B dX12_taxiRead_67 3 rfl rfl ?_
          refine zk_iconst (v := 4) (pc := 68) B dX12_taxiRead_68 (by decide) ?_
          refine zk_cim (pc := 69) (k' := 0) (n' := 0) B rfl rfl (Nat.le_of_ble_eq_true rfl) (Nat.le_of_ble_eq_true rfl) (fun b hb => zr_V B hR kV_yX12_wrongs km_12_194 kx_12 (gModel_s ha) [.int 4] rfl rfl (Nat.le_of_ble_eq_true rfl) dX12_taxiRead_69 (m_Model_wrongs hX ha 4 M5 b hb) ⟨Nat.le_of_ble_eq_true rfl, Nat.le_of_ble_eq_true rfl⟩ ⟨Nat.le_of_ble_eq_true rfl, Nat.le_of_ble_eq_true rfl⟩) (fun x10 M9 => ?_)
          refine zk_pop (pc := 72) B dX12_taxiRead_72 rfl ?_
          refine zk_sub [3, 2, 1, 0] rfl ?_
          exact J73 x2 x4 x6 M9
set_option maxHeartbeats 4000000 in
set_option maxRecDepth 100000 in
theorem m_Model_ruleRead {X : z_X} (hX : z_ok X) {G : z_Gr} {a : Nat} (ha : g_Model G a) (M : z_Mem) (b : z_Mem) (h : F_Model_ruleRead a M = some b) : z_Ct X yX12_ruleRead cX12_ruleRead 3 none ({ frames := 4, cells := 0, slots := 0, locals := 84 } : Room) [.ref a] G M (fun o9 G9 M9 => G9 = G ∧ (o9, M9) = z_cvm b) := by
  refine z_enter hX (by decide) (Nat.le_of_ble_eq_true rfl) h (fun F B hR => ?_)
  show z_K X F 3 0 0 G z_cvm b 0 0 0 [(0, .ref a)] [] M (F_Model_ruleRead a M)
  unfold F_Model_ruleRead
  refine zk_aload_n (pc := 0) B dX12_ruleRead_0 0 rfl rfl ?_
  refine zk_cpi (pc := 1) (k' := 0) (n' := 0) B rfl rfl (Nat.le_of_ble_eq_true rfl) (Nat.le_of_ble_eq_true rfl) (fun b hb => zr_V B hR kV_yX12_ruleHere km_12_221 kx_12 (gModel_s ha) [] rfl rfl (Nat.le_of_ble_eq_true rfl) dX12_ruleRead_1 (m_Model_ruleHere hX ha M b hb) ⟨Nat.le_of_ble_eq_true rfl, Nat.le_of_ble_eq_true rfl⟩ ⟨Nat.le_of_ble_eq_true rfl, Nat.le_of_ble_eq_true rfl⟩) (fun x1 _ => ?_)
  refine zk_istore_n (loc' := [(1, .int x1), (0, .ref a)]) (pc := 4) B dX12_ruleRead_4 rfl (by decide) rfl ?_
  refine zk_iload_n (pc := 5) B dX12_ruleRead_5 0 rfl rfl ?_
  refine zk_iconst (v := (-1)) (pc := 6) B dX12_ruleRead_6 (by decide) ?_
  refine zk_icmp_ne (tgt := 17) (pc := 7) B dX12_ruleRead_7 (by decide) (fun _ => ?_) (fun _ => ?_)
  · refine zk_aload_n (pc := 17) B dX12_ruleRead_17 1 rfl rfl ?_
    refine zk_cvm (pc := 18) (k' := 0) (n' := 0) B rfl rfl (Nat.le_of_ble_eq_true rfl) (Nat.le_of_ble_eq_true rfl) (fun b hb => zr_V B hR kV_yX12_next km_12_180 kx_12 (gModel_s ha) [] rfl rfl (Nat.le_of_ble_eq_true rfl) dX12_ruleRead_18 (m_Model_next hX ha M b hb) ⟨Nat.le_of_ble_eq_true rfl, Nat.le_of_ble_eq_true rfl⟩ ⟨Nat.le_of_ble_eq_true rfl, Nat.le_of_ble_eq_true rfl⟩) (fun M2 => ?_)
    refine zk_aload_n (pc := 21) B dX12_ruleRead_21 1 rfl rfl ?_
    refine zk_iload_n (pc := 22) B dX12_ruleRead_22 0 rfl rfl ?_
    refine zk_cpi (pc := 23) (k' := 0) (n' := 0) B rfl rfl (Nat.le_of_ble_eq_true rfl) (Nat.le_of_ble_eq_true rfl) (fun b hb => zr_S B hR kS_yX12_least km_12_225 [.int x1] rfl rfl (Nat.le_of_ble_eq_true rfl) dX12_ruleRead_23 (m_Model_least hX x1 M2 b hb) ⟨Nat.le_of_ble_eq_true rfl, Nat.le_of_ble_eq_true rfl⟩ ⟨Nat.le_of_ble_eq_true rfl, Nat.le_of_ble_eq_true rfl⟩) (fun x3 _ => ?_)
    refine zk_iload_n (pc := 26) B dX12_ruleRead_26 0 rfl rfl ?_
    refine zk_cpi (pc := 27) (k' := 0) (n' := 0) B rfl rfl (Nat.le_of_ble_eq_true rfl) (Nat.le_of_ble_eq_true rfl) (fun b hb => zr_S B hR kS_yX12_most km_12_228 [.int x1] rfl rfl (Nat.le_of_ble_eq_true rfl) dX12_ruleRead_27 (m_Model_most hX x1 M2 b hb) ⟨Nat.le_of_ble_eq_true rfl, Nat.le_of_ble_eq_true rfl⟩ ⟨Nat.le_of_ble_eq_true rfl, Nat.le_of_ble_eq_true rfl⟩) (fun x4 _ => ?_)
    refine zk_cim (pc := 30) (k' := 0) (n' := 0) B rfl rfl (Nat.le_of_ble_eq_true rfl) (Nat.le_of_ble_eq_true rfl) (fun b hb => zr_V B hR kV_yX12_number km_12_215 kx_12 (gModel_s ha) [.int x3, .int x4] rfl rfl (Nat.le_of_ble_eq_true rfl) dX12_ruleRead_30 (m_Model_number hX ha x3 x4 M2 b hb) ⟨Nat.le_of_ble_eq_true rfl, Nat.le_of_ble_eq_true rfl⟩ ⟨Nat.le_of_ble_eq_true rfl, Nat.le_of_ble_eq_true rfl⟩) (fun x6 M5 => ?_)
    refine zk_istore_n (loc' := [(2, .int x6), (1, .int x1), (0, .ref a)]) (pc := 33) B dX12_ruleRead_33 rfl (by decide) rfl ?_
    refine zk_aload_n (pc := 34) B dX12_ruleRead_34 2 rfl rfl ?_
    refine zk_cpi (pc := 35) (k' := 0) (n' := 0) B rfl rfl (Nat.le_of_ble_eq_true rfl) (Nat.le_of_ble_eq_true rfl) (fun b hb => zr_V B hR kV_yX12_isGood km_12_183 kx_12 (gModel_s ha) [] rfl rfl (Nat.le_of_ble_eq_true rfl) dX12_ruleRead_35 (m_Model_isGood hX ha M5 b hb) ⟨Nat.le_of_ble_eq_true rfl, Nat.le_of_ble_eq_true rfl⟩ ⟨Nat.le_of_ble_eq_true rfl, Nat.le_of_ble_eq_true rfl⟩) (fun x7 _ => ?_)
    refine zk_if_eq (tgt := 50) (pc := 38) B dX12_ruleRead_38 (by decide) (fun _ => ?_) (fun _ => ?_)
    · exact zk_vret (pc := 50) B dX12_ruleRead_50 rfl (Nat.le_of_ble_eq_true rfl) (Nat.le_of_ble_eq_true rfl) rfl
    · refine zk_aload_n (pc := 41) B dX12_ruleRead_41 2 rfl rfl ?_
      refine zk_getr (pc := 42) B kx_12 (gModel_s ha) 2 (by decide) kf_12_13 rfl (gModel_f2 ha) dX12_ruleRead_42 ?_
      refine zk_iconst (v := 3) (pc := 45) B dX12_ruleRead_45 (by decide) ?_
      refine zk_iload_n (pc := 46) B dX12_ruleRead_46 1 rfl rfl ?_
      refine zk_iadd (pc := 47) B dX12_ruleRead_47 ?_
      refine zk_iload_n (pc := 48) B dX12_ruleRead_48 0 rfl rfl ?_
      refine zk_iast (pc := 49) B (gModel_t2 ha) dX12_ruleRead_49 ?_
      refine zk_lm (fun M8 => ?_)
      exact zk_vret (pc := 50) B dX12_ruleRead_50 rfl (Nat.le_of_ble_eq_true rfl) (Nat.le_of_ble_eq_true rfl) rfl
  · refine zk_aload_n (pc := 10) B dX12_ruleRead_10 1 rfl rfl ?_
    refine zk_iconst (v := 1) (pc := 11) B dX12_ruleRead_11 (by decide) ?_
    refine zk_cim (pc := 12) (k' := 0) (n' := 0) B rfl rfl (Nat.le_of_ble_eq_true rfl) (Nat.le_of_ble_eq_true rfl) (fun b hb => zr_V B hR kV_yX12_wrongs km_12_194 kx_12 (gModel_s ha) [.int 1] rfl rfl (Nat.le_of_ble_eq_true rfl) dX12_ruleRead_12 (m_Model_wrongs hX ha 1 M b hb) ⟨Nat.le_of_ble_eq_true rfl, Nat.le_of_ble_eq_true rfl⟩ ⟨Nat.le_of_ble_eq_true rfl, Nat.le_of_ble_eq_true rfl⟩) (fun x10 M9 => ?_)
    refine zk_pop (pc := 15) B dX12_ruleRead_15 rfl ?_
    exact zk_vret (pc := 16) B dX12_ruleRead_16 rfl (Nat.le_of_ble_eq_true rfl) (Nat.le_of_ble_eq_true rfl) rfl
set_option maxHeartbeats 4000000 in
set_option maxRecDepth 100000 in
theorem m_Model_clauseRead {X : z_X} (hX : z_ok X) {G : z_Gr} {a : Nat} (ha : g_Model G a) (M : z_Mem) (b : z_Mem) (h : F_Model_clauseRead a M = some b) : z_Ct X yX12_clauseRead cX12_clauseRead 3 none ({ frames := 5, cells := 0, slots := 0, locals := 109 } : Room) [.ref a] G M (fun o9 G9 M9 => G9 = G ∧ (o9, M9) = z_cvm b) := by
  refine z_enter hX (by decide) (Nat.le_of_ble_eq_true rfl) h (fun F B hR => ?_)
  have J185 : ∀  (M : z_Mem), z_K X F 3 0 0 G z_cvm b 0 0 185 [(0, .ref a)] [] M (F_Model_clauseRead_J185 a M) := by
    intro  M
    unfold F_Model_clauseRead_J185
    refine zk_aload_n (pc := 185) B dX12_clauseRead_185 0 rfl rfl ?_
    refine zk_bipush (v := 59) (pc := 186) B dX12_clauseRead_186 (by decide) ?_
    refine zk_cvm (pc := 188) (k' := 0) (n' := 0) B rfl rfl (Nat.le_of_ble_eq_true rfl) (Nat.le_of_ble_eq_true rfl) (fun b hb => zr_V B hR kV_yX12_must km_12_253 kx_12 (gModel_s ha) [.int 59] rfl rfl (Nat.le_of_ble_eq_true rfl) dX12_clauseRead_188 (m_Model_must hX ha 59 M b hb) ⟨Nat.le_of_ble_eq_true rfl, Nat.le_of_ble_eq_true rfl⟩ ⟨Nat.le_of_ble_eq_true rfl, Nat.le_of_ble_eq_true rfl⟩) (fun M28 => ?_)
    exact zk_vret (pc := 191) B dX12_clauseRead_191 rfl (Nat.le_of_ble_eq_true rfl) (Nat.le_of_ble_eq_true rfl) rfl
  have J159 : ∀  (M : z_Mem), z_K X F 3 0 0 G z_cvm b 0 0 159 [(0, .ref a)] [] M (F_Model_clauseRead_J159 a M) := by
    intro  M
    unfold F_Model_clauseRead_J159
    refine zk_goto (tgt := 185) (pc := 159) B dX12_clauseRead_159 (by decide) ?_
    exact J185 M
  have J112 : ∀  (M : z_Mem), z_K X F 3 0 0 G z_cvm b 0 0 112 [(0, .ref a)] [] M (F_Model_clauseRead_J112 a M) := by
    intro  M
    unfold F_Model_clauseRead_J112
    refine zk_goto (tgt := 185) (pc := 112) B dX12_clauseRead_112 (by decide) ?_
    exact J185 M
  have J98 : ∀ (v2 : Int32) (M : z_Mem), z_K X F 3 0 0 G z_cvm b 0 0 98 [(0, .ref a), (2, .int v2)] [] M (F_Model_clauseRead_J98 a v2 M) := by
    intro v2 M
    unfold F_Model_clauseRead_J98
    refine zk_aload_n (pc := 98) B dX12_clauseRead_98 0 rfl rfl ?_
    refine zk_cpi (pc := 99) (k' := 0) (n' := 0) B rfl rfl (Nat.le_of_ble_eq_true rfl) (Nat.le_of_ble_eq_true rfl) (fun b hb => zr_V B hR kV_yX12_isGood km_12_183 kx_12 (gModel_s ha) [] rfl rfl (Nat.le_of_ble_eq_true rfl) dX12_clauseRead_99 (m_Model_isGood hX ha M b hb) ⟨Nat.le_of_ble_eq_true rfl, Nat.le_of_ble_eq_true rfl⟩ ⟨Nat.le_of_ble_eq_true rfl, Nat.le_of_ble_eq_true rfl⟩) (fun x29 _ => ?_)
    refine zk_if_eq (tgt := 112) (pc := 102) B dX12_clauseRead_102 (by decide) (fun _ => ?_) (fun _ => ?_)
    · refine zk_sub [0] rfl ?_
      exact J112 M
    · refine zk_aload_n (pc := 105) B dX12_clauseRead_105 0 rfl rfl ?_
      refine zk_getr (pc := 106) B kx_12 (gModel_s ha) 2 (by decide) kf_12_13 rfl (gModel_f2 ha) dX12_clauseRead_106 ?_
      refine zk_iconst (v := 2) (pc := 109) B dX12_clauseRead_109 (by decide) ?_
      refine zk_iload_n (pc := 110) B dX12_clauseRead_110 1 rfl rfl ?_
      refine zk_iast (pc := 111) B (gModel_t2 ha) dX12_clauseRead_111 ?_
      refine zk_lm (fun M30 => ?_)
      refine zk_sub [0] rfl ?_
      exact J112 M30
  have J41 : ∀  (M : z_Mem), z_K X F 3 0 0 G z_cvm b 0 0 41 [(0, .ref a)] [] M (F_Model_clauseRead_J41 a M) := by
    intro  M
    unfold F_Model_clauseRead_J41
    refine zk_aload_n (pc := 41) B dX12_clauseRead_41 0 rfl rfl ?_
    refine zk_ldc2 (pc := 42) B kl_12_239 dX12_clauseRead_42 ?_
    refine zk_cim (pc := 45) (k' := 0) (n' := 0) B rfl rfl (Nat.le_of_ble_eq_true rfl) (Nat.le_of_ble_eq_true rfl) (fun b hb => zr_V B hR kV_yX12_passes km_12_233 kx_12 (gModel_s ha) [.long 395046] rfl rfl (Nat.le_of_ble_eq_true rfl) dX12_clauseRead_45 (m_Model_passes hX ha 395046 M b hb) ⟨Nat.le_of_ble_eq_true rfl, Nat.le_of_ble_eq_true rfl⟩ ⟨Nat.le_of_ble_eq_true rfl, Nat.le_of_ble_eq_true rfl⟩) (fun x32 M31 => ?_)
    refine zk_if_eq (tgt := 185) (pc := 48) B dX12_clauseRead_48 (by decide) (fun _ => ?_) (fun _ => ?_)
    · exact J185 M31
    · refine zk_aload_n (pc := 51) B dX12_clauseRead_51 0 rfl rfl ?_
      refine zk_cvm (pc := 52) (k' := 0) (n' := 0) B rfl rfl (Nat.le_of_ble_eq_true rfl) (Nat.le_of_ble_eq_true rfl) (fun b hb => zr_V B hR kV_yX12_taxiRead km_12_241 kx_12 (gModel_s ha) [] rfl rfl (Nat.le_of_ble_eq_true rfl) dX12_clauseRead_52 (m_Model_taxiRead hX ha M31 b hb) ⟨Nat.le_of_ble_eq_true rfl, Nat.le_of_ble_eq_true rfl⟩ ⟨Nat.le_of_ble_eq_true rfl, Nat.le_of_ble_eq_true rfl⟩) (fun M33 => ?_)
      refine zk_goto (tgt := 185) (pc := 55) B dX12_clauseRead_55 (by decide) ?_
      exact J185 M33
  show z_K X F 3 0 0 G z_cvm b 0 0 0 [(0, .ref a)] [] M (F_Model_clauseRead a M)
  unfold F_Model_clauseRead
  refine zk_aload_n (pc := 0) B dX12_clauseRead_0 0 rfl rfl ?_
  refine zk_ldc2 (pc := 1) B kl_12_231 dX12_clauseRead_1 ?_
  refine zk_cim (pc := 4) (k' := 0) (n' := 0) B rfl rfl (Nat.le_of_ble_eq_true rfl) (Nat.le_of_ble_eq_true rfl) (fun b hb => zr_V B hR kV_yX12_passes km_12_233 kx_12 (gModel_s ha) [.long 365260] rfl rfl (Nat.le_of_ble_eq_true rfl) dX12_clauseRead_4 (m_Model_passes hX ha 365260 M b hb) ⟨Nat.le_of_ble_eq_true rfl, Nat.le_of_ble_eq_true rfl⟩ ⟨Nat.le_of_ble_eq_true rfl, Nat.le_of_ble_eq_true rfl⟩) (fun x2 M1 => ?_)
  refine zk_if_eq (tgt := 17) (pc := 7) B dX12_clauseRead_7 (by decide) (fun _ => ?_) (fun _ => ?_)
  · refine zk_aload_n (pc := 17) B dX12_clauseRead_17 0 rfl rfl ?_
    refine zk_ldc2 (pc := 18) B kl_12_239 dX12_clauseRead_18 ?_
    refine zk_cpi (pc := 21) (k' := 0) (n' := 0) B rfl rfl (Nat.le_of_ble_eq_true rfl) (Nat.le_of_ble_eq_true rfl) (fun b hb => zr_V B hR kV_yX12_isWord km_12_187 kx_12 (gModel_s ha) [.long 395046] rfl rfl (Nat.le_of_ble_eq_true rfl) dX12_clauseRead_21 (m_Model_isWord hX ha 395046 M1 b hb) ⟨Nat.le_of_ble_eq_true rfl, Nat.le_of_ble_eq_true rfl⟩ ⟨Nat.le_of_ble_eq_true rfl, Nat.le_of_ble_eq_true rfl⟩) (fun x3 _ => ?_)
    refine zk_if_eq (tgt := 58) (pc := 24) B dX12_clauseRead_24 (by decide) (fun _ => ?_) (fun _ => ?_)
    · refine zk_aload_n (pc := 58) B dX12_clauseRead_58 0 rfl rfl ?_
      refine zk_ldc2 (pc := 59) B kl_12_244 dX12_clauseRead_59 ?_
      refine zk_cim (pc := 62) (k' := 0) (n' := 0) B rfl rfl (Nat.le_of_ble_eq_true rfl) (Nat.le_of_ble_eq_true rfl) (fun b hb => zr_V B hR kV_yX12_passes km_12_233 kx_12 (gModel_s ha) [.long 287870604] rfl rfl (Nat.le_of_ble_eq_true rfl) dX12_clauseRead_62 (m_Model_passes hX ha 287870604 M1 b hb) ⟨Nat.le_of_ble_eq_true rfl, Nat.le_of_ble_eq_true rfl⟩ ⟨Nat.le_of_ble_eq_true rfl, Nat.le_of_ble_eq_true rfl⟩) (fun x5 M4 => ?_)
      refine zk_if_eq (tgt := 115) (pc := 65) B dX12_clauseRead_65 (by decide) (fun _ => ?_) (fun _ => ?_)
      · refine zk_aload_n (pc := 115) B dX12_clauseRead_115 0 rfl rfl ?_
        refine zk_ldc2 (pc := 116) B kl_12_246 dX12_clauseRead_116 ?_
        refine zk_cim (pc := 119) (k' := 0) (n' := 0) B rfl rfl (Nat.le_of_ble_eq_true rfl) (Nat.le_of_ble_eq_true rfl) (fun b hb => zr_V B hR kV_yX12_passes km_12_233 kx_12 (gModel_s ha) [.long 45602731721] rfl rfl (Nat.le_of_ble_eq_true rfl) dX12_clauseRead_119 (m_Model_passes hX ha 45602731721 M4 b hb) ⟨Nat.le_of_ble_eq_true rfl, Nat.le_of_ble_eq_true rfl⟩ ⟨Nat.le_of_ble_eq_true rfl, Nat.le_of_ble_eq_true rfl⟩) (fun x7 M6 => ?_)
        refine zk_if_eq (tgt := 162) (pc := 122) B dX12_clauseRead_122 (by decide) (fun _ => ?_) (fun _ => ?_)
        · refine zk_aload_n (pc := 162) B dX12_clauseRead_162 0 rfl rfl ?_
          refine zk_ldc2 (pc := 163) B kl_12_248 dX12_clauseRead_163 ?_
          refine zk_cim (pc := 166) (k' := 0) (n' := 0) B rfl rfl (Nat.le_of_ble_eq_true rfl) (Nat.le_of_ble_eq_true rfl) (fun b hb => zr_V B hR kV_yX12_passes km_12_233 kx_12 (gModel_s ha) [.long 369932] rfl rfl (Nat.le_of_ble_eq_true rfl) dX12_clauseRead_166 (m_Model_passes hX ha 369932 M6 b hb) ⟨Nat.le_of_ble_eq_true rfl, Nat.le_of_ble_eq_true rfl⟩ ⟨Nat.le_of_ble_eq_true rfl, Nat.le_of_ble_eq_true rfl⟩) (fun x9 M8 => ?_)
          refine zk_if_eq (tgt := 179) (pc := 169) B dX12_clauseRead_169 (by decide) (fun _ => ?_) (fun _ => ?_)
          · refine zk_aload_n (pc := 179) B dX12_clauseRead_179 0 rfl rfl ?_
            refine zk_iconst (v := 1) (pc := 180) B dX12_clauseRead_180 (by decide) ?_
            refine zk_cim (pc := 181) (k' := 0) (n' := 0) B rfl rfl (Nat.le_of_ble_eq_true rfl) (Nat.le_of_ble_eq_true rfl) (fun b hb => zr_V B hR kV_yX12_wrongs km_12_194 kx_12 (gModel_s ha) [.int 1] rfl rfl (Nat.le_of_ble_eq_true rfl) dX12_clauseRead_181 (m_Model_wrongs hX ha 1 M8 b hb) ⟨Nat.le_of_ble_eq_true rfl, Nat.le_of_ble_eq_true rfl⟩ ⟨Nat.le_of_ble_eq_true rfl, Nat.le_of_ble_eq_true rfl⟩) (fun x11 M10 => ?_)
            refine zk_pop (pc := 184) B dX12_clauseRead_184 rfl ?_
            exact J185 M10
          · refine zk_aload_n (pc := 172) B dX12_clauseRead_172 0 rfl rfl ?_
            refine zk_cvm (pc := 173) (k' := 0) (n' := 0) B rfl rfl (Nat.le_of_ble_eq_true rfl) (Nat.le_of_ble_eq_true rfl) (fun b hb => zr_V B hR kV_yX12_ruleRead km_12_250 kx_12 (gModel_s ha) [] rfl rfl (Nat.le_of_ble_eq_true rfl) dX12_clauseRead_173 (m_Model_ruleRead hX ha M8 b hb) ⟨Nat.le_of_ble_eq_true rfl, Nat.le_of_ble_eq_true rfl⟩ ⟨Nat.le_of_ble_eq_true rfl, Nat.le_of_ble_eq_true rfl⟩) (fun M12 => ?_)
            refine zk_goto (tgt := 185) (pc := 176) B dX12_clauseRead_176 (by decide) ?_
            exact J185 M12
        · refine zk_aload_n (pc := 125) B dX12_clauseRead_125 0 rfl rfl ?_
          refine zk_iconst (v := 2) (pc := 126) B dX12_clauseRead_126 (by decide) ?_
          refine zk_iconst (v := 4) (pc := 127) B dX12_clauseRead_127 (by decide) ?_
          refine zk_cim (pc := 128) (k' := 0) (n' := 0) B rfl rfl (Nat.le_of_ble_eq_true rfl) (Nat.le_of_ble_eq_true rfl) (fun b hb => zr_V B hR kV_yX12_number km_12_215 kx_12 (gModel_s ha) [.int 2, .int 4] rfl rfl (Nat.le_of_ble_eq_true rfl) dX12_clauseRead_128 (m_Model_number hX ha 2 4 M6 b hb) ⟨Nat.le_of_ble_eq_true rfl, Nat.le_of_ble_eq_true rfl⟩ ⟨Nat.le_of_ble_eq_true rfl, Nat.le_of_ble_eq_true rfl⟩) (fun x14 M13 => ?_)
          refine zk_istore_n (loc' := [(1, .int x14), (0, .ref a)]) (pc := 131) B dX12_clauseRead_131 rfl (by decide) rfl ?_
          refine zk_aload_n (pc := 132) B dX12_clauseRead_132 1 rfl rfl ?_
          refine zk_iconst (v := 0) (pc := 133) B dX12_clauseRead_133 (by decide) ?_
          refine zk_bipush (v := 90) (pc := 134) B dX12_clauseRead_134 (by decide) ?_
          refine zk_cim (pc := 136) (k' := 0) (n' := 0) B rfl rfl (Nat.le_of_ble_eq_true rfl) (Nat.le_of_ble_eq_true rfl) (fun b hb => zr_V B hR kV_yX12_number km_12_215 kx_12 (gModel_s ha) [.int 0, .int 90] rfl rfl (Nat.le_of_ble_eq_true rfl) dX12_clauseRead_136 (m_Model_number hX ha 0 90 M13 b hb) ⟨Nat.le_of_ble_eq_true rfl, Nat.le_of_ble_eq_true rfl⟩ ⟨Nat.le_of_ble_eq_true rfl, Nat.le_of_ble_eq_true rfl⟩) (fun x16 M15 => ?_)
          refine zk_istore_n (loc' := [(2, .int x16), (1, .int x14), (0, .ref a)]) (pc := 139) B dX12_clauseRead_139 rfl (by decide) rfl ?_
          refine zk_aload_n (pc := 140) B dX12_clauseRead_140 2 rfl rfl ?_
          refine zk_cpi (pc := 141) (k' := 0) (n' := 0) B rfl rfl (Nat.le_of_ble_eq_true rfl) (Nat.le_of_ble_eq_true rfl) (fun b hb => zr_V B hR kV_yX12_isGood km_12_183 kx_12 (gModel_s ha) [] rfl rfl (Nat.le_of_ble_eq_true rfl) dX12_clauseRead_141 (m_Model_isGood hX ha M15 b hb) ⟨Nat.le_of_ble_eq_true rfl, Nat.le_of_ble_eq_true rfl⟩ ⟨Nat.le_of_ble_eq_true rfl, Nat.le_of_ble_eq_true rfl⟩) (fun x17 _ => ?_)
          refine zk_if_eq (tgt := 159) (pc := 144) B dX12_clauseRead_144 (by decide) (fun _ => ?_) (fun _ => ?_)
          · refine zk_sub [2] rfl ?_
            exact J159 M15
          · refine zk_aload_n (pc := 147) B dX12_clauseRead_147 2 rfl rfl ?_
            refine zk_getr (pc := 148) B kx_12 (gModel_s ha) 2 (by decide) kf_12_13 rfl (gModel_f2 ha) dX12_clauseRead_148 ?_
            refine zk_bipush (v := 10) (pc := 151) B dX12_clauseRead_151 (by decide) ?_
            refine zk_iload_n (pc := 153) B dX12_clauseRead_153 1 rfl rfl ?_
            refine zk_iadd (pc := 154) B dX12_clauseRead_154 ?_
            refine zk_iconst (v := 2) (pc := 155) B dX12_clauseRead_155 (by decide) ?_
            refine zk_isub (pc := 156) B dX12_clauseRead_156 ?_
            refine zk_iload_n (pc := 157) B dX12_clauseRead_157 0 rfl rfl ?_
            refine zk_iast (pc := 158) B (gModel_t2 ha) dX12_clauseRead_158 ?_
            refine zk_lm (fun M18 => ?_)
            refine zk_sub [2] rfl ?_
            exact J159 M18
      · refine zk_aload_n (pc := 68) B dX12_clauseRead_68 0 rfl rfl ?_
        refine zk_iconst (v := 0) (pc := 69) B dX12_clauseRead_69 (by decide) ?_
        refine zk_sipush (v := 9999) (pc := 70) B dX12_clauseRead_70 (by decide) ?_
        refine zk_cim (pc := 73) (k' := 0) (n' := 0) B rfl rfl (Nat.le_of_ble_eq_true rfl) (Nat.le_of_ble_eq_true rfl) (fun b hb => zr_V B hR kV_yX12_number km_12_215 kx_12 (gModel_s ha) [.int 0, .int 9999] rfl rfl (Nat.le_of_ble_eq_true rfl) dX12_clauseRead_73 (m_Model_number hX ha 0 9999 M4 b hb) ⟨Nat.le_of_ble_eq_true rfl, Nat.le_of_ble_eq_true rfl⟩ ⟨Nat.le_of_ble_eq_true rfl, Nat.le_of_ble_eq_true rfl⟩) (fun x20 M19 => ?_)
        refine zk_istore_n (loc' := [(1, .int x20), (0, .ref a)]) (pc := 76) B dX12_clauseRead_76 rfl (by decide) rfl ?_
        refine zk_aload_n (pc := 77) B dX12_clauseRead_77 1 rfl rfl ?_
        refine zk_iconst (v := 0) (pc := 78) B dX12_clauseRead_78 (by decide) ?_
        refine zk_sipush (v := 999) (pc := 79) B dX12_clauseRead_79 (by decide) ?_
        refine zk_cim (pc := 82) (k' := 0) (n' := 0) B rfl rfl (Nat.le_of_ble_eq_true rfl) (Nat.le_of_ble_eq_true rfl) (fun b hb => zr_V B hR kV_yX12_number km_12_215 kx_12 (gModel_s ha) [.int 0, .int 999] rfl rfl (Nat.le_of_ble_eq_true rfl) dX12_clauseRead_82 (m_Model_number hX ha 0 999 M19 b hb) ⟨Nat.le_of_ble_eq_true rfl, Nat.le_of_ble_eq_true rfl⟩ ⟨Nat.le_of_ble_eq_true rfl, Nat.le_of_ble_eq_true rfl⟩) (fun x22 M21 => ?_)
        refine zk_istore_n (loc' := [(2, .int x22), (1, .int x20), (0, .ref a)]) (pc := 85) B dX12_clauseRead_85 rfl (by decide) rfl ?_
        refine zk_aload_n (pc := 86) B dX12_clauseRead_86 2 rfl rfl ?_
        refine zk_cpi (pc := 87) (k' := 0) (n' := 0) B rfl rfl (Nat.le_of_ble_eq_true rfl) (Nat.le_of_ble_eq_true rfl) (fun b hb => zr_V B hR kV_yX12_isGood km_12_183 kx_12 (gModel_s ha) [] rfl rfl (Nat.le_of_ble_eq_true rfl) dX12_clauseRead_87 (m_Model_isGood hX ha M21 b hb) ⟨Nat.le_of_ble_eq_true rfl, Nat.le_of_ble_eq_true rfl⟩ ⟨Nat.le_of_ble_eq_true rfl, Nat.le_of_ble_eq_true rfl⟩) (fun x23 _ => ?_)
        refine zk_if_eq (tgt := 98) (pc := 90) B dX12_clauseRead_90 (by decide) (fun _ => ?_) (fun _ => ?_)
        · refine zk_sub [2, 0] rfl ?_
          exact J98 x22 M21
        · refine zk_aload_n (pc := 93) B dX12_clauseRead_93 2 rfl rfl ?_
          refine zk_iload_n (pc := 94) B dX12_clauseRead_94 1 rfl rfl ?_
          refine zk_puti (pc := 95) B kx_12 (gModel_s ha) 10 (by decide) kf_12_105 rfl rfl rfl rfl dX12_clauseRead_95 ?_
          refine zk_lm (fun M24 => ?_)
          refine zk_sub [2, 0] rfl ?_
          exact J98 x22 M24
    · refine zk_aload_n (pc := 27) B dX12_clauseRead_27 0 rfl rfl ?_
      refine zk_geti (pc := 28) B kx_12 (gModel_s ha) 9 (by decide) kf_12_102 rfl dX12_clauseRead_28 ?_
      refine zk_iconst (v := 4) (pc := 31) B dX12_clauseRead_31 (by decide) ?_
      refine zk_icmp_ne (tgt := 41) (pc := 32) B dX12_clauseRead_32 (by decide) (fun _ => ?_) (fun _ => ?_)
      · exact J41 M1
      · refine zk_aload_n (pc := 35) B dX12_clauseRead_35 0 rfl rfl ?_
        refine zk_iconst (v := 3) (pc := 36) B dX12_clauseRead_36 (by decide) ?_
        refine zk_cim (pc := 37) (k' := 0) (n' := 0) B rfl rfl (Nat.le_of_ble_eq_true rfl) (Nat.le_of_ble_eq_true rfl) (fun b hb => zr_V B hR kV_yX12_wrongs km_12_194 kx_12 (gModel_s ha) [.int 3] rfl rfl (Nat.le_of_ble_eq_true rfl) dX12_clauseRead_37 (m_Model_wrongs hX ha 3 M1 b hb) ⟨Nat.le_of_ble_eq_true rfl, Nat.le_of_ble_eq_true rfl⟩ ⟨Nat.le_of_ble_eq_true rfl, Nat.le_of_ble_eq_true rfl⟩) (fun x26 M25 => ?_)
        refine zk_pop (pc := 40) B dX12_clauseRead_40 rfl ?_
        exact J41 M25
  · refine zk_aload_n (pc := 10) B dX12_clauseRead_10 0 rfl rfl ?_
    refine zk_cvm (pc := 11) (k' := 0) (n' := 0) B rfl rfl (Nat.le_of_ble_eq_true rfl) (Nat.le_of_ble_eq_true rfl) (fun b hb => zr_V B hR kV_yX12_roadRead km_12_236 kx_12 (gModel_s ha) [] rfl rfl (Nat.le_of_ble_eq_true rfl) dX12_clauseRead_11 (m_Model_roadRead hX ha M1 b hb) ⟨Nat.le_of_ble_eq_true rfl, Nat.le_of_ble_eq_true rfl⟩ ⟨Nat.le_of_ble_eq_true rfl, Nat.le_of_ble_eq_true rfl⟩) (fun M27 => ?_)
    refine zk_goto (tgt := 185) (pc := 14) B dX12_clauseRead_14 (by decide) ?_
    exact J185 M27
set_option maxHeartbeats 4000000 in
set_option maxRecDepth 100000 in
theorem m_Model_load {X : z_X} (hX : z_ok X) {G : z_Gr} {a : Nat} (ha : g_Model G a) (p0 : Int32) (M : z_Mem) (b : Int32 × z_Mem) (h : F_Model_load a p0 M = some b) : z_Ct X yX12_load cX12_load 2 (some .int) ({ frames := 6, cells := 0, slots := 0, locals := 131 } : Room) [.ref a, .int p0] G M (fun o9 G9 M9 => G9 = G ∧ (o9, M9) = z_cim b) := by
  refine z_enter hX (by decide) (Nat.le_of_ble_eq_true rfl) h (fun F B hR => ?_)
  have J85 : ∀  (M : z_Mem), z_K X F 2 0 0 G z_cim b 0 0 85 [(0, .ref a)] [] M (F_Model_load_J85 a M) := by
    intro  M
    unfold F_Model_load_J85
    refine zk_aload_n (pc := 85) B dX12_load_85 0 rfl rfl ?_
    refine zk_cpi (pc := 86) (k' := 0) (n' := 0) B rfl rfl (Nat.le_of_ble_eq_true rfl) (Nat.le_of_ble_eq_true rfl) (fun b hb => zr_V B hR kV_yX12_isGood km_12_183 kx_12 (gModel_s ha) [] rfl rfl (Nat.le_of_ble_eq_true rfl) dX12_load_86 (m_Model_isGood hX ha M b hb) ⟨Nat.le_of_ble_eq_true rfl, Nat.le_of_ble_eq_true rfl⟩ ⟨Nat.le_of_ble_eq_true rfl, Nat.le_of_ble_eq_true rfl⟩) (fun x16 _ => ?_)
    refine zk_if_ne (tgt := 100) (pc := 89) B dX12_load_89 (by decide) (fun _ => ?_) (fun _ => ?_)
    · refine zk_aload_n (pc := 100) B dX12_load_100 0 rfl rfl ?_
      refine zk_cvm (pc := 101) (k' := 0) (n' := 0) B rfl rfl (Nat.le_of_ble_eq_true rfl) (Nat.le_of_ble_eq_true rfl) (fun b hb => zr_V B hR kV_yX12_becomes km_12_90 kx_12 (gModel_s ha) [] rfl rfl (Nat.le_of_ble_eq_true rfl) dX12_load_101 (m_Model_becomes hX ha M b hb) ⟨Nat.le_of_ble_eq_true rfl, Nat.le_of_ble_eq_true rfl⟩ ⟨Nat.le_of_ble_eq_true rfl, Nat.le_of_ble_eq_true rfl⟩) (fun M17 => ?_)
      refine zk_aload_n (pc := 104) B dX12_load_104 0 rfl rfl ?_
      refine zk_geti (pc := 105) B kx_12 (gModel_s ha) 17 (by decide) kf_12_114 rfl dX12_load_105 ?_
      exact zk_iret (pc := 108) B dX12_load_108 rfl rfl (Nat.le_of_ble_eq_true rfl) (Nat.le_of_ble_eq_true rfl) rfl
    · refine zk_bipush (v := (-10)) (pc := 92) B dX12_load_92 (by decide) ?_
      refine zk_aload_n (pc := 94) B dX12_load_94 0 rfl rfl ?_
      refine zk_geti (pc := 95) B kx_12 (gModel_s ha) 30 (by decide) kf_12_177 rfl dX12_load_95 ?_
      refine zk_isub (pc := 98) B dX12_load_98 ?_
      exact zk_iret (pc := 99) B dX12_load_99 rfl rfl (Nat.le_of_ble_eq_true rfl) (Nat.le_of_ble_eq_true rfl) rfl
  have L64 : ∀ (nf64 : Nat), ∀  (M : z_Mem), z_K X F 2 0 0 G z_cim b 0 0 64 [(0, .ref a)] [] M (F_Model_load_L64 a nf64 M) := by
    intro nf64
    induction nf64 with
    | zero => intro  M; exact zk_none
    | succ nf64 ih64 =>
      intro  M
      show z_K X F 2 0 0 G z_cim b 0 0 64 [(0, .ref a)] [] M (F_Model_load_B64 a (F_Model_load_L64 a nf64) M)
      unfold F_Model_load_B64
      refine zk_aload_n (pc := 64) B dX12_load_64 0 rfl rfl ?_
      refine zk_cpi (pc := 65) (k' := 0) (n' := 0) B rfl rfl (Nat.le_of_ble_eq_true rfl) (Nat.le_of_ble_eq_true rfl) (fun b hb => zr_V B hR kV_yX12_isGood km_12_183 kx_12 (gModel_s ha) [] rfl rfl (Nat.le_of_ble_eq_true rfl) dX12_load_65 (m_Model_isGood hX ha M b hb) ⟨Nat.le_of_ble_eq_true rfl, Nat.le_of_ble_eq_true rfl⟩ ⟨Nat.le_of_ble_eq_true rfl, Nat.le_of_ble_eq_true rfl⟩) (fun x14 _ => ?_)
      refine zk_if_eq (tgt := 85) (pc := 68) B dX12_load_68 (by decide) (fun _ => ?_) (fun _ => ?_)
      · exact J85 M
      · refine zk_aload_n (pc := 71) B dX12_load_71 0 rfl rfl ?_
        refine zk_geti (pc := 72) B kx_12 (gModel_s ha) 27 (by decide) kf_12_161 rfl dX12_load_72 ?_
        refine zk_if_eq (tgt := 85) (pc := 75) B dX12_load_75 (by decide) (fun _ => ?_) (fun _ => ?_)
        · exact J85 M
        · refine zk_aload_n (pc := 78) B dX12_load_78 0 rfl rfl ?_
          refine zk_cvm (pc := 79) (k' := 0) (n' := 0) B rfl rfl (Nat.le_of_ble_eq_true rfl) (Nat.le_of_ble_eq_true rfl) (fun b hb => zr_V B hR kV_yX12_clauseRead km_12_265 kx_12 (gModel_s ha) [] rfl rfl (Nat.le_of_ble_eq_true rfl) dX12_load_79 (m_Model_clauseRead hX ha M b hb) ⟨Nat.le_of_ble_eq_true rfl, Nat.le_of_ble_eq_true rfl⟩ ⟨Nat.le_of_ble_eq_true rfl, Nat.le_of_ble_eq_true rfl⟩) (fun M15 => ?_)
          refine zk_goto (tgt := 64) (pc := 82) B dX12_load_82 (by decide) ?_
          exact ih64 M15
  have J47 : ∀  (M : z_Mem), z_K X F 2 0 0 G z_cim b 0 0 47 [(0, .ref a)] [] M (F_Model_load_J47 a M) := by
    intro  M
    unfold F_Model_load_J47
    refine zk_aload_n (pc := 47) B dX12_load_47 0 rfl rfl ?_
    refine zk_aload_n (pc := 48) B dX12_load_48 0 rfl rfl ?_
    refine zk_iconst (v := 2) (pc := 49) B dX12_load_49 (by decide) ?_
    refine zk_bipush (v := 8) (pc := 50) B dX12_load_50 (by decide) ?_
    refine zk_cim (pc := 52) (k' := 0) (n' := 0) B rfl rfl (Nat.le_of_ble_eq_true rfl) (Nat.le_of_ble_eq_true rfl) (fun b hb => zr_V B hR kV_yX12_number km_12_215 kx_12 (gModel_s ha) [.int 2, .int 8] rfl rfl (Nat.le_of_ble_eq_true rfl) dX12_load_52 (m_Model_number hX ha 2 8 M b hb) ⟨Nat.le_of_ble_eq_true rfl, Nat.le_of_ble_eq_true rfl⟩ ⟨Nat.le_of_ble_eq_true rfl, Nat.le_of_ble_eq_true rfl⟩) (fun x11 M10 => ?_)
    refine zk_cvm (pc := 55) (k' := 0) (n' := 0) B rfl rfl (Nat.le_of_ble_eq_true rfl) (Nat.le_of_ble_eq_true rfl) (fun b hb => zr_V B hR kV_yX12_begins km_12_87 kx_12 (gModel_s ha) [.int x11] rfl rfl (Nat.le_of_ble_eq_true rfl) dX12_load_55 (m_Model_begins hX ha x11 M10 b hb) ⟨Nat.le_of_ble_eq_true rfl, Nat.le_of_ble_eq_true rfl⟩ ⟨Nat.le_of_ble_eq_true rfl, Nat.le_of_ble_eq_true rfl⟩) (fun M12 => ?_)
    refine zk_aload_n (pc := 58) B dX12_load_58 0 rfl rfl ?_
    refine zk_bipush (v := 59) (pc := 59) B dX12_load_59 (by decide) ?_
    refine zk_cvm (pc := 61) (k' := 0) (n' := 0) B rfl rfl (Nat.le_of_ble_eq_true rfl) (Nat.le_of_ble_eq_true rfl) (fun b hb => zr_V B hR kV_yX12_must km_12_253 kx_12 (gModel_s ha) [.int 59] rfl rfl (Nat.le_of_ble_eq_true rfl) dX12_load_61 (m_Model_must hX ha 59 M12 b hb) ⟨Nat.le_of_ble_eq_true rfl, Nat.le_of_ble_eq_true rfl⟩ ⟨Nat.le_of_ble_eq_true rfl, Nat.le_of_ble_eq_true rfl⟩) (fun M13 => ?_)
    exact L64 10000 M13
  show z_K X F 2 0 0 G z_cim b 0 0 0 [(0, .ref a), (1, .int p0)] [] M (F_Model_load a p0 M)
  unfold F_Model_load
  refine zk_aload_n (pc := 0) B dX12_load_0 0 rfl rfl ?_
  refine zk_iconst (v := 0) (pc := 1) B dX12_load_1 (by decide) ?_
  refine zk_puti (pc := 2) B kx_12 (gModel_s ha) 0 (by decide) kf_12_93 rfl rfl rfl rfl dX12_load_2 ?_
  refine zk_lm (fun M1 => ?_)
  refine zk_aload_n (pc := 5) B dX12_load_5 0 rfl rfl ?_
  refine zk_iload_n (pc := 6) B dX12_load_6 1 rfl rfl ?_
  refine zk_i2l (pc := 7) B dX12_load_7 ?_
  refine zk_lconst (v := 0) (pc := 8) B dX12_load_8 (by decide) ?_
  refine zk_aload_n (pc := 9) B dX12_load_9 0 rfl rfl ?_
  refine zk_geti (pc := 10) B kx_12 (gModel_s ha) 23 (by decide) kf_12_130 rfl dX12_load_10 ?_
  refine zk_i2l (pc := 13) B dX12_load_13 ?_
  refine zk_cpi (pc := 14) (k' := 0) (n' := 0) B rfl rfl (Nat.le_of_ble_eq_true rfl) (Nat.le_of_ble_eq_true rfl) (fun b hb => zr_S B hR kS_yX12_in km_12_197 [.long p0.toInt64, .long 0, .long ((M1.1 a 23).toInt64)] rfl rfl (Nat.le_of_ble_eq_true rfl) dX12_load_14 (m_Model_in hX p0.toInt64 0 ((M1.1 a 23).toInt64) M1 b hb) ⟨Nat.le_of_ble_eq_true rfl, Nat.le_of_ble_eq_true rfl⟩ ⟨Nat.le_of_ble_eq_true rfl, Nat.le_of_ble_eq_true rfl⟩) (fun x2 _ => ?_)
  refine zk_iconst (v := 1) (pc := 17) B dX12_load_17 (by decide) ?_
  refine zk_cim (pc := 18) (k' := 0) (n' := 0) B rfl rfl (Nat.le_of_ble_eq_true rfl) (Nat.le_of_ble_eq_true rfl) (fun b hb => zr_V B hR kV_yX12_fails km_12_256 kx_12 (gModel_s ha) [.int x2, .int 1] rfl rfl (Nat.le_of_ble_eq_true rfl) dX12_load_18 (m_Model_fails hX ha x2 1 M1 b hb) ⟨Nat.le_of_ble_eq_true rfl, Nat.le_of_ble_eq_true rfl⟩ ⟨Nat.le_of_ble_eq_true rfl, Nat.le_of_ble_eq_true rfl⟩) (fun x4 M3 => ?_)
  refine zk_if_eq (tgt := 26) (pc := 21) B dX12_load_21 (by decide) (fun _ => ?_) (fun _ => ?_)
  · refine zk_aload_n (pc := 26) B dX12_load_26 0 rfl rfl ?_
    refine zk_iload_n (pc := 27) B dX12_load_27 1 rfl rfl ?_
    refine zk_cvm (pc := 28) (k' := 0) (n' := 0) B rfl rfl (Nat.le_of_ble_eq_true rfl) (Nat.le_of_ble_eq_true rfl) (fun b hb => zr_V B hR kV_yX12_starts km_12_260 kx_12 (gModel_s ha) [.int p0] rfl rfl (Nat.le_of_ble_eq_true rfl) dX12_load_28 (m_Model_starts hX ha p0 M3 b hb) ⟨Nat.le_of_ble_eq_true rfl, Nat.le_of_ble_eq_true rfl⟩ ⟨Nat.le_of_ble_eq_true rfl, Nat.le_of_ble_eq_true rfl⟩) (fun M5 => ?_)
    refine zk_aload_n (pc := 31) B dX12_load_31 0 rfl rfl ?_
    refine zk_ldc2 (pc := 32) B kl_12_263 dX12_load_32 ?_
    refine zk_cim (pc := 35) (k' := 0) (n' := 0) B rfl rfl (Nat.le_of_ble_eq_true rfl) (Nat.le_of_ble_eq_true rfl) (fun b hb => zr_V B hR kV_yX12_passes km_12_233 kx_12 (gModel_s ha) [.long 14123071] rfl rfl (Nat.le_of_ble_eq_true rfl) dX12_load_35 (m_Model_passes hX ha 14123071 M5 b hb) ⟨Nat.le_of_ble_eq_true rfl, Nat.le_of_ble_eq_true rfl⟩ ⟨Nat.le_of_ble_eq_true rfl, Nat.le_of_ble_eq_true rfl⟩) (fun x7 M6 => ?_)
    refine zk_if_ne (tgt := 47) (pc := 38) B dX12_load_38 (by decide) (fun _ => ?_) (fun _ => ?_)
    · refine zk_sub [0] rfl ?_
      exact J47 M6
    · refine zk_aload_n (pc := 41) B dX12_load_41 0 rfl rfl ?_
      refine zk_iconst (v := 1) (pc := 42) B dX12_load_42 (by decide) ?_
      refine zk_cim (pc := 43) (k' := 0) (n' := 0) B rfl rfl (Nat.le_of_ble_eq_true rfl) (Nat.le_of_ble_eq_true rfl) (fun b hb => zr_V B hR kV_yX12_wrongs km_12_194 kx_12 (gModel_s ha) [.int 1] rfl rfl (Nat.le_of_ble_eq_true rfl) dX12_load_43 (m_Model_wrongs hX ha 1 M6 b hb) ⟨Nat.le_of_ble_eq_true rfl, Nat.le_of_ble_eq_true rfl⟩ ⟨Nat.le_of_ble_eq_true rfl, Nat.le_of_ble_eq_true rfl⟩) (fun x9 M8 => ?_)
      refine zk_pop (pc := 46) B dX12_load_46 rfl ?_
      refine zk_sub [0] rfl ?_
      exact J47 M8
  · refine zk_iconst (v := 0) (pc := 24) B dX12_load_24 (by decide) ?_
    exact zk_iret (pc := 25) B dX12_load_25 rfl rfl (Nat.le_of_ble_eq_true rfl) (Nat.le_of_ble_eq_true rfl) rfl
set_option maxHeartbeats 4000000 in
set_option maxRecDepth 100000 in
theorem m_Model_lists {X : z_X} (hX : z_ok X) {G : z_Gr} {a : Nat} (ha : g_Model G a) (p0 : Int32) (M : z_Mem) (b : z_Mem) (h : F_Model_lists a p0 M = some b) : z_Ct X yX12_lists cX12_lists 3 none ({ frames := 1, cells := 0, slots := 0, locals := 22 } : Room) [.ref a, .int p0] G M (fun o9 G9 M9 => G9 = G ∧ (o9, M9) = z_cvm b) := by
  refine z_enter hX (by decide) (Nat.le_of_ble_eq_true rfl) h (fun F B hR => ?_)
  have L13 : ∀ (nf13 : Nat), ∀ (v1 : Int32) (v2 : Int32) (M : z_Mem), z_K X F 3 0 0 G z_cvm b 0 0 13 [(0, .ref a), (1, .int v1), (2, .int v2)] [] M (F_Model_lists_L13 a nf13 v1 v2 M) := by
    intro nf13
    induction nf13 with
    | zero => intro v1 v2 M; exact zk_none
    | succ nf13 ih13 =>
      intro v1 v2 M
      show z_K X F 3 0 0 G z_cvm b 0 0 13 [(0, .ref a), (1, .int v1), (2, .int v2)] [] M (F_Model_lists_B13 a (F_Model_lists_L13 a nf13) v1 v2 M)
      unfold F_Model_lists_B13
      refine zk_iload_n (pc := 13) B dX12_lists_13 2 rfl rfl ?_
      refine zk_aload_n (pc := 14) B dX12_lists_14 0 rfl rfl ?_
      refine zk_geti (pc := 15) B kx_12 (gModel_s ha) 39 (by decide) kf_12_271 rfl dX12_lists_15 ?_
      refine zk_icmp_ge (tgt := 42) (pc := 18) B dX12_lists_18 (by decide) (fun _ => ?_) (fun _ => ?_)
      · exact zk_vret (pc := 42) B dX12_lists_42 rfl (Nat.le_of_ble_eq_true rfl) (Nat.le_of_ble_eq_true rfl) rfl
      · refine zk_aload_n (pc := 21) B dX12_lists_21 0 rfl rfl ?_
        refine zk_getr (pc := 22) B kx_12 (gModel_s ha) 32 (by decide) kf_12_50 rfl (gModel_f32 ha) dX12_lists_22 ?_
        refine zk_iload_n (pc := 25) B dX12_lists_25 2 rfl rfl ?_
        refine zk_aload_n (pc := 26) B dX12_lists_26 0 rfl rfl ?_
        refine zk_iload_n (pc := 27) B dX12_lists_27 1 rfl rfl ?_
        refine zk_bipush (v := 12) (pc := 28) B dX12_lists_28 (by decide) ?_
        refine zk_iload_n (pc := 30) B dX12_lists_30 2 rfl rfl ?_
        refine zk_iadd (pc := 31) B dX12_lists_31 ?_
        refine zk_cpi (pc := 32) (k' := 0) (n' := 0) B rfl rfl (Nat.le_of_ble_eq_true rfl) (Nat.le_of_ble_eq_true rfl) (fun b hb => zr_V B hR kV_yX12_in2 km_12_268 kx_12 (gModel_s ha) [.int v1, .int (12 + v2)] rfl rfl (Nat.le_of_ble_eq_true rfl) dX12_lists_32 (m_Model_in2 hX ha v1 (12 + v2) M b hb) ⟨Nat.le_of_ble_eq_true rfl, Nat.le_of_ble_eq_true rfl⟩ ⟨Nat.le_of_ble_eq_true rfl, Nat.le_of_ble_eq_true rfl⟩) (fun x3 _ => ?_)
        refine zk_iast (pc := 35) B (gModel_t32 ha) dX12_lists_35 ?_
        refine zk_lm (fun M4 => ?_)
        refine zk_iinc (y := 1) (lf := fun x5 => [(2, .int x5), (0, .ref a), (1, .int v1)]) (pc := 36) B dX12_lists_36 2 rfl (by decide) (by decide) (fun _ => rfl) (fun x5 => ?_)
        refine zk_goto (tgt := 13) (pc := 39) B dX12_lists_39 (by decide) ?_
        refine zk_sub [1, 2, 0] rfl ?_
        exact ih13 v1 x5 M4
  show z_K X F 3 0 0 G z_cvm b 0 0 0 [(0, .ref a), (1, .int p0)] [] M (F_Model_lists a p0 M)
  unfold F_Model_lists
  refine zk_aload_n (pc := 0) B dX12_lists_0 0 rfl rfl ?_
  refine zk_aload_n (pc := 1) B dX12_lists_1 0 rfl rfl ?_
  refine zk_iload_n (pc := 2) B dX12_lists_2 1 rfl rfl ?_
  refine zk_bipush (v := 11) (pc := 3) B dX12_lists_3 (by decide) ?_
  refine zk_cpi (pc := 5) (k' := 0) (n' := 0) B rfl rfl (Nat.le_of_ble_eq_true rfl) (Nat.le_of_ble_eq_true rfl) (fun b hb => zr_V B hR kV_yX12_in2 km_12_268 kx_12 (gModel_s ha) [.int p0, .int 11] rfl rfl (Nat.le_of_ble_eq_true rfl) dX12_lists_5 (m_Model_in2 hX ha p0 11 M b hb) ⟨Nat.le_of_ble_eq_true rfl, Nat.le_of_ble_eq_true rfl⟩ ⟨Nat.le_of_ble_eq_true rfl, Nat.le_of_ble_eq_true rfl⟩) (fun x1 _ => ?_)
  refine zk_puti (pc := 8) B kx_12 (gModel_s ha) 39 (by decide) kf_12_271 rfl rfl rfl rfl dX12_lists_8 ?_
  refine zk_lm (fun M2 => ?_)
  refine zk_iconst (v := 0) (pc := 11) B dX12_lists_11 (by decide) ?_
  refine zk_istore_n (loc' := [(2, .int 0), (0, .ref a), (1, .int p0)]) (pc := 12) B dX12_lists_12 rfl (by decide) rfl ?_
  refine zk_sub [1, 2, 0] rfl ?_
  exact L13 10000 p0 0 M2
set_option maxHeartbeats 4000000 in
set_option maxRecDepth 100000 in
theorem m_Model_zoneOf {X : z_X} (hX : z_ok X) {G : z_Gr} {a : Nat} (ha : g_Model G a) (p0 : Int32) (M : z_Mem) (b : Int32) (h : F_Model_zoneOf a p0 M = some b) : z_Ct X yX12_zoneOf cX12_zoneOf 2 (some .int) ({ frames := 1, cells := 0, slots := 0, locals := 22 } : Room) [.ref a, .int p0] G M (fun o9 G9 M9 => G9 = G ∧ (o9, M9) = (z_ci M) b) := by
  refine z_enter hX (by decide) (Nat.le_of_ble_eq_true rfl) h (fun F B hR => ?_)
  have J16 : ∀ (s0 : Int32) (s1 : Int32), z_K X F 2 0 0 G (z_ci M) b 0 0 16 [] [.int s0, .int s1, .ref a] M (F_Model_zoneOf_J16 a s0 s1 M) := by
    intro s0 s1
    unfold F_Model_zoneOf_J16
    refine zk_cpi (pc := 16) (k' := 0) (n' := 0) B rfl rfl (Nat.le_of_ble_eq_true rfl) (Nat.le_of_ble_eq_true rfl) (fun b hb => zr_V B hR kV_yX12_of km_12_274 kx_12 (gModel_s ha) [.int s1, .int s0] rfl rfl (Nat.le_of_ble_eq_true rfl) dX12_zoneOf_16 (m_Model_of hX ha s1 s0 M b hb) ⟨Nat.le_of_ble_eq_true rfl, Nat.le_of_ble_eq_true rfl⟩ ⟨Nat.le_of_ble_eq_true rfl, Nat.le_of_ble_eq_true rfl⟩) (fun x1 _ => ?_)
    exact zk_iret (pc := 19) B dX12_zoneOf_19 rfl rfl (Nat.le_of_ble_eq_true rfl) (Nat.le_of_ble_eq_true rfl) rfl
  show z_K X F 2 0 0 G (z_ci M) b 0 0 0 [(0, .ref a), (1, .int p0)] [] M (F_Model_zoneOf a p0 M)
  unfold F_Model_zoneOf
  refine zk_aload_n (pc := 0) B dX12_zoneOf_0 0 rfl rfl ?_
  refine zk_iload_n (pc := 1) B dX12_zoneOf_1 1 rfl rfl ?_
  refine zk_iconst (v := 2) (pc := 2) B dX12_zoneOf_2 (by decide) ?_
  refine zk_idiv (pc := 3) B dX12_zoneOf_3 (by decide) ?_
  refine zk_iload_n (pc := 4) B dX12_zoneOf_4 1 rfl rfl ?_
  refine zk_iconst (v := 1) (pc := 5) B dX12_zoneOf_5 (by decide) ?_
  refine zk_iand (pc := 6) B dX12_zoneOf_6 ?_
  refine zk_iconst (v := 1) (pc := 7) B dX12_zoneOf_7 (by decide) ?_
  refine zk_icmp_ne (tgt := 15) (pc := 8) B dX12_zoneOf_8 (by decide) (fun _ => ?_) (fun _ => ?_)
  · refine zk_iconst (v := 2) (pc := 15) B dX12_zoneOf_15 (by decide) ?_
    refine zk_sub [] rfl ?_
    exact J16 2 (p0 / 2)
  · refine zk_iconst (v := 1) (pc := 11) B dX12_zoneOf_11 (by decide) ?_
    refine zk_goto (tgt := 16) (pc := 12) B dX12_zoneOf_12 (by decide) ?_
    refine zk_sub [] rfl ?_
    exact J16 1 (p0 / 2)
set_option maxHeartbeats 4000000 in
set_option maxRecDepth 100000 in
theorem m_Model_minutesOf {X : z_X} (hX : z_ok X) {G : z_Gr} {a : Nat} (ha : g_Model G a) (p0 : Int32) (p1 : Int32) (M : z_Mem) (b : Int32) (h : F_Model_minutesOf a p0 p1 M = some b) : z_Ct X yX12_minutesOf cX12_minutesOf 3 (some .int) ({ frames := 0, cells := 0, slots := 0, locals := 0 } : Room) [.ref a, .int p0, .int p1] G M (fun o9 G9 M9 => G9 = G ∧ (o9, M9) = (z_ci M) b) := by
  refine z_enter hX (by decide) (Nat.le_of_ble_eq_true rfl) h (fun F B hR => ?_)
  show z_K X F 3 0 0 G (z_ci M) b 0 0 0 [(0, .ref a), (1, .int p0), (2, .int p1)] [] M (F_Model_minutesOf a p0 p1 M)
  unfold F_Model_minutesOf
  refine zk_aload_n (pc := 0) B dX12_minutesOf_0 0 rfl rfl ?_
  refine zk_getr (pc := 1) B kx_12 (gModel_s ha) 19 (by decide) kf_12_34 rfl (gModel_f19 ha) dX12_minutesOf_1 ?_
  refine zk_bipush (v := 8) (pc := 4) B dX12_minutesOf_4 (by decide) ?_
  refine zk_iload_n (pc := 6) B dX12_minutesOf_6 1 rfl rfl ?_
  refine zk_imul (pc := 7) B dX12_minutesOf_7 ?_
  refine zk_iload_n (pc := 8) B dX12_minutesOf_8 2 rfl rfl ?_
  refine zk_iadd (pc := 9) B dX12_minutesOf_9 ?_
  refine zk_iald (pc := 10) B (gModel_t19 ha) dX12_minutesOf_10 ?_
  exact zk_iret (pc := 11) B dX12_minutesOf_11 rfl rfl (Nat.le_of_ble_eq_true rfl) (Nat.le_of_ble_eq_true rfl) rfl
set_option maxHeartbeats 4000000 in
set_option maxRecDepth 100000 in
theorem m_Model_directOf {X : z_X} (hX : z_ok X) {G : z_Gr} {a : Nat} (ha : g_Model G a) (p0 : Int32) (M : z_Mem) (b : Int32) (h : F_Model_directOf a p0 M = some b) : z_Ct X yX12_directOf cX12_directOf 2 (some .int) ({ frames := 1, cells := 0, slots := 0, locals := 22 } : Room) [.ref a, .int p0] G M (fun o9 G9 M9 => G9 = G ∧ (o9, M9) = (z_ci M) b) := by
  refine z_enter hX (by decide) (Nat.le_of_ble_eq_true rfl) h (fun F B hR => ?_)
  show z_K X F 2 0 0 G (z_ci M) b 0 0 0 [(0, .ref a), (1, .int p0)] [] M (F_Model_directOf a p0 M)
  unfold F_Model_directOf
  refine zk_aload_n (pc := 0) B dX12_directOf_0 0 rfl rfl ?_
  refine zk_aload_n (pc := 1) B dX12_directOf_1 0 rfl rfl ?_
  refine zk_iload_n (pc := 2) B dX12_directOf_2 1 rfl rfl ?_
  refine zk_iconst (v := 1) (pc := 3) B dX12_directOf_3 (by decide) ?_
  refine zk_cpi (pc := 4) (k' := 0) (n' := 0) B rfl rfl (Nat.le_of_ble_eq_true rfl) (Nat.le_of_ble_eq_true rfl) (fun b hb => zr_V B hR kV_yX12_of km_12_274 kx_12 (gModel_s ha) [.int p0, .int 1] rfl rfl (Nat.le_of_ble_eq_true rfl) dX12_directOf_4 (m_Model_of hX ha p0 1 M b hb) ⟨Nat.le_of_ble_eq_true rfl, Nat.le_of_ble_eq_true rfl⟩ ⟨Nat.le_of_ble_eq_true rfl, Nat.le_of_ble_eq_true rfl⟩) (fun x1 _ => ?_)
  refine zk_aload_n (pc := 7) B dX12_directOf_7 0 rfl rfl ?_
  refine zk_iload_n (pc := 8) B dX12_directOf_8 1 rfl rfl ?_
  refine zk_iconst (v := 2) (pc := 9) B dX12_directOf_9 (by decide) ?_
  refine zk_cpi (pc := 10) (k' := 0) (n' := 0) B rfl rfl (Nat.le_of_ble_eq_true rfl) (Nat.le_of_ble_eq_true rfl) (fun b hb => zr_V B hR kV_yX12_of km_12_274 kx_12 (gModel_s ha) [.int p0, .int 2] rfl rfl (Nat.le_of_ble_eq_true rfl) dX12_directOf_10 (m_Model_of hX ha p0 2 M b hb) ⟨Nat.le_of_ble_eq_true rfl, Nat.le_of_ble_eq_true rfl⟩ ⟨Nat.le_of_ble_eq_true rfl, Nat.le_of_ble_eq_true rfl⟩) (fun x2 _ => ?_)
  refine zk_cpi (pc := 13) (k' := 0) (n' := 0) B rfl rfl (Nat.le_of_ble_eq_true rfl) (Nat.le_of_ble_eq_true rfl) (fun b hb => zr_V B hR kV_yX12_minutesOf km_12_277 kx_12 (gModel_s ha) [.int x1, .int x2] rfl rfl (Nat.le_of_ble_eq_true rfl) dX12_directOf_13 (m_Model_minutesOf hX ha x1 x2 M b hb) ⟨Nat.le_of_ble_eq_true rfl, Nat.le_of_ble_eq_true rfl⟩ ⟨Nat.le_of_ble_eq_true rfl, Nat.le_of_ble_eq_true rfl⟩) (fun x3 _ => ?_)
  exact zk_iret (pc := 16) B dX12_directOf_16 rfl rfl (Nat.le_of_ble_eq_true rfl) (Nat.le_of_ble_eq_true rfl) rfl
set_option maxHeartbeats 4000000 in
set_option maxRecDepth 100000 in
theorem m_Model_mostOf {X : z_X} (hX : z_ok X) {G : z_Gr} {a : Nat} (ha : g_Model G a) (p0 : Int32) (M : z_Mem) (b : Int32) (h : F_Model_mostOf a p0 M = some b) : z_Ct X yX12_mostOf cX12_mostOf 3 (some .int) ({ frames := 2, cells := 0, slots := 0, locals := 43 } : Room) [.ref a, .int p0] G M (fun o9 G9 M9 => G9 = G ∧ (o9, M9) = (z_ci M) b) := by
  refine z_enter hX (by decide) (Nat.le_of_ble_eq_true rfl) h (fun F B hR => ?_)
  show z_K X F 3 0 0 G (z_ci M) b 0 0 0 [(0, .ref a), (1, .int p0)] [] M (F_Model_mostOf a p0 M)
  unfold F_Model_mostOf
  refine zk_aload_n (pc := 0) B dX12_mostOf_0 0 rfl rfl ?_
  refine zk_iload_n (pc := 1) B dX12_mostOf_1 1 rfl rfl ?_
  refine zk_cpi (pc := 2) (k' := 0) (n' := 0) B rfl rfl (Nat.le_of_ble_eq_true rfl) (Nat.le_of_ble_eq_true rfl) (fun b hb => zr_V B hR kV_yX12_directOf km_12_280 kx_12 (gModel_s ha) [.int p0] rfl rfl (Nat.le_of_ble_eq_true rfl) dX12_mostOf_2 (m_Model_directOf hX ha p0 M b hb) ⟨Nat.le_of_ble_eq_true rfl, Nat.le_of_ble_eq_true rfl⟩ ⟨Nat.le_of_ble_eq_true rfl, Nat.le_of_ble_eq_true rfl⟩) (fun x1 _ => ?_)
  refine zk_istore_n (loc' := [(2, .int x1), (0, .ref a), (1, .int p0)]) (pc := 5) B dX12_mostOf_5 rfl (by decide) rfl ?_
  refine zk_iload_n (pc := 6) B dX12_mostOf_6 0 rfl rfl ?_
  refine zk_iconst (v := (-1)) (pc := 7) B dX12_mostOf_7 (by decide) ?_
  refine zk_icmp_ne (tgt := 15) (pc := 8) B dX12_mostOf_8 (by decide) (fun _ => ?_) (fun _ => ?_)
  · refine zk_iload_n (pc := 15) B dX12_mostOf_15 0 rfl rfl ?_
    refine zk_bipush (v := 100) (pc := 16) B dX12_mostOf_16 (by decide) ?_
    refine zk_aload_n (pc := 18) B dX12_mostOf_18 1 rfl rfl ?_
    refine zk_iload_n (pc := 19) B dX12_mostOf_19 2 rfl rfl ?_
    refine zk_bipush (v := 6) (pc := 20) B dX12_mostOf_20 (by decide) ?_
    refine zk_cpi (pc := 22) (k' := 0) (n' := 0) B rfl rfl (Nat.le_of_ble_eq_true rfl) (Nat.le_of_ble_eq_true rfl) (fun b hb => zr_V B hR kV_yX12_of km_12_274 kx_12 (gModel_s ha) [.int p0, .int 6] rfl rfl (Nat.le_of_ble_eq_true rfl) dX12_mostOf_22 (m_Model_of hX ha p0 6 M b hb) ⟨Nat.le_of_ble_eq_true rfl, Nat.le_of_ble_eq_true rfl⟩ ⟨Nat.le_of_ble_eq_true rfl, Nat.le_of_ble_eq_true rfl⟩) (fun x2 _ => ?_)
    refine zk_iadd (pc := 25) B dX12_mostOf_25 ?_
    refine zk_imul (pc := 26) B dX12_mostOf_26 ?_
    refine zk_bipush (v := 100) (pc := 27) B dX12_mostOf_27 (by decide) ?_
    refine zk_idiv (pc := 29) B dX12_mostOf_29 (by decide) ?_
    exact zk_iret (pc := 30) B dX12_mostOf_30 rfl rfl (Nat.le_of_ble_eq_true rfl) (Nat.le_of_ble_eq_true rfl) rfl
  · refine zk_iconst (v := (-1)) (pc := 11) B dX12_mostOf_11 (by decide) ?_
    refine zk_goto (tgt := 30) (pc := 12) B dX12_mostOf_12 (by decide) ?_
    exact zk_iret (pc := 30) B dX12_mostOf_30 rfl rfl (Nat.le_of_ble_eq_true rfl) (Nat.le_of_ble_eq_true rfl) rfl
set_option maxHeartbeats 4000000 in
set_option maxRecDepth 100000 in
theorem m_Model_personsAboard {X : z_X} (hX : z_ok X) {G : z_Gr} {a : Nat} (ha : g_Model G a) (p0 : Int32) (M : z_Mem) (b : Int32) (h : F_Model_personsAboard a p0 M = some b) : z_Ct X yX12_personsAboard cX12_personsAboard 4 (some .int) ({ frames := 1, cells := 0, slots := 0, locals := 22 } : Room) [.ref a, .int p0] G M (fun o9 G9 M9 => G9 = G ∧ (o9, M9) = (z_ci M) b) := by
  refine z_enter hX (by decide) (Nat.le_of_ble_eq_true rfl) h (fun F B hR => ?_)
  have L4 : ∀ (nf4 : Nat), ∀ (v1 : Int32) (v2 : Int32) (v3 : Int32), z_K X F 4 0 0 G (z_ci M) b 0 0 4 [(0, .ref a), (1, .int v1), (2, .int v2), (3, .int v3)] [] M (F_Model_personsAboard_L4 a nf4 v1 v2 v3 M) := by
    intro nf4
    induction nf4 with
    | zero => intro v1 v2 v3; exact zk_none
    | succ nf4 ih4 =>
      intro v1 v2 v3
      show z_K X F 4 0 0 G (z_ci M) b 0 0 4 [(0, .ref a), (1, .int v1), (2, .int v2), (3, .int v3)] [] M (F_Model_personsAboard_B4 a (F_Model_personsAboard_L4 a nf4) v1 v2 v3 M)
      unfold F_Model_personsAboard_B4
      refine zk_iload_n (pc := 4) B dX12_personsAboard_4 3 rfl rfl ?_
      refine zk_aload_n (pc := 5) B dX12_personsAboard_5 0 rfl rfl ?_
      refine zk_iload_n (pc := 6) B dX12_personsAboard_6 1 rfl rfl ?_
      refine zk_bipush (v := 24) (pc := 7) B dX12_personsAboard_7 (by decide) ?_
      refine zk_cpi (pc := 9) (k' := 0) (n' := 0) B rfl rfl (Nat.le_of_ble_eq_true rfl) (Nat.le_of_ble_eq_true rfl) (fun b hb => zr_V B hR kV_yX12_in2 km_12_268 kx_12 (gModel_s ha) [.int v1, .int 24] rfl rfl (Nat.le_of_ble_eq_true rfl) dX12_personsAboard_9 (m_Model_in2 hX ha v1 24 M b hb) ⟨Nat.le_of_ble_eq_true rfl, Nat.le_of_ble_eq_true rfl⟩ ⟨Nat.le_of_ble_eq_true rfl, Nat.le_of_ble_eq_true rfl⟩) (fun x1 _ => ?_)
      refine zk_icmp_ge (tgt := 38) (pc := 12) B dX12_personsAboard_12 (by decide) (fun _ => ?_) (fun _ => ?_)
      · refine zk_iload_n (pc := 38) B dX12_personsAboard_38 2 rfl rfl ?_
        exact zk_iret (pc := 39) B dX12_personsAboard_39 rfl rfl (Nat.le_of_ble_eq_true rfl) (Nat.le_of_ble_eq_true rfl) rfl
      · refine zk_iload_n (pc := 15) B dX12_personsAboard_15 2 rfl rfl ?_
        refine zk_aload_n (pc := 16) B dX12_personsAboard_16 0 rfl rfl ?_
        refine zk_aload_n (pc := 17) B dX12_personsAboard_17 0 rfl rfl ?_
        refine zk_iload_n (pc := 18) B dX12_personsAboard_18 1 rfl rfl ?_
        refine zk_bipush (v := 25) (pc := 19) B dX12_personsAboard_19 (by decide) ?_
        refine zk_iload_n (pc := 21) B dX12_personsAboard_21 3 rfl rfl ?_
        refine zk_iadd (pc := 22) B dX12_personsAboard_22 ?_
        refine zk_cpi (pc := 23) (k' := 0) (n' := 0) B rfl rfl (Nat.le_of_ble_eq_true rfl) (Nat.le_of_ble_eq_true rfl) (fun b hb => zr_V B hR kV_yX12_in2 km_12_268 kx_12 (gModel_s ha) [.int v1, .int (25 + v3)] rfl rfl (Nat.le_of_ble_eq_true rfl) dX12_personsAboard_23 (m_Model_in2 hX ha v1 (25 + v3) M b hb) ⟨Nat.le_of_ble_eq_true rfl, Nat.le_of_ble_eq_true rfl⟩ ⟨Nat.le_of_ble_eq_true rfl, Nat.le_of_ble_eq_true rfl⟩) (fun x2 _ => ?_)
        refine zk_iconst (v := 3) (pc := 26) B dX12_personsAboard_26 (by decide) ?_
        refine zk_cpi (pc := 27) (k' := 0) (n' := 0) B rfl rfl (Nat.le_of_ble_eq_true rfl) (Nat.le_of_ble_eq_true rfl) (fun b hb => zr_V B hR kV_yX12_of km_12_274 kx_12 (gModel_s ha) [.int x2, .int 3] rfl rfl (Nat.le_of_ble_eq_true rfl) dX12_personsAboard_27 (m_Model_of hX ha x2 3 M b hb) ⟨Nat.le_of_ble_eq_true rfl, Nat.le_of_ble_eq_true rfl⟩ ⟨Nat.le_of_ble_eq_true rfl, Nat.le_of_ble_eq_true rfl⟩) (fun x3 _ => ?_)
        refine zk_iadd (pc := 30) B dX12_personsAboard_30 ?_
        refine zk_li (fun x4 => ?_)
        refine zk_istore_n (loc' := [(2, .int x4), (0, .ref a), (1, .int v1), (3, .int v3)]) (pc := 31) B dX12_personsAboard_31 rfl (by decide) rfl ?_
        refine zk_iinc (y := 1) (lf := fun x5 => [(3, .int x5), (2, .int x4), (0, .ref a), (1, .int v1)]) (pc := 32) B dX12_personsAboard_32 3 rfl (by decide) (by decide) (fun _ => rfl) (fun x5 => ?_)
        refine zk_goto (tgt := 4) (pc := 35) B dX12_personsAboard_35 (by decide) ?_
        refine zk_sub [2, 3, 1, 0] rfl ?_
        exact ih4 v1 x4 x5
  show z_K X F 4 0 0 G (z_ci M) b 0 0 0 [(0, .ref a), (1, .int p0)] [] M (F_Model_personsAboard a p0 M)
  unfold F_Model_personsAboard
  refine zk_iconst (v := 0) (pc := 0) B dX12_personsAboard_0 (by decide) ?_
  refine zk_istore_n (loc' := [(2, .int 0), (0, .ref a), (1, .int p0)]) (pc := 1) B dX12_personsAboard_1 rfl (by decide) rfl ?_
  refine zk_iconst (v := 0) (pc := 2) B dX12_personsAboard_2 (by decide) ?_
  refine zk_istore_n (loc' := [(3, .int 0), (2, .int 0), (0, .ref a), (1, .int p0)]) (pc := 3) B dX12_personsAboard_3 rfl (by decide) rfl ?_
  refine zk_sub [2, 3, 1, 0] rfl ?_
  exact L4 10000 p0 0 0
set_option maxHeartbeats 4000000 in
set_option maxRecDepth 100000 in
theorem m_Model_sumOfWays {X : z_X} (hX : z_ok X) {G : z_Gr} {a : Nat} (ha : g_Model G a) (p0 : Int32) (M : z_Mem) (b : Int32) (h : F_Model_sumOfWays a p0 M = some b) : z_Ct X yX12_sumOfWays cX12_sumOfWays 6 (some .int) ({ frames := 2, cells := 0, slots := 0, locals := 43 } : Room) [.ref a, .int p0] G M (fun o9 G9 M9 => G9 = G ∧ (o9, M9) = (z_ci M) b) := by
  refine z_enter hX (by decide) (Nat.le_of_ble_eq_true rfl) h (fun F B hR => ?_)
  have L12 : ∀ (nf12 : Nat), ∀ (v2 : Int32) (v3 : Int32) (v4 : Int32), z_K X F 6 0 0 G (z_ci M) b 0 0 12 [(0, .ref a), (2, .int v2), (3, .int v3), (4, .int v4)] [] M (F_Model_sumOfWays_L12 a nf12 v2 v3 v4 M) := by
    intro nf12
    induction nf12 with
    | zero => intro v2 v3 v4; exact zk_none
    | succ nf12 ih12 =>
      intro v2 v3 v4
      show z_K X F 6 0 0 G (z_ci M) b 0 0 12 [(0, .ref a), (2, .int v2), (3, .int v3), (4, .int v4)] [] M (F_Model_sumOfWays_B12 a (F_Model_sumOfWays_L12 a nf12) v2 v3 v4 M)
      unfold F_Model_sumOfWays_B12
      refine zk_iload (pc := 12) B dX12_sumOfWays_12 3 rfl ?_
      refine zk_aload_n (pc := 14) B dX12_sumOfWays_14 0 rfl rfl ?_
      refine zk_geti (pc := 15) B kx_12 (gModel_s ha) 39 (by decide) kf_12_271 rfl dX12_sumOfWays_15 ?_
      refine zk_icmp_ge (tgt := 70) (pc := 18) B dX12_sumOfWays_18 (by decide) (fun _ => ?_) (fun _ => ?_)
      · refine zk_iload_n (pc := 70) B dX12_sumOfWays_70 1 rfl rfl ?_
        exact zk_iret (pc := 71) B dX12_sumOfWays_71 rfl rfl (Nat.le_of_ble_eq_true rfl) (Nat.le_of_ble_eq_true rfl) rfl
      · refine zk_aload_n (pc := 21) B dX12_sumOfWays_21 0 rfl rfl ?_
        refine zk_iload_n (pc := 22) B dX12_sumOfWays_22 2 rfl rfl ?_
        refine zk_aload_n (pc := 23) B dX12_sumOfWays_23 0 rfl rfl ?_
        refine zk_aload_n (pc := 24) B dX12_sumOfWays_24 0 rfl rfl ?_
        refine zk_getr (pc := 25) B kx_12 (gModel_s ha) 32 (by decide) kf_12_50 rfl (gModel_f32 ha) dX12_sumOfWays_25 ?_
        refine zk_iload (pc := 28) B dX12_sumOfWays_28 3 rfl ?_
        refine zk_iald (pc := 30) B (gModel_t32 ha) dX12_sumOfWays_30 ?_
        refine zk_cpi (pc := 31) (k' := 0) (n' := 0) B rfl rfl (Nat.le_of_ble_eq_true rfl) (Nat.le_of_ble_eq_true rfl) (fun b hb => zr_V B hR kV_yX12_zoneOf km_12_283 kx_12 (gModel_s ha) [.int (M.1 (a + 13) v4.toNatClampNeg)] rfl rfl (Nat.le_of_ble_eq_true rfl) dX12_sumOfWays_31 (m_Model_zoneOf hX ha (M.1 (a + 13) v4.toNatClampNeg) M b hb) ⟨Nat.le_of_ble_eq_true rfl, Nat.le_of_ble_eq_true rfl⟩ ⟨Nat.le_of_ble_eq_true rfl, Nat.le_of_ble_eq_true rfl⟩) (fun x2 _ => ?_)
        refine zk_cpi (pc := 34) (k' := 0) (n' := 0) B rfl rfl (Nat.le_of_ble_eq_true rfl) (Nat.le_of_ble_eq_true rfl) (fun b hb => zr_V B hR kV_yX12_minutesOf km_12_277 kx_12 (gModel_s ha) [.int v3, .int x2] rfl rfl (Nat.le_of_ble_eq_true rfl) dX12_sumOfWays_34 (m_Model_minutesOf hX ha v3 x2 M b hb) ⟨Nat.le_of_ble_eq_true rfl, Nat.le_of_ble_eq_true rfl⟩ ⟨Nat.le_of_ble_eq_true rfl, Nat.le_of_ble_eq_true rfl⟩) (fun x3 _ => ?_)
        refine zk_istore (loc' := [(5, .int x3), (0, .ref a), (2, .int v2), (3, .int v3), (4, .int v4)]) (pc := 37) B dX12_sumOfWays_37 (by decide) rfl ?_
        refine zk_iload (pc := 39) B dX12_sumOfWays_39 0 rfl ?_
        refine zk_iconst (v := (-1)) (pc := 41) B dX12_sumOfWays_41 (by decide) ?_
        refine zk_icmp_ne (tgt := 47) (pc := 42) B dX12_sumOfWays_42 (by decide) (fun _ => ?_) (fun _ => ?_)
        · refine zk_iload_n (pc := 47) B dX12_sumOfWays_47 2 rfl rfl ?_
          refine zk_iload (pc := 48) B dX12_sumOfWays_48 0 rfl ?_
          refine zk_iadd (pc := 50) B dX12_sumOfWays_50 ?_
          refine zk_li (fun x4 => ?_)
          refine zk_istore_n (loc' := [(2, .int x4), (5, .int x3), (0, .ref a), (3, .int v3), (4, .int v4)]) (pc := 51) B dX12_sumOfWays_51 rfl (by decide) rfl ?_
          refine zk_aload_n (pc := 52) B dX12_sumOfWays_52 2 rfl rfl ?_
          refine zk_aload_n (pc := 53) B dX12_sumOfWays_53 2 rfl rfl ?_
          refine zk_getr (pc := 54) B kx_12 (gModel_s ha) 32 (by decide) kf_12_50 rfl (gModel_f32 ha) dX12_sumOfWays_54 ?_
          refine zk_iload (pc := 57) B dX12_sumOfWays_57 4 rfl ?_
          refine zk_iald (pc := 59) B (gModel_t32 ha) dX12_sumOfWays_59 ?_
          refine zk_cpi (pc := 60) (k' := 0) (n' := 0) B rfl rfl (Nat.le_of_ble_eq_true rfl) (Nat.le_of_ble_eq_true rfl) (fun b hb => zr_V B hR kV_yX12_zoneOf km_12_283 kx_12 (gModel_s ha) [.int (M.1 (a + 13) v4.toNatClampNeg)] rfl rfl (Nat.le_of_ble_eq_true rfl) dX12_sumOfWays_60 (m_Model_zoneOf hX ha (M.1 (a + 13) v4.toNatClampNeg) M b hb) ⟨Nat.le_of_ble_eq_true rfl, Nat.le_of_ble_eq_true rfl⟩ ⟨Nat.le_of_ble_eq_true rfl, Nat.le_of_ble_eq_true rfl⟩) (fun x5 _ => ?_)
          refine zk_istore_n (loc' := [(3, .int x5), (2, .int x4), (5, .int x3), (0, .ref a), (4, .int v4)]) (pc := 63) B dX12_sumOfWays_63 rfl (by decide) rfl ?_
          refine zk_iinc (y := 1) (lf := fun x6 => [(4, .int x6), (3, .int x5), (2, .int x4), (5, .int x3), (0, .ref a)]) (pc := 64) B dX12_sumOfWays_64 4 rfl (by decide) (by decide) (fun _ => rfl) (fun x6 => ?_)
          refine zk_goto (tgt := 12) (pc := 67) B dX12_sumOfWays_67 (by decide) ?_
          refine zk_sub [4, 2, 1, 0] rfl ?_
          exact ih12 x4 x5 x6
        · refine zk_iconst (v := (-1)) (pc := 45) B dX12_sumOfWays_45 (by decide) ?_
          exact zk_iret (pc := 46) B dX12_sumOfWays_46 rfl rfl (Nat.le_of_ble_eq_true rfl) (Nat.le_of_ble_eq_true rfl) rfl
  show z_K X F 6 0 0 G (z_ci M) b 0 0 0 [(0, .ref a), (1, .int p0)] [] M (F_Model_sumOfWays a p0 M)
  unfold F_Model_sumOfWays
  refine zk_iconst (v := 0) (pc := 0) B dX12_sumOfWays_0 (by decide) ?_
  refine zk_istore_n (loc' := [(2, .int 0), (0, .ref a), (1, .int p0)]) (pc := 1) B dX12_sumOfWays_1 rfl (by decide) rfl ?_
  refine zk_aload_n (pc := 2) B dX12_sumOfWays_2 1 rfl rfl ?_
  refine zk_iload_n (pc := 3) B dX12_sumOfWays_3 2 rfl rfl ?_
  refine zk_iconst (v := 0) (pc := 4) B dX12_sumOfWays_4 (by decide) ?_
  refine zk_cpi (pc := 5) (k' := 0) (n' := 0) B rfl rfl (Nat.le_of_ble_eq_true rfl) (Nat.le_of_ble_eq_true rfl) (fun b hb => zr_V B hR kV_yX12_in2 km_12_268 kx_12 (gModel_s ha) [.int p0, .int 0] rfl rfl (Nat.le_of_ble_eq_true rfl) dX12_sumOfWays_5 (m_Model_in2 hX ha p0 0 M b hb) ⟨Nat.le_of_ble_eq_true rfl, Nat.le_of_ble_eq_true rfl⟩ ⟨Nat.le_of_ble_eq_true rfl, Nat.le_of_ble_eq_true rfl⟩) (fun x1 _ => ?_)
  refine zk_istore_n (loc' := [(3, .int x1), (2, .int 0), (0, .ref a), (1, .int p0)]) (pc := 8) B dX12_sumOfWays_8 rfl (by decide) rfl ?_
  refine zk_iconst (v := 0) (pc := 9) B dX12_sumOfWays_9 (by decide) ?_
  refine zk_istore (loc' := [(4, .int 0), (3, .int x1), (2, .int 0), (0, .ref a), (1, .int p0)]) (pc := 10) B dX12_sumOfWays_10 (by decide) rfl ?_
  refine zk_sub [3, 2, 1, 0] rfl ?_
  exact L12 10000 0 x1 0
set_option maxHeartbeats 4000000 in
set_option maxRecDepth 100000 in
theorem m_Model_plans {X : z_X} (hX : z_ok X) {G : z_Gr} {a : Nat} (ha : g_Model G a) (p0 : Int32) (M : z_Mem) (b : Int32 × z_Mem) (h : F_Model_plans a p0 M = some b) : z_Ct X yX12_plans cX12_plans 14 (some .boolean) ({ frames := 3, cells := 0, slots := 0, locals := 65 } : Room) [.ref a, .int p0] G M (fun o9 G9 M9 => G9 = G ∧ (o9, M9) = z_cim b) := by
  refine z_enter hX (by decide) (Nat.le_of_ble_eq_true rfl) h (fun F B hR => ?_)
  have J517 : ∀  (M : z_Mem), z_K X F 14 0 0 G z_cim b 0 0 517 [] [] M (F_Model_plans_J517 a M) := by
    intro  M
    unfold F_Model_plans_J517
    refine zk_iconst (v := 1) (pc := 517) B dX12_plans_517 (by decide) ?_
    refine zk_goto (tgt := 522) (pc := 518) B dX12_plans_518 (by decide) ?_
    exact zk_iret (pc := 522) B dX12_plans_522 rfl rfl (Nat.le_of_ble_eq_true rfl) (Nat.le_of_ble_eq_true rfl) rfl
  have L35 : ∀ (nf35 : Nat), ∀ (v1 : Int32) (v2 : Int32) (v3 : Int32) (v4 : Int32) (v5 : Int32) (v6 : Int32) (v7 : Int32) (M : z_Mem), z_K X F 14 0 0 G z_cim b 0 0 35 [(0, .ref a), (1, .int v1), (2, .int v2), (3, .int v3), (4, .int v4), (5, .int v5), (6, .int v6), (7, .int v7)] [] M (F_Model_plans_L35 a nf35 v1 v2 v3 v4 v5 v6 v7 M) := by
    intro nf35
    induction nf35 with
    | zero => intro v1 v2 v3 v4 v5 v6 v7 M; exact zk_none
    | succ nf35 ih35 =>
      have J459 : ∀ (v1 : Int32) (v4 : Int32) (v5 : Int32) (v6 : Int32) (v7 : Int32) (M : z_Mem), z_K X F 14 0 0 G z_cim b 0 0 459 [(0, .ref a), (1, .int v1), (4, .int v4), (5, .int v5), (6, .int v6), (7, .int v7)] [] M (F_Model_plans_J459 a (F_Model_plans_L35 a nf35) v1 v4 v5 v6 v7 M) := by
        intro v1 v4 v5 v6 v7 M
        unfold F_Model_plans_J459
        refine zk_aload_n (pc := 459) B dX12_plans_459 0 rfl rfl ?_
        refine zk_getr (pc := 460) B kx_12 (gModel_s ha) 35 (by decide) kf_12_59 rfl (gModel_f35 ha) dX12_plans_460 ?_
        refine zk_iload (pc := 463) B dX12_plans_463 5 rfl ?_
        refine zk_iald (pc := 465) B (gModel_t35 ha) dX12_plans_465 ?_
        refine zk_li (fun x29 => ?_)
        refine zk_istore_n (loc' := [(3, .int x29), (0, .ref a), (1, .int v1), (4, .int v4), (5, .int v5), (6, .int v6), (7, .int v7)]) (pc := 466) B dX12_plans_466 rfl (by decide) rfl ?_
        refine zk_aload_n (pc := 467) B dX12_plans_467 1 rfl rfl ?_
        refine zk_aload_n (pc := 468) B dX12_plans_468 1 rfl rfl ?_
        refine zk_getr (pc := 469) B kx_12 (gModel_s ha) 32 (by decide) kf_12_50 rfl (gModel_f32 ha) dX12_plans_469 ?_
        refine zk_iload (pc := 472) B dX12_plans_472 6 rfl ?_
        refine zk_iald (pc := 474) B (gModel_t32 ha) dX12_plans_474 ?_
        refine zk_cpi (pc := 475) (k' := 0) (n' := 0) B rfl rfl (Nat.le_of_ble_eq_true rfl) (Nat.le_of_ble_eq_true rfl) (fun b hb => zr_V B hR kV_yX12_zoneOf km_12_283 kx_12 (gModel_s ha) [.int (M.1 (a + 13) v7.toNatClampNeg)] rfl rfl (Nat.le_of_ble_eq_true rfl) dX12_plans_475 (m_Model_zoneOf hX ha (M.1 (a + 13) v7.toNatClampNeg) M b hb) ⟨Nat.le_of_ble_eq_true rfl, Nat.le_of_ble_eq_true rfl⟩ ⟨Nat.le_of_ble_eq_true rfl, Nat.le_of_ble_eq_true rfl⟩) (fun x30 _ => ?_)
        refine zk_istore_n (loc' := [(2, .int x30), (3, .int x29), (0, .ref a), (1, .int v1), (4, .int v4), (5, .int v5), (6, .int v6), (7, .int v7)]) (pc := 478) B dX12_plans_478 rfl (by decide) rfl ?_
        refine zk_iinc (y := 1) (lf := fun x31 => [(7, .int x31), (2, .int x30), (3, .int x29), (0, .ref a), (1, .int v1), (4, .int v4), (5, .int v5), (6, .int v6)]) (pc := 479) B dX12_plans_479 7 rfl (by decide) (by decide) (fun _ => rfl) (fun x31 => ?_)
        refine zk_goto (tgt := 35) (pc := 482) B dX12_plans_482 (by decide) ?_
        refine zk_sub [3, 4, 1, 2, 5, 6, 7, 0] rfl ?_
        exact ih35 v1 x30 x29 v4 v5 v6 x31 M
      have J445 : ∀ (v1 : Int32) (v4 : Int32) (v5 : Int32) (v7 : Int32) (v8 : Int32) (s0 : Int32) (M : z_Mem), z_K X F 14 0 0 G z_cim b 0 0 445 [(0, .ref a), (1, .int v1), (4, .int v4), (5, .int v5), (7, .int v7), (8, .int v8)] [.int s0] M (F_Model_plans_J445 a (F_Model_plans_L35 a nf35) v1 v4 v5 v7 v8 s0 M) := by
        intro v1 v4 v5 v7 v8 s0 M
        unfold F_Model_plans_J445
        refine zk_istore (loc' := [(6, .int s0), (0, .ref a), (1, .int v1), (4, .int v4), (5, .int v5), (7, .int v7), (8, .int v8)]) (pc := 445) B dX12_plans_445 (by decide) rfl ?_
        refine zk_iload (pc := 447) B dX12_plans_447 4 rfl ?_
        refine zk_aload_n (pc := 449) B dX12_plans_449 1 rfl rfl ?_
        refine zk_iload (pc := 450) B dX12_plans_450 6 rfl ?_
        refine zk_iconst (v := 3) (pc := 452) B dX12_plans_452 (by decide) ?_
        refine zk_cpi (pc := 453) (k' := 0) (n' := 0) B rfl rfl (Nat.le_of_ble_eq_true rfl) (Nat.le_of_ble_eq_true rfl) (fun b hb => zr_V B hR kV_yX12_of km_12_274 kx_12 (gModel_s ha) [.int v8, .int 3] rfl rfl (Nat.le_of_ble_eq_true rfl) dX12_plans_453 (m_Model_of hX ha v8 3 M b hb) ⟨Nat.le_of_ble_eq_true rfl, Nat.le_of_ble_eq_true rfl⟩ ⟨Nat.le_of_ble_eq_true rfl, Nat.le_of_ble_eq_true rfl⟩) (fun x27 _ => ?_)
        refine zk_isub (pc := 456) B dX12_plans_456 ?_
        refine zk_li (fun x28 => ?_)
        refine zk_istore (loc' := [(5, .int x28), (6, .int s0), (0, .ref a), (1, .int v1), (4, .int v4), (7, .int v7), (8, .int v8)]) (pc := 457) B dX12_plans_457 (by decide) rfl ?_
        refine zk_sub [2, 3, 4, 0, 1, 5] rfl ?_
        exact J459 v1 v4 x28 s0 v7 M
      have J444 : ∀ (v1 : Int32) (v4 : Int32) (v5 : Int32) (v7 : Int32) (v8 : Int32) (M : z_Mem), z_K X F 14 0 0 G z_cim b 0 0 444 [(0, .ref a), (1, .int v1), (4, .int v4), (5, .int v5), (7, .int v7), (8, .int v8)] [] M (F_Model_plans_J444 a (F_Model_plans_L35 a nf35) v1 v4 v5 v7 v8 M) := by
        intro v1 v4 v5 v7 v8 M
        unfold F_Model_plans_J444
        refine zk_iconst (v := 0) (pc := 444) B dX12_plans_444 (by decide) ?_
        exact J445 v1 v4 v5 v7 v8 0 M
      have J414 : ∀ (v1 : Int32) (v4 : Int32) (v5 : Int32) (v6 : Int32) (v7 : Int32) (v8 : Int32) (s0 : Int32) (M : z_Mem), z_K X F 14 0 0 G z_cim b 0 0 414 [(0, .ref a), (1, .int v1), (4, .int v4), (5, .int v5), (6, .int v6), (7, .int v7), (8, .int v8)] [.int s0] M (F_Model_plans_J414 a (F_Model_plans_L35 a nf35) v1 v4 v5 v6 v7 v8 s0 M) := by
        intro v1 v4 v5 v6 v7 v8 s0 M
        unfold F_Model_plans_J414
        refine zk_istore (loc' := [(13, .int s0), (0, .ref a), (1, .int v1), (4, .int v4), (5, .int v5), (6, .int v6), (7, .int v7), (8, .int v8)]) (pc := 414) B dX12_plans_414 (by decide) rfl ?_
        refine zk_iload (pc := 416) B dX12_plans_416 5 rfl ?_
        refine zk_if_eq (tgt := 444) (pc := 418) B dX12_plans_418 (by decide) (fun _ => ?_) (fun _ => ?_)
        · refine zk_sub [1, 2, 3, 4, 6, 7] rfl ?_
          exact J444 v1 v4 v5 v7 v8 M
        · refine zk_aload_n (pc := 421) B dX12_plans_421 1 rfl rfl ?_
          refine zk_getr (pc := 422) B kx_12 (gModel_s ha) 34 (by decide) kf_12_56 rfl (gModel_f34 ha) dX12_plans_422 ?_
          refine zk_iload (pc := 425) B dX12_plans_425 6 rfl ?_
          refine zk_iald (pc := 427) B (gModel_t34 ha) dX12_plans_427 ?_
          refine zk_iload (pc := 428) B dX12_plans_428 0 rfl ?_
          refine zk_aload_n (pc := 430) B dX12_plans_430 1 rfl rfl ?_
          refine zk_iload (pc := 431) B dX12_plans_431 7 rfl ?_
          refine zk_cpi (pc := 433) (k' := 0) (n' := 0) B rfl rfl (Nat.le_of_ble_eq_true rfl) (Nat.le_of_ble_eq_true rfl) (fun b hb => zr_V B hR kV_yX12_mostOf km_12_295 kx_12 (gModel_s ha) [.int v8] rfl rfl (Nat.le_of_ble_eq_true rfl) dX12_plans_433 (m_Model_mostOf hX ha v8 M b hb) ⟨Nat.le_of_ble_eq_true rfl, Nat.le_of_ble_eq_true rfl⟩ ⟨Nat.le_of_ble_eq_true rfl, Nat.le_of_ble_eq_true rfl⟩) (fun x26 _ => ?_)
          refine zk_iadd (pc := 436) B dX12_plans_436 ?_
          refine zk_icmp_gt (tgt := 444) (pc := 437) B dX12_plans_437 (by decide) (fun _ => ?_) (fun _ => ?_)
          · refine zk_sub [1, 2, 3, 4, 6, 7] rfl ?_
            exact J444 v1 v4 v5 v7 v8 M
          · refine zk_iconst (v := 1) (pc := 440) B dX12_plans_440 (by decide) ?_
            refine zk_goto (tgt := 445) (pc := 441) B dX12_plans_441 (by decide) ?_
            refine zk_sub [1, 2, 3, 4, 6, 7] rfl ?_
            exact J445 v1 v4 v5 v7 v8 1 M
      have J379 : ∀ (v1 : Int32) (v4 : Int32) (v6 : Int32) (v7 : Int32) (s0 : Int32) (s1 : Int32) (M : z_Mem), z_K X F 14 0 0 G z_cim b 0 0 379 [(0, .ref a), (1, .int v1), (4, .int v4), (6, .int v6), (7, .int v7)] [.int s0, .int s1] M (F_Model_plans_J379 a (F_Model_plans_L35 a nf35) v1 v4 v6 v7 s0 s1 M) := by
        intro v1 v4 v6 v7 s0 s1 M
        unfold F_Model_plans_J379
        refine zk_iadd (pc := 379) B dX12_plans_379 ?_
        refine zk_li (fun x34 => ?_)
        refine zk_istore (loc' := [(5, .int x34), (0, .ref a), (1, .int v1), (4, .int v4), (6, .int v6), (7, .int v7)]) (pc := 380) B dX12_plans_380 (by decide) rfl ?_
        refine zk_goto (tgt := 459) (pc := 382) B dX12_plans_382 (by decide) ?_
        refine zk_sub [1, 2, 3, 0, 4, 5] rfl ?_
        exact J459 v1 v4 x34 v6 v7 M
      have J345 : ∀ (v1 : Int32) (v4 : Int32) (v5 : Int32) (v7 : Int32) (v8 : Int32) (v12 : Int32) (s0 : Int32) (M : z_Mem), z_K X F 14 0 0 G z_cim b 0 0 345 [(0, .ref a), (1, .int v1), (4, .int v4), (5, .int v5), (7, .int v7), (8, .int v8), (12, .int v12)] [.int s0] M (F_Model_plans_J345 a (F_Model_plans_L35 a nf35) v1 v4 v5 v7 v8 v12 s0 M) := by
        intro v1 v4 v5 v7 v8 v12 s0 M
        unfold F_Model_plans_J345
        refine zk_istore (loc' := [(6, .int s0), (0, .ref a), (1, .int v1), (4, .int v4), (5, .int v5), (7, .int v7), (8, .int v8), (12, .int v12)]) (pc := 345) B dX12_plans_345 (by decide) rfl ?_
        refine zk_aload_n (pc := 347) B dX12_plans_347 1 rfl rfl ?_
        refine zk_getr (pc := 348) B kx_12 (gModel_s ha) 38 (by decide) kf_12_68 rfl (gModel_f38 ha) dX12_plans_348 ?_
        refine zk_iload (pc := 351) B dX12_plans_351 6 rfl ?_
        refine zk_aload_n (pc := 353) B dX12_plans_353 1 rfl rfl ?_
        refine zk_getr (pc := 354) B kx_12 (gModel_s ha) 35 (by decide) kf_12_59 rfl (gModel_f35 ha) dX12_plans_354 ?_
        refine zk_iload (pc := 357) B dX12_plans_357 5 rfl ?_
        refine zk_iald (pc := 359) B (gModel_t35 ha) dX12_plans_359 ?_
        refine zk_iast (pc := 360) B (gModel_t38 ha) dX12_plans_360 ?_
        refine zk_lm (fun M32 => ?_)
        refine zk_iload (pc := 361) B dX12_plans_361 4 rfl ?_
        refine zk_iload (pc := 363) B dX12_plans_363 7 rfl ?_
        refine zk_if_eq (tgt := 372) (pc := 365) B dX12_plans_365 (by decide) (fun _ => ?_) (fun _ => ?_)
        · refine zk_aload_n (pc := 372) B dX12_plans_372 1 rfl rfl ?_
          refine zk_iload (pc := 373) B dX12_plans_373 6 rfl ?_
          refine zk_iconst (v := 3) (pc := 375) B dX12_plans_375 (by decide) ?_
          refine zk_cpi (pc := 376) (k' := 0) (n' := 0) B rfl rfl (Nat.le_of_ble_eq_true rfl) (Nat.le_of_ble_eq_true rfl) (fun b hb => zr_V B hR kV_yX12_of km_12_274 kx_12 (gModel_s ha) [.int v8, .int 3] rfl rfl (Nat.le_of_ble_eq_true rfl) dX12_plans_376 (m_Model_of hX ha v8 3 M32 b hb) ⟨Nat.le_of_ble_eq_true rfl, Nat.le_of_ble_eq_true rfl⟩ ⟨Nat.le_of_ble_eq_true rfl, Nat.le_of_ble_eq_true rfl⟩) (fun x33 _ => ?_)
          refine zk_sub [1, 2, 3, 0, 5] rfl ?_
          exact J379 v1 v4 s0 v7 x33 v5 M32
        · refine zk_iconst (v := 0) (pc := 368) B dX12_plans_368 (by decide) ?_
          refine zk_goto (tgt := 379) (pc := 369) B dX12_plans_369 (by decide) ?_
          refine zk_sub [1, 2, 3, 0, 5] rfl ?_
          exact J379 v1 v4 s0 v7 0 v5 M32
      have J344 : ∀ (v1 : Int32) (v4 : Int32) (v5 : Int32) (v7 : Int32) (v8 : Int32) (v12 : Int32) (M : z_Mem), z_K X F 14 0 0 G z_cim b 0 0 344 [(0, .ref a), (1, .int v1), (4, .int v4), (5, .int v5), (7, .int v7), (8, .int v8), (12, .int v12)] [] M (F_Model_plans_J344 a (F_Model_plans_L35 a nf35) v1 v4 v5 v7 v8 v12 M) := by
        intro v1 v4 v5 v7 v8 v12 M
        unfold F_Model_plans_J344
        refine zk_iconst (v := 0) (pc := 344) B dX12_plans_344 (by decide) ?_
        exact J345 v1 v4 v5 v7 v8 v12 0 M
      have J311 : ∀ (v1 : Int32) (v4 : Int32) (v5 : Int32) (v7 : Int32) (v8 : Int32) (v9 : Int32) (v12 : Int32) (s0 : Int32) (M : z_Mem), z_K X F 14 0 0 G z_cim b 0 0 311 [(0, .ref a), (1, .int v1), (4, .int v4), (5, .int v5), (7, .int v7), (8, .int v8), (9, .int v9), (12, .int v12)] [.int s0] M (F_Model_plans_J311 a (F_Model_plans_L35 a nf35) v1 v4 v5 v7 v8 v9 v12 s0 M) := by
        intro v1 v4 v5 v7 v8 v9 v12 s0 M
        unfold F_Model_plans_J311
        refine zk_istore (loc' := [(6, .int s0), (0, .ref a), (1, .int v1), (4, .int v4), (5, .int v5), (7, .int v7), (8, .int v8), (9, .int v9), (12, .int v12)]) (pc := 311) B dX12_plans_311 (by decide) rfl ?_
        refine zk_iload (pc := 313) B dX12_plans_313 7 rfl ?_
        refine zk_if_eq (tgt := 385) (pc := 315) B dX12_plans_315 (by decide) (fun _ => ?_) (fun _ => ?_)
        · refine zk_aload_n (pc := 385) B dX12_plans_385 1 rfl rfl ?_
          refine zk_iload (pc := 386) B dX12_plans_386 6 rfl ?_
          refine zk_iconst (v := 0) (pc := 388) B dX12_plans_388 (by decide) ?_
          refine zk_cpi (pc := 389) (k' := 0) (n' := 0) B rfl rfl (Nat.le_of_ble_eq_true rfl) (Nat.le_of_ble_eq_true rfl) (fun b hb => zr_V B hR kV_yX12_of km_12_274 kx_12 (gModel_s ha) [.int v8, .int 0] rfl rfl (Nat.le_of_ble_eq_true rfl) dX12_plans_389 (m_Model_of hX ha v8 0 M b hb) ⟨Nat.le_of_ble_eq_true rfl, Nat.le_of_ble_eq_true rfl⟩ ⟨Nat.le_of_ble_eq_true rfl, Nat.le_of_ble_eq_true rfl⟩) (fun x23 _ => ?_)
          refine zk_iconst (v := 2) (pc := 392) B dX12_plans_392 (by decide) ?_
          refine zk_icmp_ne (tgt := 407) (pc := 393) B dX12_plans_393 (by decide) (fun _ => ?_) (fun _ => ?_)
          · refine zk_aload_n (pc := 407) B dX12_plans_407 1 rfl rfl ?_
            refine zk_getr (pc := 408) B kx_12 (gModel_s ha) 38 (by decide) kf_12_68 rfl (gModel_f38 ha) dX12_plans_408 ?_
            refine zk_iload (pc := 411) B dX12_plans_411 6 rfl ?_
            refine zk_iald (pc := 413) B (gModel_t38 ha) dX12_plans_413 ?_
            refine zk_sub [1, 2, 3, 4, 0, 5, 6] rfl ?_
            exact J414 v1 v4 v5 s0 v7 v8 (M.1 (a + 19) v8.toNatClampNeg) M
          · refine zk_aload_n (pc := 396) B dX12_plans_396 1 rfl rfl ?_
            refine zk_iload (pc := 397) B dX12_plans_397 6 rfl ?_
            refine zk_bipush (v := 8) (pc := 399) B dX12_plans_399 (by decide) ?_
            refine zk_cpi (pc := 401) (k' := 0) (n' := 0) B rfl rfl (Nat.le_of_ble_eq_true rfl) (Nat.le_of_ble_eq_true rfl) (fun b hb => zr_V B hR kV_yX12_of km_12_274 kx_12 (gModel_s ha) [.int v8, .int 8] rfl rfl (Nat.le_of_ble_eq_true rfl) dX12_plans_401 (m_Model_of hX ha v8 8 M b hb) ⟨Nat.le_of_ble_eq_true rfl, Nat.le_of_ble_eq_true rfl⟩ ⟨Nat.le_of_ble_eq_true rfl, Nat.le_of_ble_eq_true rfl⟩) (fun x24 _ => ?_)
            refine zk_goto (tgt := 414) (pc := 404) B dX12_plans_404 (by decide) ?_
            refine zk_sub [1, 2, 3, 4, 0, 5, 6] rfl ?_
            exact J414 v1 v4 v5 s0 v7 v8 x24 M
        · refine zk_iload (pc := 318) B dX12_plans_318 0 rfl ?_
          refine zk_if_eq (tgt := 344) (pc := 320) B dX12_plans_320 (by decide) (fun _ => ?_) (fun _ => ?_)
          · refine zk_sub [1, 2, 3, 4, 5, 6, 8] rfl ?_
            exact J344 v1 v4 v5 v7 v8 v12 M
          · refine zk_aload_n (pc := 323) B dX12_plans_323 1 rfl rfl ?_
            refine zk_getr (pc := 324) B kx_12 (gModel_s ha) 34 (by decide) kf_12_56 rfl (gModel_f34 ha) dX12_plans_324 ?_
            refine zk_iload (pc := 327) B dX12_plans_327 5 rfl ?_
            refine zk_iald (pc := 329) B (gModel_t34 ha) dX12_plans_329 ?_
            refine zk_aload_n (pc := 330) B dX12_plans_330 1 rfl rfl ?_
            refine zk_iload (pc := 331) B dX12_plans_331 6 rfl ?_
            refine zk_iconst (v := 5) (pc := 333) B dX12_plans_333 (by decide) ?_
            refine zk_cpi (pc := 334) (k' := 0) (n' := 0) B rfl rfl (Nat.le_of_ble_eq_true rfl) (Nat.le_of_ble_eq_true rfl) (fun b hb => zr_V B hR kV_yX12_of km_12_274 kx_12 (gModel_s ha) [.int v8, .int 5] rfl rfl (Nat.le_of_ble_eq_true rfl) dX12_plans_334 (m_Model_of hX ha v8 5 M b hb) ⟨Nat.le_of_ble_eq_true rfl, Nat.le_of_ble_eq_true rfl⟩ ⟨Nat.le_of_ble_eq_true rfl, Nat.le_of_ble_eq_true rfl⟩) (fun x25 _ => ?_)
            refine zk_icmp_gt (tgt := 344) (pc := 337) B dX12_plans_337 (by decide) (fun _ => ?_) (fun _ => ?_)
            · refine zk_sub [1, 2, 3, 4, 5, 6, 8] rfl ?_
              exact J344 v1 v4 v5 v7 v8 v12 M
            · refine zk_iconst (v := 1) (pc := 340) B dX12_plans_340 (by decide) ?_
              refine zk_goto (tgt := 345) (pc := 341) B dX12_plans_341 (by decide) ?_
              refine zk_sub [1, 2, 3, 4, 5, 6, 8] rfl ?_
              exact J345 v1 v4 v5 v7 v8 v12 1 M
      have J310 : ∀ (v1 : Int32) (v4 : Int32) (v5 : Int32) (v7 : Int32) (v8 : Int32) (v9 : Int32) (v12 : Int32) (M : z_Mem), z_K X F 14 0 0 G z_cim b 0 0 310 [(0, .ref a), (1, .int v1), (4, .int v4), (5, .int v5), (7, .int v7), (8, .int v8), (9, .int v9), (12, .int v12)] [] M (F_Model_plans_J310 a (F_Model_plans_L35 a nf35) v1 v4 v5 v7 v8 v9 v12 M) := by
        intro v1 v4 v5 v7 v8 v9 v12 M
        unfold F_Model_plans_J310
        refine zk_iconst (v := 0) (pc := 310) B dX12_plans_310 (by decide) ?_
        exact J311 v1 v4 v5 v7 v8 v9 v12 0 M
      have J257 : ∀ (v1 : Int32) (v4 : Int32) (v5 : Int32) (v6 : Int32) (v7 : Int32) (v8 : Int32) (v9 : Int32) (v10 : Int32) (v12 : Int32) (s0 : Int32) (s2 : Int32) (s3 : Int32) (M : z_Mem), z_K X F 14 0 0 G z_cim b 0 0 257 [(0, .ref a), (1, .int v1), (4, .int v4), (5, .int v5), (6, .int v6), (7, .int v7), (8, .int v8), (9, .int v9), (10, .int v10), (12, .int v12)] [.int s0, .ref a, .int s2, .int s3, .ref (a + 16)] M (F_Model_plans_J257 a (F_Model_plans_L35 a nf35) v1 v4 v5 v6 v7 v8 v9 v10 v12 s0 s2 s3 M) := by
        intro v1 v4 v5 v6 v7 v8 v9 v10 v12 s0 s2 s3 M
        unfold F_Model_plans_J257
        refine zk_cpi (pc := 257) (k' := 0) (n' := 0) B rfl rfl (Nat.le_of_ble_eq_true rfl) (Nat.le_of_ble_eq_true rfl) (fun b hb => zr_V B hR kV_yX12_ruled km_12_292 kx_12 (gModel_s ha) [.int s0] rfl rfl (Nat.le_of_ble_eq_true rfl) dX12_plans_257 (m_Model_ruled hX ha s0 M b hb) ⟨Nat.le_of_ble_eq_true rfl, Nat.le_of_ble_eq_true rfl⟩ ⟨Nat.le_of_ble_eq_true rfl, Nat.le_of_ble_eq_true rfl⟩) (fun x18 _ => ?_)
        refine zk_iadd (pc := 260) B dX12_plans_260 ?_
        refine zk_iast (pc := 261) B (gModel_t35 ha) dX12_plans_261 ?_
        refine zk_lm (fun M19 => ?_)
        refine zk_aload_n (pc := 262) B dX12_plans_262 0 rfl rfl ?_
        refine zk_getr (pc := 263) B kx_12 (gModel_s ha) 36 (by decide) kf_12_62 rfl (gModel_f36 ha) dX12_plans_263 ?_
        refine zk_iload (pc := 266) B dX12_plans_266 5 rfl ?_
        refine zk_iload (pc := 268) B dX12_plans_268 2 rfl ?_
        refine zk_iast (pc := 270) B (gModel_t36 ha) dX12_plans_270 ?_
        refine zk_lm (fun M20 => ?_)
        refine zk_aload_n (pc := 271) B dX12_plans_271 0 rfl rfl ?_
        refine zk_getr (pc := 272) B kx_12 (gModel_s ha) 37 (by decide) kf_12_65 rfl (gModel_f37 ha) dX12_plans_272 ?_
        refine zk_iload (pc := 275) B dX12_plans_275 5 rfl ?_
        refine zk_iload (pc := 277) B dX12_plans_277 8 rfl ?_
        refine zk_iast (pc := 279) B (gModel_t37 ha) dX12_plans_279 ?_
        refine zk_lm (fun M21 => ?_)
        refine zk_iload (pc := 280) B dX12_plans_280 4 rfl ?_
        refine zk_if_eq (tgt := 310) (pc := 282) B dX12_plans_282 (by decide) (fun _ => ?_) (fun _ => ?_)
        · refine zk_sub [0, 1, 2, 3, 5, 6, 7, 9] rfl ?_
          exact J310 v1 v4 v5 v7 v8 v9 v12 M21
        · refine zk_iload (pc := 285) B dX12_plans_285 3 rfl ?_
          refine zk_aload_n (pc := 287) B dX12_plans_287 0 rfl rfl ?_
          refine zk_getr (pc := 288) B kx_12 (gModel_s ha) 20 (by decide) kf_12_37 rfl (gModel_f20 ha) dX12_plans_288 ?_
          refine zk_iload_n (pc := 291) B dX12_plans_291 1 rfl rfl ?_
          refine zk_iald (pc := 292) B (gModel_t20 ha) dX12_plans_292 ?_
          refine zk_icmp_gt (tgt := 310) (pc := 293) B dX12_plans_293 (by decide) (fun _ => ?_) (fun _ => ?_)
          · refine zk_sub [0, 1, 2, 3, 5, 6, 7, 9] rfl ?_
            exact J310 v1 v4 v5 v7 v8 v9 v12 M21
          · refine zk_iload (pc := 296) B dX12_plans_296 2 rfl ?_
            refine zk_aload_n (pc := 298) B dX12_plans_298 0 rfl rfl ?_
            refine zk_iconst (v := 5) (pc := 299) B dX12_plans_299 (by decide) ?_
            refine zk_cpi (pc := 300) (k' := 0) (n' := 0) B rfl rfl (Nat.le_of_ble_eq_true rfl) (Nat.le_of_ble_eq_true rfl) (fun b hb => zr_V B hR kV_yX12_ruled km_12_292 kx_12 (gModel_s ha) [.int 5] rfl rfl (Nat.le_of_ble_eq_true rfl) dX12_plans_300 (m_Model_ruled hX ha 5 M21 b hb) ⟨Nat.le_of_ble_eq_true rfl, Nat.le_of_ble_eq_true rfl⟩ ⟨Nat.le_of_ble_eq_true rfl, Nat.le_of_ble_eq_true rfl⟩) (fun x22 _ => ?_)
            refine zk_icmp_gt (tgt := 310) (pc := 303) B dX12_plans_303 (by decide) (fun _ => ?_) (fun _ => ?_)
            · refine zk_sub [0, 1, 2, 3, 5, 6, 7, 9] rfl ?_
              exact J310 v1 v4 v5 v7 v8 v9 v12 M21
            · refine zk_iconst (v := 1) (pc := 306) B dX12_plans_306 (by decide) ?_
              refine zk_goto (tgt := 311) (pc := 307) B dX12_plans_307 (by decide) ?_
              refine zk_sub [0, 1, 2, 3, 5, 6, 7, 9] rfl ?_
              exact J311 v1 v4 v5 v7 v8 v9 v12 1 M21
      have J210 : ∀ (v1 : Int32) (v4 : Int32) (v5 : Int32) (v6 : Int32) (v7 : Int32) (v8 : Int32) (v9 : Int32) (v10 : Int32) (v11 : Int32) (s0 : Int32) (M : z_Mem), z_K X F 14 0 0 G z_cim b 0 0 210 [(0, .ref a), (1, .int v1), (4, .int v4), (5, .int v5), (6, .int v6), (7, .int v7), (8, .int v8), (9, .int v9), (10, .int v10), (11, .int v11)] [.int s0] M (F_Model_plans_J210 a (F_Model_plans_L35 a nf35) v1 v4 v5 v6 v7 v8 v9 v10 v11 s0 M) := by
        intro v1 v4 v5 v6 v7 v8 v9 v10 v11 s0 M
        unfold F_Model_plans_J210
        refine zk_istore (loc' := [(12, .int s0), (0, .ref a), (1, .int v1), (4, .int v4), (5, .int v5), (6, .int v6), (7, .int v7), (8, .int v8), (9, .int v9), (10, .int v10), (11, .int v11)]) (pc := 210) B dX12_plans_210 (by decide) rfl ?_
        refine zk_aload_n (pc := 212) B dX12_plans_212 1 rfl rfl ?_
        refine zk_getr (pc := 213) B kx_12 (gModel_s ha) 33 (by decide) kf_12_53 rfl (gModel_f33 ha) dX12_plans_213 ?_
        refine zk_iload (pc := 216) B dX12_plans_216 6 rfl ?_
        refine zk_iload (pc := 218) B dX12_plans_218 10 rfl ?_
        refine zk_iast (pc := 220) B (gModel_t33 ha) dX12_plans_220 ?_
        refine zk_lm (fun M16 => ?_)
        refine zk_aload_n (pc := 221) B dX12_plans_221 1 rfl rfl ?_
        refine zk_getr (pc := 222) B kx_12 (gModel_s ha) 34 (by decide) kf_12_56 rfl (gModel_f34 ha) dX12_plans_222 ?_
        refine zk_iload (pc := 225) B dX12_plans_225 6 rfl ?_
        refine zk_iload (pc := 227) B dX12_plans_227 10 rfl ?_
        refine zk_iload (pc := 229) B dX12_plans_229 9 rfl ?_
        refine zk_iadd (pc := 231) B dX12_plans_231 ?_
        refine zk_iast (pc := 232) B (gModel_t34 ha) dX12_plans_232 ?_
        refine zk_lm (fun M17 => ?_)
        refine zk_aload_n (pc := 233) B dX12_plans_233 1 rfl rfl ?_
        refine zk_getr (pc := 234) B kx_12 (gModel_s ha) 35 (by decide) kf_12_59 rfl (gModel_f35 ha) dX12_plans_234 ?_
        refine zk_iload (pc := 237) B dX12_plans_237 6 rfl ?_
        refine zk_aload_n (pc := 239) B dX12_plans_239 1 rfl rfl ?_
        refine zk_getr (pc := 240) B kx_12 (gModel_s ha) 34 (by decide) kf_12_56 rfl (gModel_f34 ha) dX12_plans_240 ?_
        refine zk_iload (pc := 243) B dX12_plans_243 6 rfl ?_
        refine zk_iald (pc := 245) B (gModel_t34 ha) dX12_plans_245 ?_
        refine zk_aload_n (pc := 246) B dX12_plans_246 1 rfl rfl ?_
        refine zk_iload (pc := 247) B dX12_plans_247 0 rfl ?_
        refine zk_if_eq (tgt := 256) (pc := 249) B dX12_plans_249 (by decide) (fun _ => ?_) (fun _ => ?_)
        · refine zk_iconst (v := 1) (pc := 256) B dX12_plans_256 (by decide) ?_
          refine zk_sub [1, 2, 3, 4, 5, 6, 7, 8, 9, 0] rfl ?_
          exact J257 v1 v4 v5 v6 v7 v8 v9 v10 s0 1 (M17.1 (a + 15) v7.toNatClampNeg) v7 M17
        · refine zk_iconst (v := 3) (pc := 252) B dX12_plans_252 (by decide) ?_
          refine zk_goto (tgt := 257) (pc := 253) B dX12_plans_253 (by decide) ?_
          refine zk_sub [1, 2, 3, 4, 5, 6, 7, 8, 9, 0] rfl ?_
          exact J257 v1 v4 v5 v6 v7 v8 v9 v10 s0 3 (M17.1 (a + 15) v7.toNatClampNeg) v7 M17
      have J209 : ∀ (v1 : Int32) (v4 : Int32) (v5 : Int32) (v6 : Int32) (v7 : Int32) (v8 : Int32) (v9 : Int32) (v10 : Int32) (v11 : Int32) (M : z_Mem), z_K X F 14 0 0 G z_cim b 0 0 209 [(0, .ref a), (1, .int v1), (4, .int v4), (5, .int v5), (6, .int v6), (7, .int v7), (8, .int v8), (9, .int v9), (10, .int v10), (11, .int v11)] [] M (F_Model_plans_J209 a (F_Model_plans_L35 a nf35) v1 v4 v5 v6 v7 v8 v9 v10 v11 M) := by
        intro v1 v4 v5 v6 v7 v8 v9 v10 v11 M
        unfold F_Model_plans_J209
        refine zk_iconst (v := 0) (pc := 209) B dX12_plans_209 (by decide) ?_
        exact J210 v1 v4 v5 v6 v7 v8 v9 v10 v11 0 M
      have J186 : ∀ (v1 : Int32) (v5 : Int32) (v6 : Int32) (v7 : Int32) (v8 : Int32) (v9 : Int32) (v10 : Int32) (v11 : Int32) (s0 : Int32) (M : z_Mem), z_K X F 14 0 0 G z_cim b 0 0 186 [(0, .ref a), (1, .int v1), (5, .int v5), (6, .int v6), (7, .int v7), (8, .int v8), (9, .int v9), (10, .int v10), (11, .int v11)] [.int s0] M (F_Model_plans_J186 a (F_Model_plans_L35 a nf35) v1 v5 v6 v7 v8 v9 v10 v11 s0 M) := by
        intro v1 v5 v6 v7 v8 v9 v10 v11 s0 M
        unfold F_Model_plans_J186
        refine zk_istore (loc' := [(4, .int s0), (0, .ref a), (1, .int v1), (5, .int v5), (6, .int v6), (7, .int v7), (8, .int v8), (9, .int v9), (10, .int v10), (11, .int v11)]) (pc := 186) B dX12_plans_186 (by decide) rfl ?_
        refine zk_iload (pc := 188) B dX12_plans_188 7 rfl ?_
        refine zk_if_eq (tgt := 209) (pc := 190) B dX12_plans_190 (by decide) (fun _ => ?_) (fun _ => ?_)
        · refine zk_sub [1, 2, 0, 3, 4, 5, 6, 7, 8, 9] rfl ?_
          exact J209 v1 s0 v5 v6 v7 v8 v9 v10 v11 M
        · refine zk_aload_n (pc := 193) B dX12_plans_193 1 rfl rfl ?_
          refine zk_iload (pc := 194) B dX12_plans_194 6 rfl ?_
          refine zk_bipush (v := 11) (pc := 196) B dX12_plans_196 (by decide) ?_
          refine zk_cpi (pc := 198) (k' := 0) (n' := 0) B rfl rfl (Nat.le_of_ble_eq_true rfl) (Nat.le_of_ble_eq_true rfl) (fun b hb => zr_V B hR kV_yX12_of km_12_274 kx_12 (gModel_s ha) [.int v8, .int 11] rfl rfl (Nat.le_of_ble_eq_true rfl) dX12_plans_198 (m_Model_of hX ha v8 11 M b hb) ⟨Nat.le_of_ble_eq_true rfl, Nat.le_of_ble_eq_true rfl⟩ ⟨Nat.le_of_ble_eq_true rfl, Nat.le_of_ble_eq_true rfl⟩) (fun x15 _ => ?_)
          refine zk_iconst (v := 1) (pc := 201) B dX12_plans_201 (by decide) ?_
          refine zk_icmp_ne (tgt := 209) (pc := 202) B dX12_plans_202 (by decide) (fun _ => ?_) (fun _ => ?_)
          · refine zk_sub [1, 2, 0, 3, 4, 5, 6, 7, 8, 9] rfl ?_
            exact J209 v1 s0 v5 v6 v7 v8 v9 v10 v11 M
          · refine zk_iconst (v := 1) (pc := 205) B dX12_plans_205 (by decide) ?_
            refine zk_goto (tgt := 210) (pc := 206) B dX12_plans_206 (by decide) ?_
            refine zk_sub [1, 2, 0, 3, 4, 5, 6, 7, 8, 9] rfl ?_
            exact J210 v1 s0 v5 v6 v7 v8 v9 v10 v11 1 M
      have J163 : ∀ (v1 : Int32) (v3 : Int32) (v4 : Int32) (v5 : Int32) (v6 : Int32) (v7 : Int32) (v8 : Int32) (v9 : Int32) (v10 : Int32) (v11 : Int32) (M : z_Mem), z_K X F 14 0 0 G z_cim b 0 0 163 [(0, .ref a), (1, .int v1), (3, .int v3), (4, .int v4), (5, .int v5), (6, .int v6), (7, .int v7), (8, .int v8), (9, .int v9), (10, .int v10), (11, .int v11)] [] M (F_Model_plans_J163 a (F_Model_plans_L35 a nf35) v1 v3 v4 v5 v6 v7 v8 v9 v10 v11 M) := by
        intro v1 v3 v4 v5 v6 v7 v8 v9 v10 v11 M
        unfold F_Model_plans_J163
        refine zk_iload (pc := 163) B dX12_plans_163 10 rfl ?_
        refine zk_iload_n (pc := 165) B dX12_plans_165 2 rfl rfl ?_
        refine zk_isub (pc := 166) B dX12_plans_166 ?_
        refine zk_aload_n (pc := 167) B dX12_plans_167 0 rfl rfl ?_
        refine zk_bipush (v := 6) (pc := 168) B dX12_plans_168 (by decide) ?_
        refine zk_cpi (pc := 170) (k' := 0) (n' := 0) B rfl rfl (Nat.le_of_ble_eq_true rfl) (Nat.le_of_ble_eq_true rfl) (fun b hb => zr_V B hR kV_yX12_ruled km_12_292 kx_12 (gModel_s ha) [.int 6] rfl rfl (Nat.le_of_ble_eq_true rfl) dX12_plans_170 (m_Model_ruled hX ha 6 M b hb) ⟨Nat.le_of_ble_eq_true rfl, Nat.le_of_ble_eq_true rfl⟩ ⟨Nat.le_of_ble_eq_true rfl, Nat.le_of_ble_eq_true rfl⟩) (fun x14 _ => ?_)
        refine zk_icmp_lt (tgt := 181) (pc := 173) B dX12_plans_173 (by decide) (fun _ => ?_) (fun _ => ?_)
        · refine zk_iload (pc := 181) B dX12_plans_181 3 rfl ?_
          refine zk_iload (pc := 183) B dX12_plans_183 9 rfl ?_
          refine zk_iadd (pc := 185) B dX12_plans_185 ?_
          refine zk_sub [0, 1, 4, 5, 6, 7, 8, 9, 10] rfl ?_
          exact J186 v1 v5 v6 v7 v8 v9 v10 v11 (v4 + v10) M
        · refine zk_iload (pc := 176) B dX12_plans_176 9 rfl ?_
          refine zk_goto (tgt := 186) (pc := 178) B dX12_plans_178 (by decide) ?_
          refine zk_sub [0, 1, 4, 5, 6, 7, 8, 9, 10] rfl ?_
          exact J186 v1 v5 v6 v7 v8 v9 v10 v11 v10 M
      have J161 : ∀ (v1 : Int32) (v3 : Int32) (v4 : Int32) (v5 : Int32) (v6 : Int32) (v7 : Int32) (v8 : Int32) (v9 : Int32) (v10 : Int32) (s0 : Int32) (M : z_Mem), z_K X F 14 0 0 G z_cim b 0 0 161 [(0, .ref a), (1, .int v1), (3, .int v3), (4, .int v4), (5, .int v5), (6, .int v6), (7, .int v7), (8, .int v8), (9, .int v9), (10, .int v10)] [.int s0] M (F_Model_plans_J161 a (F_Model_plans_L35 a nf35) v1 v3 v4 v5 v6 v7 v8 v9 v10 s0 M) := by
        intro v1 v3 v4 v5 v6 v7 v8 v9 v10 s0 M
        unfold F_Model_plans_J161
        refine zk_istore (loc' := [(11, .int s0), (0, .ref a), (1, .int v1), (3, .int v3), (4, .int v4), (5, .int v5), (6, .int v6), (7, .int v7), (8, .int v8), (9, .int v9), (10, .int v10)]) (pc := 161) B dX12_plans_161 (by decide) rfl ?_
        refine zk_sub [1, 2, 3, 4, 5, 6, 7, 8, 9, 10, 0] rfl ?_
        exact J163 v1 v3 v4 v5 v6 v7 v8 v9 v10 s0 M
      have J124 : ∀ (v1 : Int32) (v3 : Int32) (v4 : Int32) (v5 : Int32) (v6 : Int32) (v7 : Int32) (v8 : Int32) (v9 : Int32) (v10 : Int32) (s0 : Int32) (M : z_Mem), z_K X F 14 0 0 G z_cim b 0 0 124 [(0, .ref a), (1, .int v1), (3, .int v3), (4, .int v4), (5, .int v5), (6, .int v6), (7, .int v7), (8, .int v8), (9, .int v9), (10, .int v10)] [.int s0] M (F_Model_plans_J124 a (F_Model_plans_L35 a nf35) v1 v3 v4 v5 v6 v7 v8 v9 v10 s0 M) := by
        intro v1 v3 v4 v5 v6 v7 v8 v9 v10 s0 M
        unfold F_Model_plans_J124
        refine zk_istore (loc' := [(11, .int s0), (0, .ref a), (1, .int v1), (3, .int v3), (4, .int v4), (5, .int v5), (6, .int v6), (7, .int v7), (8, .int v8), (9, .int v9), (10, .int v10)]) (pc := 124) B dX12_plans_124 (by decide) rfl ?_
        refine zk_iload (pc := 126) B dX12_plans_126 7 rfl ?_
        refine zk_if_ne (tgt := 163) (pc := 128) B dX12_plans_128 (by decide) (fun _ => ?_) (fun _ => ?_)
        · refine zk_sub [1, 2, 3, 4, 5, 6, 7, 8, 9, 10, 0] rfl ?_
          exact J163 v1 v3 v4 v5 v6 v7 v8 v9 v10 s0 M
        · refine zk_aload_n (pc := 131) B dX12_plans_131 1 rfl rfl ?_
          refine zk_iload_n (pc := 132) B dX12_plans_132 2 rfl rfl ?_
          refine zk_iconst (v := 3) (pc := 133) B dX12_plans_133 (by decide) ?_
          refine zk_cpi (pc := 134) (k' := 0) (n' := 0) B rfl rfl (Nat.le_of_ble_eq_true rfl) (Nat.le_of_ble_eq_true rfl) (fun b hb => zr_V B hR kV_yX12_in2 km_12_268 kx_12 (gModel_s ha) [.int v1, .int 3] rfl rfl (Nat.le_of_ble_eq_true rfl) dX12_plans_134 (m_Model_in2 hX ha v1 3 M b hb) ⟨Nat.le_of_ble_eq_true rfl, Nat.le_of_ble_eq_true rfl⟩ ⟨Nat.le_of_ble_eq_true rfl, Nat.le_of_ble_eq_true rfl⟩) (fun x11 _ => ?_)
          refine zk_iconst (v := (-1)) (pc := 137) B dX12_plans_137 (by decide) ?_
          refine zk_icmp_ne (tgt := 155) (pc := 138) B dX12_plans_138 (by decide) (fun _ => ?_) (fun _ => ?_)
          · refine zk_aload_n (pc := 155) B dX12_plans_155 1 rfl rfl ?_
            refine zk_iload_n (pc := 156) B dX12_plans_156 2 rfl rfl ?_
            refine zk_iconst (v := 3) (pc := 157) B dX12_plans_157 (by decide) ?_
            refine zk_cpi (pc := 158) (k' := 0) (n' := 0) B rfl rfl (Nat.le_of_ble_eq_true rfl) (Nat.le_of_ble_eq_true rfl) (fun b hb => zr_V B hR kV_yX12_in2 km_12_268 kx_12 (gModel_s ha) [.int v1, .int 3] rfl rfl (Nat.le_of_ble_eq_true rfl) dX12_plans_158 (m_Model_in2 hX ha v1 3 M b hb) ⟨Nat.le_of_ble_eq_true rfl, Nat.le_of_ble_eq_true rfl⟩ ⟨Nat.le_of_ble_eq_true rfl, Nat.le_of_ble_eq_true rfl⟩) (fun x12 _ => ?_)
            refine zk_sub [1, 2, 3, 4, 5, 6, 7, 8, 9, 10] rfl ?_
            exact J161 v1 v3 v4 v5 v6 v7 v8 v9 v10 x12 M
          · refine zk_iload (pc := 141) B dX12_plans_141 0 rfl ?_
            refine zk_aload_n (pc := 143) B dX12_plans_143 1 rfl rfl ?_
            refine zk_getr (pc := 144) B kx_12 (gModel_s ha) 1 (by decide) kf_12_7 rfl (gModel_f1 ha) dX12_plans_144 ?_
            refine zk_iconst (v := 0) (pc := 147) B dX12_plans_147 (by decide) ?_
            refine zk_iald (pc := 148) B (gModel_t1 ha) dX12_plans_148 ?_
            refine zk_cpi (pc := 149) (k' := 0) (n' := 0) B rfl rfl (Nat.le_of_ble_eq_true rfl) (Nat.le_of_ble_eq_true rfl) (fun b hb => zr_S B hR kS_yX12_greater km_12_289 [.int s0, .int (M.1 (a + 1) (0 : Int32).toNatClampNeg)] rfl rfl (Nat.le_of_ble_eq_true rfl) dX12_plans_149 (m_Model_greater hX s0 (M.1 (a + 1) (0 : Int32).toNatClampNeg) M b hb) ⟨Nat.le_of_ble_eq_true rfl, Nat.le_of_ble_eq_true rfl⟩ ⟨Nat.le_of_ble_eq_true rfl, Nat.le_of_ble_eq_true rfl⟩) (fun x13 _ => ?_)
            refine zk_goto (tgt := 161) (pc := 152) B dX12_plans_152 (by decide) ?_
            refine zk_sub [1, 2, 3, 4, 5, 6, 7, 8, 9, 10] rfl ?_
            exact J161 v1 v3 v4 v5 v6 v7 v8 v9 v10 x13 M
      have J73 : ∀ (v1 : Int32) (v2 : Int32) (v3 : Int32) (v4 : Int32) (v5 : Int32) (v6 : Int32) (v7 : Int32) (v8 : Int32) (s0 : Int32) (M : z_Mem), z_K X F 14 0 0 G z_cim b 0 0 73 [(0, .ref a), (1, .int v1), (2, .int v2), (3, .int v3), (4, .int v4), (5, .int v5), (6, .int v6), (7, .int v7), (8, .int v8)] [.int s0] M (F_Model_plans_J73 a (F_Model_plans_L35 a nf35) v1 v2 v3 v4 v5 v6 v7 v8 s0 M) := by
        intro v1 v2 v3 v4 v5 v6 v7 v8 s0 M
        unfold F_Model_plans_J73
        refine zk_istore (loc' := [(9, .int s0), (0, .ref a), (1, .int v1), (2, .int v2), (3, .int v3), (4, .int v4), (5, .int v5), (6, .int v6), (7, .int v7), (8, .int v8)]) (pc := 73) B dX12_plans_73 (by decide) rfl ?_
        refine zk_aload_n (pc := 75) B dX12_plans_75 1 rfl rfl ?_
        refine zk_iload_n (pc := 76) B dX12_plans_76 3 rfl rfl ?_
        refine zk_aload_n (pc := 77) B dX12_plans_77 1 rfl rfl ?_
        refine zk_aload_n (pc := 78) B dX12_plans_78 1 rfl rfl ?_
        refine zk_getr (pc := 79) B kx_12 (gModel_s ha) 32 (by decide) kf_12_50 rfl (gModel_f32 ha) dX12_plans_79 ?_
        refine zk_iload (pc := 82) B dX12_plans_82 8 rfl ?_
        refine zk_iald (pc := 84) B (gModel_t32 ha) dX12_plans_84 ?_
        refine zk_cpi (pc := 85) (k' := 0) (n' := 0) B rfl rfl (Nat.le_of_ble_eq_true rfl) (Nat.le_of_ble_eq_true rfl) (fun b hb => zr_V B hR kV_yX12_zoneOf km_12_283 kx_12 (gModel_s ha) [.int (M.1 (a + 13) v7.toNatClampNeg)] rfl rfl (Nat.le_of_ble_eq_true rfl) dX12_plans_85 (m_Model_zoneOf hX ha (M.1 (a + 13) v7.toNatClampNeg) M b hb) ⟨Nat.le_of_ble_eq_true rfl, Nat.le_of_ble_eq_true rfl⟩ ⟨Nat.le_of_ble_eq_true rfl, Nat.le_of_ble_eq_true rfl⟩) (fun x7 _ => ?_)
        refine zk_cpi (pc := 88) (k' := 0) (n' := 0) B rfl rfl (Nat.le_of_ble_eq_true rfl) (Nat.le_of_ble_eq_true rfl) (fun b hb => zr_V B hR kV_yX12_minutesOf km_12_277 kx_12 (gModel_s ha) [.int v2, .int x7] rfl rfl (Nat.le_of_ble_eq_true rfl) dX12_plans_88 (m_Model_minutesOf hX ha v2 x7 M b hb) ⟨Nat.le_of_ble_eq_true rfl, Nat.le_of_ble_eq_true rfl⟩ ⟨Nat.le_of_ble_eq_true rfl, Nat.le_of_ble_eq_true rfl⟩) (fun x8 _ => ?_)
        refine zk_istore (loc' := [(10, .int x8), (9, .int s0), (0, .ref a), (1, .int v1), (2, .int v2), (3, .int v3), (4, .int v4), (5, .int v5), (6, .int v6), (7, .int v7), (8, .int v8)]) (pc := 91) B dX12_plans_91 (by decide) rfl ?_
        refine zk_iload (pc := 93) B dX12_plans_93 0 rfl ?_
        refine zk_iconst (v := (-1)) (pc := 95) B dX12_plans_95 (by decide) ?_
        refine zk_icmp_ne (tgt := 101) (pc := 96) B dX12_plans_96 (by decide) (fun _ => ?_) (fun _ => ?_)
        · refine zk_iload (pc := 101) B dX12_plans_101 1 rfl ?_
          refine zk_if_eq (tgt := 123) (pc := 103) B dX12_plans_103 (by decide) (fun _ => ?_) (fun _ => ?_)
          · refine zk_iload_n (pc := 123) B dX12_plans_123 5 rfl rfl ?_
            refine zk_sub [2, 3, 5, 6, 7, 8, 9, 10, 1, 0] rfl ?_
            exact J124 v1 v3 v4 v5 v6 v7 v8 s0 x8 v3 M
          · refine zk_iload_n (pc := 106) B dX12_plans_106 5 rfl rfl ?_
            refine zk_aload_n (pc := 107) B dX12_plans_107 2 rfl rfl ?_
            refine zk_iload (pc := 108) B dX12_plans_108 10 rfl ?_
            refine zk_iconst (v := 4) (pc := 110) B dX12_plans_110 (by decide) ?_
            refine zk_cpi (pc := 111) (k' := 0) (n' := 0) B rfl rfl (Nat.le_of_ble_eq_true rfl) (Nat.le_of_ble_eq_true rfl) (fun b hb => zr_V B hR kV_yX12_of km_12_274 kx_12 (gModel_s ha) [.int v8, .int 4] rfl rfl (Nat.le_of_ble_eq_true rfl) dX12_plans_111 (m_Model_of hX ha v8 4 M b hb) ⟨Nat.le_of_ble_eq_true rfl, Nat.le_of_ble_eq_true rfl⟩ ⟨Nat.le_of_ble_eq_true rfl, Nat.le_of_ble_eq_true rfl⟩) (fun x9 _ => ?_)
            refine zk_iload (pc := 114) B dX12_plans_114 0 rfl ?_
            refine zk_isub (pc := 116) B dX12_plans_116 ?_
            refine zk_cpi (pc := 117) (k' := 0) (n' := 0) B rfl rfl (Nat.le_of_ble_eq_true rfl) (Nat.le_of_ble_eq_true rfl) (fun b hb => zr_S B hR kS_yX12_greater km_12_289 [.int v3, .int (x9 - x8)] rfl rfl (Nat.le_of_ble_eq_true rfl) dX12_plans_117 (m_Model_greater hX v3 (x9 - x8) M b hb) ⟨Nat.le_of_ble_eq_true rfl, Nat.le_of_ble_eq_true rfl⟩ ⟨Nat.le_of_ble_eq_true rfl, Nat.le_of_ble_eq_true rfl⟩) (fun x10 _ => ?_)
            refine zk_goto (tgt := 124) (pc := 120) B dX12_plans_120 (by decide) ?_
            refine zk_sub [2, 3, 5, 6, 7, 8, 9, 10, 1, 0] rfl ?_
            exact J124 v1 v3 v4 v5 v6 v7 v8 s0 x8 x10 M
        · refine zk_iconst (v := 0) (pc := 99) B dX12_plans_99 (by decide) ?_
          exact zk_iret (pc := 100) B dX12_plans_100 rfl rfl (Nat.le_of_ble_eq_true rfl) (Nat.le_of_ble_eq_true rfl) rfl
      intro v1 v2 v3 v4 v5 v6 v7 M
      show z_K X F 14 0 0 G z_cim b 0 0 35 [(0, .ref a), (1, .int v1), (2, .int v2), (3, .int v3), (4, .int v4), (5, .int v5), (6, .int v6), (7, .int v7)] [] M (F_Model_plans_B35 a (F_Model_plans_L35 a nf35) v1 v2 v3 v4 v5 v6 v7 M)
      unfold F_Model_plans_B35
      refine zk_iload (pc := 35) B dX12_plans_35 7 rfl ?_
      refine zk_aload_n (pc := 37) B dX12_plans_37 0 rfl rfl ?_
      refine zk_geti (pc := 38) B kx_12 (gModel_s ha) 39 (by decide) kf_12_271 rfl dX12_plans_38 ?_
      refine zk_icmp_ge (tgt := 485) (pc := 41) B dX12_plans_41 (by decide) (fun _ => ?_) (fun _ => ?_)
      · refine zk_iload (pc := 485) B dX12_plans_485 6 rfl ?_
        refine zk_if_eq (tgt := 521) (pc := 487) B dX12_plans_487 (by decide) (fun _ => ?_) (fun _ => ?_)
        · refine zk_iconst (v := 0) (pc := 521) B dX12_plans_521 (by decide) ?_
          exact zk_iret (pc := 522) B dX12_plans_522 rfl rfl (Nat.le_of_ble_eq_true rfl) (Nat.le_of_ble_eq_true rfl) rfl
        · refine zk_aload_n (pc := 490) B dX12_plans_490 0 rfl rfl ?_
          refine zk_geti (pc := 491) B kx_12 (gModel_s ha) 39 (by decide) kf_12_271 rfl dX12_plans_491 ?_
          refine zk_if_eq (tgt := 517) (pc := 494) B dX12_plans_494 (by decide) (fun _ => ?_) (fun _ => ?_)
          · refine zk_sub [] rfl ?_
            exact J517 M
          · refine zk_aload_n (pc := 497) B dX12_plans_497 0 rfl rfl ?_
            refine zk_getr (pc := 498) B kx_12 (gModel_s ha) 35 (by decide) kf_12_59 rfl (gModel_f35 ha) dX12_plans_498 ?_
            refine zk_aload_n (pc := 501) B dX12_plans_501 0 rfl rfl ?_
            refine zk_geti (pc := 502) B kx_12 (gModel_s ha) 39 (by decide) kf_12_271 rfl dX12_plans_502 ?_
            refine zk_iconst (v := 1) (pc := 505) B dX12_plans_505 (by decide) ?_
            refine zk_isub (pc := 506) B dX12_plans_506 ?_
            refine zk_iald (pc := 507) B (gModel_t35 ha) dX12_plans_507 ?_
            refine zk_aload_n (pc := 508) B dX12_plans_508 0 rfl rfl ?_
            refine zk_iload_n (pc := 509) B dX12_plans_509 1 rfl rfl ?_
            refine zk_iconst (v := 4) (pc := 510) B dX12_plans_510 (by decide) ?_
            refine zk_cpi (pc := 511) (k' := 0) (n' := 0) B rfl rfl (Nat.le_of_ble_eq_true rfl) (Nat.le_of_ble_eq_true rfl) (fun b hb => zr_V B hR kV_yX12_in2 km_12_268 kx_12 (gModel_s ha) [.int v1, .int 4] rfl rfl (Nat.le_of_ble_eq_true rfl) dX12_plans_511 (m_Model_in2 hX ha v1 4 M b hb) ⟨Nat.le_of_ble_eq_true rfl, Nat.le_of_ble_eq_true rfl⟩ ⟨Nat.le_of_ble_eq_true rfl, Nat.le_of_ble_eq_true rfl⟩) (fun x5 _ => ?_)
            refine zk_icmp_gt (tgt := 521) (pc := 514) B dX12_plans_514 (by decide) (fun _ => ?_) (fun _ => ?_)
            · refine zk_iconst (v := 0) (pc := 521) B dX12_plans_521 (by decide) ?_
              exact zk_iret (pc := 522) B dX12_plans_522 rfl rfl (Nat.le_of_ble_eq_true rfl) (Nat.le_of_ble_eq_true rfl) rfl
            · refine zk_sub [] rfl ?_
              exact J517 M
      · refine zk_aload_n (pc := 44) B dX12_plans_44 0 rfl rfl ?_
        refine zk_getr (pc := 45) B kx_12 (gModel_s ha) 32 (by decide) kf_12_50 rfl (gModel_f32 ha) dX12_plans_45 ?_
        refine zk_iload (pc := 48) B dX12_plans_48 7 rfl ?_
        refine zk_iald (pc := 50) B (gModel_t32 ha) dX12_plans_50 ?_
        refine zk_iconst (v := 2) (pc := 51) B dX12_plans_51 (by decide) ?_
        refine zk_idiv (pc := 52) B dX12_plans_52 (by decide) ?_
        refine zk_li (fun x6 => ?_)
        refine zk_istore (loc' := [(8, .int x6), (0, .ref a), (1, .int v1), (2, .int v2), (3, .int v3), (4, .int v4), (5, .int v5), (6, .int v6), (7, .int v7)]) (pc := 53) B dX12_plans_53 (by decide) rfl ?_
        refine zk_aload_n (pc := 55) B dX12_plans_55 1 rfl rfl ?_
        refine zk_getr (pc := 56) B kx_12 (gModel_s ha) 32 (by decide) kf_12_50 rfl (gModel_f32 ha) dX12_plans_56 ?_
        refine zk_iload (pc := 59) B dX12_plans_59 8 rfl ?_
        refine zk_iald (pc := 61) B (gModel_t32 ha) dX12_plans_61 ?_
        refine zk_iconst (v := 1) (pc := 62) B dX12_plans_62 (by decide) ?_
        refine zk_iand (pc := 63) B dX12_plans_63 ?_
        refine zk_iconst (v := 1) (pc := 64) B dX12_plans_64 (by decide) ?_
        refine zk_icmp_ne (tgt := 72) (pc := 65) B dX12_plans_65 (by decide) (fun _ => ?_) (fun _ => ?_)
        · refine zk_iconst (v := 0) (pc := 72) B dX12_plans_72 (by decide) ?_
          refine zk_sub [1, 2, 3, 4, 5, 6, 7, 8, 0] rfl ?_
          exact J73 v1 v2 v3 v4 v5 v6 v7 x6 0 M
        · refine zk_iconst (v := 1) (pc := 68) B dX12_plans_68 (by decide) ?_
          refine zk_goto (tgt := 73) (pc := 69) B dX12_plans_69 (by decide) ?_
          refine zk_sub [1, 2, 3, 4, 5, 6, 7, 8, 0] rfl ?_
          exact J73 v1 v2 v3 v4 v5 v6 v7 x6 1 M
  show z_K X F 14 0 0 G z_cim b 0 0 0 [(0, .ref a), (1, .int p0)] [] M (F_Model_plans a p0 M)
  unfold F_Model_plans
  refine zk_aload_n (pc := 0) B dX12_plans_0 0 rfl rfl ?_
  refine zk_iload_n (pc := 1) B dX12_plans_1 1 rfl rfl ?_
  refine zk_iconst (v := 0) (pc := 2) B dX12_plans_2 (by decide) ?_
  refine zk_cpi (pc := 3) (k' := 0) (n' := 0) B rfl rfl (Nat.le_of_ble_eq_true rfl) (Nat.le_of_ble_eq_true rfl) (fun b hb => zr_V B hR kV_yX12_in2 km_12_268 kx_12 (gModel_s ha) [.int p0, .int 0] rfl rfl (Nat.le_of_ble_eq_true rfl) dX12_plans_3 (m_Model_in2 hX ha p0 0 M b hb) ⟨Nat.le_of_ble_eq_true rfl, Nat.le_of_ble_eq_true rfl⟩ ⟨Nat.le_of_ble_eq_true rfl, Nat.le_of_ble_eq_true rfl⟩) (fun x1 _ => ?_)
  refine zk_istore_n (loc' := [(2, .int x1), (0, .ref a), (1, .int p0)]) (pc := 6) B dX12_plans_6 rfl (by decide) rfl ?_
  refine zk_aload_n (pc := 7) B dX12_plans_7 1 rfl rfl ?_
  refine zk_iload_n (pc := 8) B dX12_plans_8 2 rfl rfl ?_
  refine zk_iconst (v := 1) (pc := 9) B dX12_plans_9 (by decide) ?_
  refine zk_cpi (pc := 10) (k' := 0) (n' := 0) B rfl rfl (Nat.le_of_ble_eq_true rfl) (Nat.le_of_ble_eq_true rfl) (fun b hb => zr_V B hR kV_yX12_in2 km_12_268 kx_12 (gModel_s ha) [.int p0, .int 1] rfl rfl (Nat.le_of_ble_eq_true rfl) dX12_plans_10 (m_Model_in2 hX ha p0 1 M b hb) ⟨Nat.le_of_ble_eq_true rfl, Nat.le_of_ble_eq_true rfl⟩ ⟨Nat.le_of_ble_eq_true rfl, Nat.le_of_ble_eq_true rfl⟩) (fun x2 _ => ?_)
  refine zk_istore_n (loc' := [(3, .int x2), (2, .int x1), (0, .ref a), (1, .int p0)]) (pc := 13) B dX12_plans_13 rfl (by decide) rfl ?_
  refine zk_aload_n (pc := 14) B dX12_plans_14 2 rfl rfl ?_
  refine zk_iload_n (pc := 15) B dX12_plans_15 3 rfl rfl ?_
  refine zk_iconst (v := 2) (pc := 16) B dX12_plans_16 (by decide) ?_
  refine zk_cpi (pc := 17) (k' := 0) (n' := 0) B rfl rfl (Nat.le_of_ble_eq_true rfl) (Nat.le_of_ble_eq_true rfl) (fun b hb => zr_V B hR kV_yX12_in2 km_12_268 kx_12 (gModel_s ha) [.int p0, .int 2] rfl rfl (Nat.le_of_ble_eq_true rfl) dX12_plans_17 (m_Model_in2 hX ha p0 2 M b hb) ⟨Nat.le_of_ble_eq_true rfl, Nat.le_of_ble_eq_true rfl⟩ ⟨Nat.le_of_ble_eq_true rfl, Nat.le_of_ble_eq_true rfl⟩) (fun x3 _ => ?_)
  refine zk_istore (loc' := [(4, .int x3), (3, .int x2), (2, .int x1), (0, .ref a), (1, .int p0)]) (pc := 20) B dX12_plans_20 (by decide) rfl ?_
  refine zk_aload_n (pc := 22) B dX12_plans_22 3 rfl rfl ?_
  refine zk_iload_n (pc := 23) B dX12_plans_23 4 rfl rfl ?_
  refine zk_cpi (pc := 24) (k' := 0) (n' := 0) B rfl rfl (Nat.le_of_ble_eq_true rfl) (Nat.le_of_ble_eq_true rfl) (fun b hb => zr_V B hR kV_yX12_personsAboard km_12_286 kx_12 (gModel_s ha) [.int p0] rfl rfl (Nat.le_of_ble_eq_true rfl) dX12_plans_24 (m_Model_personsAboard hX ha p0 M b hb) ⟨Nat.le_of_ble_eq_true rfl, Nat.le_of_ble_eq_true rfl⟩ ⟨Nat.le_of_ble_eq_true rfl, Nat.le_of_ble_eq_true rfl⟩) (fun x4 _ => ?_)
  refine zk_istore (loc' := [(5, .int x4), (4, .int x3), (3, .int x2), (2, .int x1), (0, .ref a), (1, .int p0)]) (pc := 27) B dX12_plans_27 (by decide) rfl ?_
  refine zk_iconst (v := 1) (pc := 29) B dX12_plans_29 (by decide) ?_
  refine zk_istore (loc' := [(6, .int 1), (5, .int x4), (4, .int x3), (3, .int x2), (2, .int x1), (0, .ref a), (1, .int p0)]) (pc := 30) B dX12_plans_30 (by decide) rfl ?_
  refine zk_iconst (v := 0) (pc := 32) B dX12_plans_32 (by decide) ?_
  refine zk_istore (loc' := [(7, .int 0), (6, .int 1), (5, .int x4), (4, .int x3), (3, .int x2), (2, .int x1), (0, .ref a), (1, .int p0)]) (pc := 33) B dX12_plans_33 (by decide) rfl ?_
  refine zk_sub [6, 7, 5, 4, 3, 2, 1, 0] rfl ?_
  exact L35 10000 p0 x1 x2 x3 x4 1 0 M
